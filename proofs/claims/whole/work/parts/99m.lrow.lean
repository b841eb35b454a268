-- the law: rows at its own start
abbrev mL : q_Mt := (code, 4, "FaceCutsLaw", ret, false)
section LR
variable {p : Program} {l : Launch} {e : Env} {R : Room} {s : State} {m : MethodId} {args : Array Value} {below : List Frame} {meth : Method} {c : Code} {dC : Nat → ClassId} {dI : Nat → Nat → Nat} {cy : Nat → ClassId} {φ0 : Int → Nat} {base : Nat} {Q : State → Prop} {n : Nat} {M : q_Mem} {ls : List (Option q_AV)} {st : List q_AV}
/-- at the law's own start: from pc with these locals, this stack, these contents it comes to Q -/
def l_U (p : Program) (l : Launch) (e : Env) (R : Room) (s : State) (m : MethodId) (args : Array Value) (below : List Frame) (meth : Method) (c : Code) (dC : Nat → ClassId) (dI : Nat → Nat → Nat) (cy : Nat → ClassId) (φ0 : Int → Nat) (base : Nat) (Q : State → Prop) (n : Nat) (M : q_Mem) (pc : Nat) (ls : List (Option q_AV)) (st : List q_AV) : Prop :=
  ∀ (φ : Int → Nat) (H : Heap) (locs : List Loc) (lsA : Array Slot), q_Dy dC dI cy φ0 φ base 0 n M s H locs → q_okl n ls → q_oks n st → q_Ls lsA mL.2.1 φ ls → W p l e R s m args below meth c H locs n (q_sz n) Q (F0 m pc lsA (st.map (q_c φ)))
theorem lr_iadd (C : q_C mL p s m args meth c dC dI cy φ0 base) (pc pc' : Nat) (hp : pc + 1 = pc') {a b : Int} (hd : decode mL.1 pc = .ok (.iadd, 1)) (k : l_U p l e R s m args below meth c dC dI cy φ0 base Q n M pc' ls (qI (q_add a b) :: st)) : l_U p l e R s m args below meth c dC dI cy φ0 base Q n M pc ls (qI b :: qI a :: st) := by
  intro φ H locs lsA D ol os hl
  subst hp
  refine lv_iadd C.1 C.2.1 hd ?_
  have h9 := k φ H locs lsA D ol ⟨q_in32_t _, os.2.2⟩ hl
  rw [List.map_cons, show q_c φ (qI (q_add a b)) = .int _ from congrArg Value.int (Int32.ofInt_toInt _)] at h9
  exact h9
theorem lr_isub (C : q_C mL p s m args meth c dC dI cy φ0 base) (pc pc' : Nat) (hp : pc + 1 = pc') {a b : Int} (hd : decode mL.1 pc = .ok (.isub, 1)) (k : l_U p l e R s m args below meth c dC dI cy φ0 base Q n M pc' ls (qI (q_sub a b) :: st)) : l_U p l e R s m args below meth c dC dI cy φ0 base Q n M pc ls (qI b :: qI a :: st) := by
  intro φ H locs lsA D ol os hl
  subst hp
  refine lv_isub C.1 C.2.1 hd ?_
  have h9 := k φ H locs lsA D ol ⟨q_in32_t _, os.2.2⟩ hl
  rw [List.map_cons, show q_c φ (qI (q_sub a b)) = .int _ from congrArg Value.int (Int32.ofInt_toInt _)] at h9
  exact h9
theorem lr_iand (C : q_C mL p s m args meth c dC dI cy φ0 base) (pc pc' : Nat) (hp : pc + 1 = pc') {a b : Int} (hd : decode mL.1 pc = .ok (.iand, 1)) (k : l_U p l e R s m args below meth c dC dI cy φ0 base Q n M pc' ls (qI (q_and a b) :: st)) : l_U p l e R s m args below meth c dC dI cy φ0 base Q n M pc ls (qI b :: qI a :: st) := by
  intro φ H locs lsA D ol os hl
  subst hp
  refine lv_iand C.1 C.2.1 hd ?_
  have h9 := k φ H locs lsA D ol ⟨q_in32_t _, os.2.2⟩ hl
  rw [List.map_cons, show q_c φ (qI (q_and a b)) = .int _ from congrArg Value.int (Int32.ofInt_toInt _)] at h9
  exact h9
theorem lr_i2l (C : q_C mL p s m args meth c dC dI cy φ0 base) (pc pc' : Nat) (hp : pc + 1 = pc') {a : Int} (hd : decode mL.1 pc = .ok (.i2l, 1)) (k : l_U p l e R s m args below meth c dC dI cy φ0 base Q n M pc' ls (qL a :: st)) : l_U p l e R s m args below meth c dC dI cy φ0 base Q n M pc ls (qI a :: st) := by
  intro φ H locs lsA D ol os hl
  subst hp
  refine lv_i2l C.1 C.2.1 hd ?_ (k φ H locs lsA D ol ⟨⟨by have := os.1.1; omega, by have := os.1.2; omega⟩, os.2⟩ hl)
  rw [← Int64.toInt_inj, Int32.toInt_toInt64, q_ofInt32 os.1, q_ofInt64 ⟨by have := os.1.1; omega, by have := os.1.2; omega⟩]
theorem lr_lshl (C : q_C mL p s m args meth c dC dI cy φ0 base) (pc pc' : Nat) (hp : pc + 1 = pc') {a b : Int} (hd : decode mL.1 pc = .ok (.lshl, 1)) (k : l_U p l e R s m args below meth c dC dI cy φ0 base Q n M pc' ls (qL (q_lshl a b) :: st)) : l_U p l e R s m args below meth c dC dI cy φ0 base Q n M pc ls (qI b :: qL a :: st) := by
  intro φ H locs lsA D ol os hl
  subst hp
  exact lv_lshl C.1 C.2.1 hd (Int64.ofInt_toInt _).symm (k φ H locs lsA D ol ⟨q_in64_t _, os.2.2⟩ hl)
theorem lr_land (C : q_C mL p s m args meth c dC dI cy φ0 base) (pc pc' : Nat) (hp : pc + 1 = pc') {a b : Int} (hd : decode mL.1 pc = .ok (.land, 1)) (k : l_U p l e R s m args below meth c dC dI cy φ0 base Q n M pc' ls (qL (q_land a b) :: st)) : l_U p l e R s m args below meth c dC dI cy φ0 base Q n M pc ls (qL b :: qL a :: st) := by
  intro φ H locs lsA D ol os hl
  subst hp
  refine lv_land C.1 C.2.1 hd ?_
  have h9 := k φ H locs lsA D ol ⟨q_in64_t _, os.2.2⟩ hl
  rw [List.map_cons, show q_c φ (qL (q_land a b)) = .long _ from congrArg Value.long (Int64.ofInt_toInt _)] at h9
  exact h9
theorem lr_lor (C : q_C mL p s m args meth c dC dI cy φ0 base) (pc pc' : Nat) (hp : pc + 1 = pc') {a b : Int} (hd : decode mL.1 pc = .ok (.lor, 1)) (k : l_U p l e R s m args below meth c dC dI cy φ0 base Q n M pc' ls (qL (q_lor a b) :: st)) : l_U p l e R s m args below meth c dC dI cy φ0 base Q n M pc ls (qL b :: qL a :: st) := by
  intro φ H locs lsA D ol os hl
  subst hp
  refine lv_lor C.1 C.2.1 hd ?_
  have h9 := k φ H locs lsA D ol ⟨q_in64_t _, os.2.2⟩ hl
  rw [List.map_cons, show q_c φ (qL (q_lor a b)) = .long _ from congrArg Value.long (Int64.ofInt_toInt _)] at h9
  exact h9
theorem lr_lcmp (C : q_C mL p s m args meth c dC dI cy φ0 base) (pc pc' : Nat) (hp : pc + 1 = pc') {a b : Int} (hd : decode mL.1 pc = .ok (.lcmp, 1)) (k : l_U p l e R s m args below meth c dC dI cy φ0 base Q n M pc' ls (qI (q_lcmp a b) :: st)) : l_U p l e R s m args below meth c dC dI cy φ0 base Q n M pc ls (qL b :: qL a :: st) := by
  intro φ H locs lsA D ol os hl
  subst hp
  refine W.lcmp C.1 C.2.1 hd ?_
  have e9 : lg_cmp (Int64.ofInt a) (Int64.ofInt b) = Int32.ofInt (q_lcmp a b) := by
    have ha : q_in64 a := os.2.1
    have hb : q_in64 b := os.1
    unfold lg_cmp q_lcmp
    simp only [gt_iff_lt, Int64.lt_iff_toInt_lt, ← Int64.toInt_inj, q_ofInt64 ha, q_ofInt64 hb]
    by_cases h1 : b < a
    · simp [h1]
    · by_cases h2 : a = b
      · simp [h1, h2]
      · simp [h1, h2]
  rw [e9]
  refine k φ H locs lsA D ol ⟨?_, os.2.2⟩ hl
  show q_in32 (q_lcmp a b)
  unfold q_lcmp q_in32
  split
  · omega
  · split <;> omega
theorem lr_iconst (C : q_C mL p s m args meth c dC dI cy φ0 base) (pc pc' : Nat) (hp : pc + 1 = pc') {v : Int} (hv : q_in32 v) (hd : decode mL.1 pc = .ok (.iconst v, 1)) (k : l_U p l e R s m args below meth c dC dI cy φ0 base Q n M pc' ls (qI v :: st)) : l_U p l e R s m args below meth c dC dI cy φ0 base Q n M pc ls (st) := by
  intro φ H locs lsA D ol os hl
  subst hp
  refine lv_iconst C.1 C.2.1 hd rfl (k φ H locs lsA D ol ⟨hv, os⟩ hl)
theorem lr_bipush (C : q_C mL p s m args meth c dC dI cy φ0 base) (pc pc' : Nat) (hp : pc + 2 = pc') {v : Int} (hv : q_in32 v) (he : (Int8.ofInt v).toInt32 = Int32.ofInt v) (hd : decode mL.1 pc = .ok (.bipush v, 2)) (k : l_U p l e R s m args below meth c dC dI cy φ0 base Q n M pc' ls (qI v :: st)) : l_U p l e R s m args below meth c dC dI cy φ0 base Q n M pc ls (st) := by
  intro φ H locs lsA D ol os hl
  subst hp
  exact lv_bipush C.1 C.2.1 hd he (k φ H locs lsA D ol ⟨hv, os⟩ hl)
theorem lr_ldc2 (C : q_C mL p s m args meth c dC dI cy φ0 base) (pc pc' : Nat) (hp : pc + 3 = pc') {ix : Nat} {v : Int} (hv : q_in64 v) (hw : Cond.constantLong mL.2.2.1 ix (Int64.ofInt v) ∈ q_gd) (hd : decode mL.1 pc = .ok (.ldc2_w ix, 3)) (k : l_U p l e R s m args below meth c dC dI cy φ0 base Q n M pc' ls (qL v :: st)) : l_U p l e R s m args below meth c dC dI cy φ0 base Q n M pc ls (st) := by
  intro φ H locs lsA D ol os hl
  subst hp
  exact lv_ldc2 C.1 C.2.1 C.2.2.2.2.1 (C.2.2.2.2.2.1 _ hw) hd (k φ H locs lsA D ol ⟨hv, os⟩ hl)
theorem lr_iload_n (C : q_C mL p s m args meth c dC dI cy φ0 base) (pc pc' : Nat) (hp : pc + 1 = pc') {j : Fin 4} {x : Int} (hi : ls[(j : Nat)]? = some (some (qI x))) (hd : decode mL.1 pc = .ok (.iload_n j, 1)) (k : l_U p l e R s m args below meth c dC dI cy φ0 base Q n M pc' ls (qI x :: st)) : l_U p l e R s m args below meth c dC dI cy φ0 base Q n M pc ls (st) := by
  intro φ H locs lsA D ol os hl
  subst hp
  exact lv_iload_n C.1 C.2.1 hd rfl (hl.2.2 _ _ hi) (k φ H locs lsA D ol ⟨q_okl_at ol hi, os⟩ hl)
theorem lr_aload_n (C : q_C mL p s m args meth c dC dI cy φ0 base) (pc pc' : Nat) (hp : pc + 1 = pc') {j : Fin 4} {x : Int} (hi : ls[(j : Nat)]? = some (some (qR x))) (hd : decode mL.1 pc = .ok (.aload_n j, 1)) (k : l_U p l e R s m args below meth c dC dI cy φ0 base Q n M pc' ls (qR x :: st)) : l_U p l e R s m args below meth c dC dI cy φ0 base Q n M pc ls (st) := by
  intro φ H locs lsA D ol os hl
  subst hp
  have h9 := k φ H locs lsA D ol ⟨q_okl_at ol hi, os⟩ hl
  have h8 := hl.2.2 _ _ hi
  by_cases h0 : x = 0
  · rw [show q_c φ (qR x) = .null from if_pos h0] at h8
    rw [List.map_cons, show q_c φ (qR x) = .null from if_pos h0] at h9
    exact lv_aload_nN C.1 C.2.1 hd rfl h8 h9
  · rw [show q_c φ (qR x) = .ref (φ x) from if_neg h0] at h8
    rw [List.map_cons, show q_c φ (qR x) = .ref (φ x) from if_neg h0] at h9
    exact lv_aload_n C.1 C.2.1 hd rfl h8 h9
theorem lr_istore_n (C : q_C mL p s m args meth c dC dI cy φ0 base) (pc pc' : Nat) (hp : pc + 1 = pc') {j : Fin 4} {x : Int} {ls' : List (Option q_AV)} (hn : (j : Nat) < mL.2.1) (hq : q_nl ls (j : Nat) = true) (hs : ls.set (j : Nat) (some (qI x)) = ls') (hd : decode mL.1 pc = .ok (.istore_n j, 1)) (k : l_U p l e R s m args below meth c dC dI cy φ0 base Q n M pc' ls' st) : l_U p l e R s m args below meth c dC dI cy φ0 base Q n M pc ls (qI x :: st) := by
  intro φ H locs lsA D ol os hl
  subst hp
  subst hs
  exact lv_istore_n C.1 C.2.1 hd rfl hl.has hn rfl (fun ls9 h9 => k φ H locs ls9 D (q_okl_set os.1 ol) os.2 (q_Ls.st1 (lsA := lsA) (v := qI x) hq h9))
theorem lr_astore_n (C : q_C mL p s m args meth c dC dI cy φ0 base) (pc pc' : Nat) (hp : pc + 1 = pc') {j : Fin 4} {x : Int} {ls' : List (Option q_AV)} (hn : (j : Nat) < mL.2.1) (hq : q_nl ls (j : Nat) = true) (hs : ls.set (j : Nat) (some (qR x)) = ls') (hd : decode mL.1 pc = .ok (.astore_n j, 1)) (k : l_U p l e R s m args below meth c dC dI cy φ0 base Q n M pc' ls' st) : l_U p l e R s m args below meth c dC dI cy φ0 base Q n M pc ls (qR x :: st) := by
  intro φ H locs lsA D ol os hl
  subst hp
  subst hs
  by_cases h0 : x = 0
  · have e0 : q_c φ (qR x) = .null := if_pos h0
    rw [List.map_cons, e0]
    exact lv_astore_nN C.1 C.2.1 hd rfl hl.has hn rfl (fun ls9 h9 => k φ H locs ls9 D (q_okl_set os.1 ol) os.2 (q_Ls.st1 (lsA := lsA) (v := qR x) hq (by rw [e0]; exact h9)))
  · have e0 : q_c φ (qR x) = .ref (φ x) := if_neg h0
    rw [List.map_cons, e0]
    exact lv_astore_n C.1 C.2.1 hd rfl hl.has hn rfl (fun ls9 h9 => k φ H locs ls9 D (q_okl_set os.1 ol) os.2 (q_Ls.st1 (lsA := lsA) (v := qR x) hq (by rw [e0]; exact h9)))
theorem lr_iinc (C : q_C mL p s m args meth c dC dI cy φ0 base) (pc pc' : Nat) (hp : pc + 3 = pc') {i : Nat} {w x : Int} {ls' : List (Option q_AV)} (hn : i < mL.2.1) (hi : ls[i]? = some (some (qI x))) (hq : q_nl ls i = true) (hs : ls.set i (some (qI (q_add x w))) = ls') (hd : decode mL.1 pc = .ok (.iinc i w, 3)) (k : l_U p l e R s m args below meth c dC dI cy φ0 base Q n M pc' ls' st) : l_U p l e R s m args below meth c dC dI cy φ0 base Q n M pc ls st := by
  intro φ H locs lsA D ol os hl
  subst hp
  subst hs
  obtain ⟨k9, hk9⟩ := List.getElem?_of_mem (by simpa using q_lv_in (φ := φ) (i := 0) hi : (i, q_c φ (qI x)) ∈ q_lv φ 0 ls)
  exact lv_iinc C.1 C.2.1 hd hl.has hk9 (Int32.ofInt_toInt _).symm hn rfl (fun ls9 h9 => k φ H locs ls9 D (q_okl_set (show q_ok n (qI (q_add x w)) from q_in32_t _) ol) os (q_Ls.st1 (lsA := lsA) (v := qI (q_add x w)) hq h9))
theorem lr_dup (C : q_C mL p s m args meth c dC dI cy φ0 base) (pc pc' : Nat) (hp : pc + 1 = pc') {v : q_AV} (hv : q_cat v = 1) (hd : decode mL.1 pc = .ok (.dup, 1)) (k : l_U p l e R s m args below meth c dC dI cy φ0 base Q n M pc' ls (v :: v :: st)) : l_U p l e R s m args below meth c dC dI cy φ0 base Q n M pc ls (v :: st) := by
  intro φ H locs lsA D ol os hl
  subst hp
  exact lv_dup C.1 C.2.1 hd (by rw [q_cat_c]; exact hv) (k φ H locs lsA D ol ⟨os.1, os⟩ hl)
theorem lr_icmp_eq (C : q_C mL p s m args meth c dC dI cy φ0 base) (pc pc' tgt : Nat) (hp : pc + 3 = pc') {off : Int} {a b : Int} (ht : (pc : Int) + off = (tgt : Int)) (hd : decode mL.1 pc = .ok (.if_icmp .eq off, 3)) (kt : a = b → l_U p l e R s m args below meth c dC dI cy φ0 base Q n M tgt ls st) (kf : ¬ (a = b) → l_U p l e R s m args below meth c dC dI cy φ0 base Q n M pc' ls st) : l_U p l e R s m args below meth c dC dI cy φ0 base Q n M pc ls (qI b :: qI a :: st) := by
  intro φ H locs lsA D ol os hl
  subst hp
  exact lv_icmp_eq C.1 C.2.1 hd ht (fun h => kt ((q_i_eq os.2.1 os.1).mp h) φ H locs lsA D ol os.2.2 hl) (fun h => kf (fun h9 => h ((q_i_eq os.2.1 os.1).mpr h9)) φ H locs lsA D ol os.2.2 hl)
theorem lr_icmp_gt (C : q_C mL p s m args meth c dC dI cy φ0 base) (pc pc' tgt : Nat) (hp : pc + 3 = pc') {off : Int} {a b : Int} (ht : (pc : Int) + off = (tgt : Int)) (hd : decode mL.1 pc = .ok (.if_icmp .gt off, 3)) (kt : b < a → l_U p l e R s m args below meth c dC dI cy φ0 base Q n M tgt ls st) (kf : ¬ (b < a) → l_U p l e R s m args below meth c dC dI cy φ0 base Q n M pc' ls st) : l_U p l e R s m args below meth c dC dI cy φ0 base Q n M pc ls (qI b :: qI a :: st) := by
  intro φ H locs lsA D ol os hl
  subst hp
  exact lv_icmp_gt C.1 C.2.1 hd ht (fun h => kt ((q_i_lt os.1 os.2.1).mp h) φ H locs lsA D ol os.2.2 hl) (fun h => kf (fun h9 => h ((q_i_lt os.1 os.2.1).mpr h9)) φ H locs lsA D ol os.2.2 hl)
theorem lr_if_eq (C : q_C mL p s m args meth c dC dI cy φ0 base) (pc pc' tgt : Nat) (hp : pc + 3 = pc') {off : Int} {a : Int} (ht : (pc : Int) + off = (tgt : Int)) (hd : decode mL.1 pc = .ok (.ifCond .eq off, 3)) (kt : a = 0 → l_U p l e R s m args below meth c dC dI cy φ0 base Q n M tgt ls st) (kf : ¬ (a = 0) → l_U p l e R s m args below meth c dC dI cy φ0 base Q n M pc' ls st) : l_U p l e R s m args below meth c dC dI cy φ0 base Q n M pc ls (qI a :: st) := by
  intro φ H locs lsA D ol os hl
  subst hp
  exact lv_if_eq C.1 C.2.1 hd ht (fun h => kt ((q_i_eq os.1 q_in32_0).mp h) φ H locs lsA D ol os.2 hl) (fun h => kf (fun h9 => h ((q_i_eq os.1 q_in32_0).mpr h9)) φ H locs lsA D ol os.2 hl)
theorem lr_goto (C : q_C mL p s m args meth c dC dI cy φ0 base) (pc tgt : Nat) {off : Int} (ht : (pc : Int) + off = (tgt : Int)) (hd : decode mL.1 pc = .ok (.goto off, 3)) (k : l_U p l e R s m args below meth c dC dI cy φ0 base Q n M tgt ls st) : l_U p l e R s m args below meth c dC dI cy φ0 base Q n M pc ls st := by
  intro φ H locs lsA D ol os hl
  exact lv_goto C.1 C.2.1 hd ht (k φ H locs lsA D ol os hl)
theorem lr_tabIn (C : q_C mL p s m args meth c dC dI cy φ0 base) (pc tgt : Nat) {dflt lo hi : Int} {offs : Array Int} {len : Nat} {a off : Int} (j : Nat) (ha : a = lo + j) (h2 : lo + j ≤ hi) (ho : offs[j]? = some off) (ht : (pc : Int) + off = (tgt : Int)) (hd : decode mL.1 pc = .ok (.tableswitch dflt lo hi offs, len)) (k : l_U p l e R s m args below meth c dC dI cy φ0 base Q n M tgt ls st) : l_U p l e R s m args below meth c dC dI cy φ0 base Q n M pc ls (qI a :: st) := by
  intro φ H locs lsA D ol os hl
  refine lv_tableIn (off := off) C.1 C.2.1 hd ?_ ?_ ?_ ht (k φ H locs lsA D ol os.2 hl)
  · rw [q_ofInt32 os.1]; omega
  · rw [q_ofInt32 os.1]; omega
  · rw [q_ofInt32 os.1, show (a - lo).toNat = j by omega]; exact ho
theorem lr_tabOut (C : q_C mL p s m args meth c dC dI cy φ0 base) (pc tgt : Nat) {dflt lo hi : Int} {offs : Array Int} {len : Nat} {a : Int} (ha : a < lo ∨ hi < a) (ht : (pc : Int) + dflt = (tgt : Int)) (hd : decode mL.1 pc = .ok (.tableswitch dflt lo hi offs, len)) (k : l_U p l e R s m args below meth c dC dI cy φ0 base Q n M tgt ls st) : l_U p l e R s m args below meth c dC dI cy φ0 base Q n M pc ls (qI a :: st) := by
  intro φ H locs lsA D ol os hl
  refine lv_tableOut C.1 C.2.1 hd ?_ ht (k φ H locs lsA D ol os.2 hl)
  rw [q_ofInt32 os.1]; exact ha
theorem lr_weak (C : q_C mL p s m args meth c dC dI cy φ0 base) (pc : Nat) {ls' : List (Option q_AV)} (h : ∀ (i : Nat) (v : q_AV), ls'[i]? = some (some v) → ls[i]? = some (some v)) (k : l_U p l e R s m args below meth c dC dI cy φ0 base Q n M pc ls' st) : l_U p l e R s m args below meth c dC dI cy φ0 base Q n M pc ls st := by
  intro φ H locs lsA D ol os hl
  refine k φ H locs lsA D ?_ os ⟨hl.1, hl.2.1, fun i v hv => hl.2.2 i v (h i v hv)⟩
  have : ∀ (l : List (Option q_AV)) , (∀ (i : Nat) (v : q_AV), l[i]? = some (some v) → q_ok n v) → q_okl n l := by
    intro l
    induction l with
    | nil => intro _; trivial
    | cons a l ih =>
      intro h9
      cases a with
      | none => exact ih (fun i v hv => h9 (i + 1) v (by simpa using hv))
      | some w => exact ⟨h9 0 w (by simp), ih (fun i v hv => h9 (i + 1) v (by simpa using hv))⟩
  exact this ls' (fun i v hv => q_okl_at ol (h i v hv))
/-- an object of one of the two classes is made -/
theorem lr_new (C : q_C mL p s m args meth c dC dI cy φ0 base) (pc pc' : Nat) (hp : pc + 3 = pc') {ci : Nat} {C0 : String} {T : u_T} {N ix : Nat} (hc : q_cl_ok ci C0 T N) (hkd : q_kd ((n : Int) + 1) = ci) (hN : n + 1 ≠ q_N) (hR : n + 1 ≤ R.cells ∧ q_sz (n + 1) ≤ R.slots) (hcl : Cond.classLink mL.2.2.1 ix C0 ∈ q_gd) (hinst : Cond.instantiable C0 N ∈ q_gd) (hini : Cond.initialized C0 ∈ q_gd) (hd : decode mL.1 pc = .ok (.new ix, 3)) (hdf : ∀ k, k < N → defaultValue (q_ty ci k) = q_fv (fun _ => 0) (q_ty ci k) 0)
    (kk : l_U p l e R s m args below meth c dC dI cy φ0 base Q (n + 1) M pc' ls (qR ((n : Int) + 1) :: st)) : l_U p l e R s m args below meth c dC dI cy φ0 base Q n M pc ls st := by
  intro φ H locs lsA D ol os hl
  subst hp
  have hX : va_K (dC, dI) vwCl (q_tys cy) s := C.2.2.2.2.2.2.2.2.1.1
  obtain ⟨hag, ⟨hP, hD, hM⟩, hS, hnn⟩ := id D
  have hln : q_ln ((n : Int) + 1) = N := hc.2.2.2.2.2.2 _ hkd
  have sz : q_sz (n + 1) = q_sz n + N := by show q_sz n + q_ln ((n : Int) + 1) = _; rw [hln]
  have z : ∀ k : Int, M ((n : Int) + 1) k = 0 := fun k => hM.1 _ k (by omega)
  refine va_new (D := (dC, dI)) C.1 C.2.1 C.2.2.2.2.2.1 hc.2.2.1 (q_ty ci) hc.2.2.2.1 C.2.2.2.2.1 (C.2.2.2.2.2.1 _ hcl) (C.2.2.2.2.2.1 _ hinst) (C.2.2.2.2.2.1 _ hini) hX hP hD hS (fun q hq => Nat.le_trans C.2.2.2.2.2.2.2.2.2 hq) hc.2.1 (fs := (List.range N).map (fun k : Nat => q_fv φ (q_ty ci k) (M ((n : Int) + 1) (k : Int)))) (fun j hj => ?_) hR.1 (by rw [← sz]; exact hR.2) hd (fun q H1 hP1 hD1 hS1 => ?_)
  · rw [hdf j hj]
    unfold vp_V
    rw [List.getD_eq_getElem?_getD, q_fv_at hj, z]
    show _ = q_fv φ (q_ty ci j) 0
    unfold q_fv q_r
    rw [if_pos rfl, if_pos rfl]
  · have ce : q_cell cy (q_put φ n q) (q_kd ((n : Int) + 1)) (q_ln ((n : Int) + 1)) (M ((n : Int) + 1)) = .inr (ci, (List.range N).map (fun k : Nat => q_fv φ (q_ty ci k) (M ((n : Int) + 1) (k : Int)))) := by
      rw [q_cell_ag (n := n) (φ := φ) (fun x hx => q_put_le hx) (hM.2.1 _), hkd, hln, q_cell_o hc.1]
    have wg := q_w_grow (cy := cy) (φ := φ) (q := q) hM
    rw [ce] at wg
    have ag : q_ag φ (q_put φ n q) n := fun x hx => q_put_le hx
    have h9 := kk (q_put φ n q) H1 locs lsA ⟨fun x hx => (q_put_le (by omega)).trans (hag x hx), ⟨by rw [wg]; exact hP1, by rw [wg]; exact hD1, q_mem_grow hM hN⟩, hS1, by omega⟩ (q_okl_mono (Nat.le_succ n) ol) ⟨by show (n : Int) + 1 ≤ ((n + 1 : Nat) : Int); omega, q_oks_mono (Nat.le_succ n) os⟩ (q_Ls_ag ag ol hl)
    rw [List.map_cons, q_cs_ag ag os, q_c_put] at h9
    rw [← sz]
    exact h9
theorem l_calB {y : MethodName} {Y : q_Mt} {np : Nat} (h : q_cal y Y np) {s : State} {args : Array Value} (hts : ∀ w ∈ q_gd, w.before args s = true) {own : String} {ix : Nat} (hl : (Cond.methodLink own ix y).before args s = true) {n n2 d : Nat} {R : Room} (hR : d + 1 ≤ R.frames ∧ 40 + 40 * d ≤ R.locals) : CallB R s args own ix y Y.1 Y.2.1 Y.2.2.2.1 (Cond.code y Y.1 Y.2.1 Y.2.2.2.1 :: q_gd) (q_rm d n n2) (n2 - n) (q_sz n2 - q_sz n) np := by
  refine callB_of np hts ?_ rfl rfl rfl (hts _ h.2.1) hl ⟨h.2.2.1.1, h.2.2.1.2, h.2.2.2.1⟩ ⟨?_, ?_⟩
  · intro w hw
    rcases List.mem_cons.mp hw with rfl | hw
    · exact ⟨h.1, q_good _ h.1⟩
    · exact ⟨hw, q_good _ hw⟩
  · show d + 1 ≤ R.frames
    exact hR.1
  · show 8 + (Y.2.1 + 11) + 40 * d ≤ R.locals
    have := h.2.2.2.2
    omega
theorem l_after {φ : Int → Nat} {H : Heap} {locs : List Loc} {lsA : Array Slot} (D : q_Dy dC dI cy φ0 φ base 0 n M s H locs) (ol : q_okl n ls) (os : q_oks n st) (hl : q_Ls lsA mL.2.1 φ ls) {pc n2 : Nat} {st0 : List Value} {P2 : Option q_AV → q_Mem → Prop} {a : Array Value} (h2 : n ≤ n2)
    (hr : va_Run p l e R s m args below meth c H locs n (q_sz n) (n2 - n) (q_sz n2 - q_sz n) (F0 m pc lsA st0) (st.map (q_c φ)) (q_Q dC dI cy φ base n n2 P2 a) (q_B base))
    (kk : ∀ (r : Option q_AV) (M' : q_Mem), P2 r M' → l_U p l e R s m args below meth c dC dI cy φ0 base Q n2 M' (pc + 3) ls (r.toList ++ st)) :
    W p l e R s m args below meth c H locs n (q_sz n) Q (F0 m pc lsA st0) := by
  obtain ⟨hag, hW, hS, hnn⟩ := D
  intro T hT XX
  obtain ⟨v, st₀, t, T', L, h0, X', hL, e1, e2, ⟨r, M', φ', ho, hP2, hok, hag2, hW2, hF⟩, stp⟩ := hr T hT XX
  have hv : v = r.map (q_c φ') := by
    cases ho
    rfl
  subst hv
  have ez1 : n + (n2 - n) = n2 := by omega
  have ez2 : q_sz n + (q_sz n2 - q_sz n) = q_sz n2 := by
    have := q_sz_mono h2
    omega
  rw [ez1, ez2] at X'
  have hzF := hF.1
  have hkF := hF.2
  rw [h0] at hzF hkF
  have hokr : q_oks n2 (r.toList ++ st) := by
    cases r with
    | none => exact q_oks_mono h2 os
    | some w => exact ⟨hok w rfl, q_oks_mono h2 os⟩
  have est : (r.toList ++ st).map (q_c φ') = (r.map (q_c φ')).toList ++ st.map (q_c φ) := by
    rw [List.map_append, q_cs_ag hag2 os]
    cases r <;> rfl
  have h9 := kk r M' hP2 φ' T'.heap (locs ++ L) lsA ⟨fun x hx => (hag2 x (by omega)).trans (hag x hx), by rw [e1]; exact hW2, ⟨Nat.le_trans hS.1 (by rw [e1]; exact hzF), fun q h1 h3 => by rw [e1, hkF q (Nat.lt_of_lt_of_le h1 hS.1) h3]; exact hS.2.1 q h1 h3, fun q hq => by
      rcases List.mem_append.mp hq with h | h
      · exact hS.2.2 q h
      · exact hL q h⟩, Nat.zero_le _⟩ (q_okl_mono h2 ol) hokr (q_Ls_ag hag2 ol hl)
  rw [est] at h9
  obtain ⟨t2, a1, b1⟩ := h9 T' rfl X'
  exact ⟨t2, stp t2 a1, b1⟩
theorem lr_callC (C : q_C mL p s m args meth c dC dI cy φ0 base) (pc pc' : Nat) (hp : pc + 3 = pc') {y : MethodName} {yc : ByteArray} {yl : Nat} {yo : String} {yi : Bool} {np ix D0 n2 j : Nat} {a : Int} {av : List q_AV} {st' : List q_AV} (hy : q_cal y (yc, yl, yo, none, yi) np) (hyn : y.name = "<init>") (hin : Cond.instanceMethod y ∈ q_gd) (hlk : Cond.methodLink mL.2.2.1 ix y ∈ q_gd) (ha : 0 < a) (hR : D0 + 1 ≤ R.frames ∧ 40 + 40 * D0 ≤ R.locals ∧ n2 ≤ R.cells ∧ q_sz n2 ≤ R.slots) (hn : av.length = np) (hs : st' = av.reverse ++ qR a :: st) (hw : q_wid st ≤ 8) (h2 : n ≤ n2) (hd : decode mL.1 pc = .ok (.invokespecial ix, 3))
    (hc : q_Con y (yc, yl, yo, none, yi) D0 (qR a :: av) n M n2 (q_pz j)) (kk : l_U p l e R s m args below meth c dC dI cy φ0 base Q n2 (q_Mz j) pc' ls st) : l_U p l e R s m args below meth c dC dI cy φ0 base Q n M pc ls st' := by
  intro φ H locs lsA D ol os hl
  subst hp
  subst hs
  obtain ⟨hag, hW, hS, hnn⟩ := id D
  obtain ⟨oa, os2⟩ := q_oks_app os
  have oav := q_oks_rev oa
  have hts := C.2.2.2.2.2.1
  have ea : q_c φ (qR a) = .ref (φ a) := if_neg (by omega)
  have z2 := q_sz_mono h2
  refine l_after (P2 := q_pz j) D ol os2.2 hl (a := (Value.ref (φ a) :: av.map (q_c φ)).toArray) h2 ?_ (fun r M' h => by obtain ⟨rfl, rfl⟩ := h; exact kk)
  exact va_runI (cc := mL.1) (nL := mL.2.1) (own := mL.2.2.1) (Ts := q_gd) (b := φ a) (As := av.map (q_c φ)) ⟨C.1, C.2.1, C.2.2.2.1, C.2.2.2.2.1, hts⟩ (hc D0 (Nat.le_refl _) l dC dI cy φ base) ⟨l_calB hy hts (hts _ hlk) ⟨hR.1, hR.2.1⟩, hyn, hts _ hin⟩
    ⟨q_blind, fun U hU hW9 => ⟨by rw [List.map_cons, ea], ⟨os2.1, oav⟩, q_X_moved hW9 (fun x hx => hag x (by omega)) (fun a h1 h2 => by rw [hU]; exact hS.2.1 a h1 h2) C.2.2.2.2.2.2.2.2.1, by rw [hU]; exact Nat.le_trans C.2.2.2.2.2.2.2.2.2 hS.1, by rw [hU]; exact hW⟩⟩ rfl (by rw [List.length_map]; exact hn) hl.1 (by rw [List.map_append, List.map_reverse, List.map_cons, ea]) (by show 2 * 0 + _ ≤ 8; rw [q_wid_cs]; omega) hd ⟨by omega, by omega⟩
theorem lr_callV (C : q_C mL p s m args meth c dC dI cy φ0 base) (pc pc' : Nat) (hp : pc + 3 = pc') {y : MethodName} {Y : q_Mt} {np ix D0 ci : Nat} {T : u_T} {N : Nat} {a : Int} {av : List q_AV} {st' : List q_AV} {P2 : Option q_AV → q_Mem → Prop} (hy : q_cal y Y np) (hin : Cond.instanceMethod y ∈ q_gd) (hsel : Cond.selects y.cls y y ∈ q_gd) (hlk : Cond.methodLink mL.2.2.1 ix y ∈ q_gd) (hci : q_cl_ok ci y.cls T N) (hkd : q_kd a = ci) (hdd : D0 ≤ 100) (hR : 101 ≤ R.frames ∧ 4040 ≤ R.locals ∧ n ≤ R.cells ∧ q_sz n ≤ R.slots) (hn : av.length = np) (hs : st' = av.reverse ++ qR a :: st) (hw : q_wid st ≤ 8) (hd : decode mL.1 pc = .ok (.invokevirtual ix, 3))
    (hc : q_Con y Y D0 (qR a :: av) n M n P2) (kk : ∀ (r : Option q_AV) (M' : q_Mem), P2 r M' → l_U p l e R s m args below meth c dC dI cy φ0 base Q n M' pc' ls (r.toList ++ st)) : l_U p l e R s m args below meth c dC dI cy φ0 base Q n M pc ls st' := by
  intro φ H locs lsA D ol os hl
  subst hp
  subst hs
  obtain ⟨hag, hW, hS, hnn⟩ := id D
  obtain ⟨oa, os2⟩ := q_oks_app os
  have oav := q_oks_rev oa
  have hts := C.2.2.2.2.2.1
  have ha : 0 < a := q_kd_pos (by rw [hkd]; have := hci.1; omega)
  have ea : q_c φ (qR a) = .ref (φ a) := if_neg (by omega)
  have h9 := q_w_get (cy := cy) (φ := φ) (M := M) ha os2.1
  rw [hkd, q_cell_o hci.1] at h9
  refine l_after D ol os2.2 hl (a := (Value.ref (φ a) :: av.map (q_c φ)).toArray) (Nat.le_refl n) ?_ kk
  exact va_runV (cc := mL.1) (nL := mL.2.1) (own := mL.2.2.1) (Ts := q_gd) (C := y.cls) (b := φ a) (As := av.map (q_c φ)) ⟨C.1, C.2.1, C.2.2.2.1, C.2.2.2.2.1, hts⟩ (hc 100 hdd l dC dI cy φ base) ⟨l_calB hy hts (hts _ hlk) ⟨hR.1, hR.2.1⟩, hts _ hin, hts _ hsel⟩
    ⟨q_blind, va_recv C.2.2.2.2.2.2.2.2.1.1 hW.1 hci.2.1 h9, fun U hU hW9 => ⟨by rw [List.map_cons, ea], ⟨os2.1, oav⟩, q_X_moved hW9 (fun x hx => hag x (by omega)) (fun a h1 h2 => by rw [hU]; exact hS.2.1 a h1 h2) C.2.2.2.2.2.2.2.2.1, by rw [hU]; exact Nat.le_trans C.2.2.2.2.2.2.2.2.2 hS.1, by rw [hU]; exact hW⟩⟩ rfl (by rw [List.length_map]; exact hn) hl.1 (by rw [List.map_append, List.map_reverse, List.map_cons, ea]) (by show 2 * 0 + _ ≤ 8; rw [q_wid_cs]; omega) hd ⟨by omega, by omega⟩
theorem lr_vI (C : q_C mL p s m args meth c dC dI cy φ0 base) (hR : 101 ≤ R.frames ∧ 4040 ≤ R.locals ∧ q_N ≤ R.cells ∧ q_sz q_N ≤ R.slots) (pc pc' : Nat) (hp : pc + 3 = pc') {y : MethodName} {Y : q_Mt} {np ix ci : Nat} {T : u_T} {N : Nat} {a : Int} {av : List q_AV} {st' : List q_AV} {K : Int → q_Mem → Prop} (hy : q_cal y Y np) (hin : Cond.instanceMethod y ∈ q_gd) (hsel : Cond.selects y.cls y y ∈ q_gd) (hlk : Cond.methodLink mL.2.2.1 ix y ∈ q_gd) (hci : q_cl_ok ci y.cls T N) (hkd : q_kd a = ci) (hn : av.length = np) (hs : st' = av.reverse ++ qR a :: st) (hw : q_wid st ≤ 8) (hd : decode mL.1 pc = .ok (.invokevirtual ix, 3)) (hc : q_kI y Y 101 (qR a :: av) M K) (kk : ∀ (v : Int) (M' : q_Mem), K v M' → l_U p l e R s m args below meth c dC dI cy φ0 base Q q_N M' pc' ls (qI v :: st)) : l_U p l e R s m args below meth c dC dI cy φ0 base Q q_N M pc ls st' := by
  obtain ⟨D0, P2, hdd, hcc, hK⟩ := hc
  exact lr_callV C pc pc' hp hy hin hsel hlk hci hkd (by omega) hR hn hs hw hd hcc (fun r M' ⟨v, hv, hp9⟩ => by subst hv; exact kk v M' (hK v M' hp9))
theorem lr_vL (C : q_C mL p s m args meth c dC dI cy φ0 base) (hR : 101 ≤ R.frames ∧ 4040 ≤ R.locals ∧ q_N ≤ R.cells ∧ q_sz q_N ≤ R.slots) (pc pc' : Nat) (hp : pc + 3 = pc') {y : MethodName} {Y : q_Mt} {np ix ci : Nat} {T : u_T} {N : Nat} {a : Int} {av : List q_AV} {st' : List q_AV} {K : Int → q_Mem → Prop} (hy : q_cal y Y np) (hin : Cond.instanceMethod y ∈ q_gd) (hsel : Cond.selects y.cls y y ∈ q_gd) (hlk : Cond.methodLink mL.2.2.1 ix y ∈ q_gd) (hci : q_cl_ok ci y.cls T N) (hkd : q_kd a = ci) (hn : av.length = np) (hs : st' = av.reverse ++ qR a :: st) (hw : q_wid st ≤ 8) (hd : decode mL.1 pc = .ok (.invokevirtual ix, 3)) (hc : q_kL y Y 101 (qR a :: av) M K) (kk : ∀ (v : Int) (M' : q_Mem), K v M' → l_U p l e R s m args below meth c dC dI cy φ0 base Q q_N M' pc' ls (qL v :: st)) : l_U p l e R s m args below meth c dC dI cy φ0 base Q q_N M pc ls st' := by
  obtain ⟨D0, P2, hdd, hcc, hK⟩ := hc
  exact lr_callV C pc pc' hp hy hin hsel hlk hci hkd (by omega) hR hn hs hw hd hcc (fun r M' ⟨v, hv, hp9⟩ => by subst hv; exact kk v M' (hK v M' hp9))
/-- the script: its length, its ints -/
def l_S (b L : Nat) (xs : Nat → Int32) (s : State) (φ0 : Int → Nat) (base : Nat) : Prop := va_X b L xs s s.heap ∧ b < s.heap.size ∧ base = s.heap.size ∧ φ0 (-300) = b ∧ L ≤ 3072
def l_x (xs : Nat → Int32) (i : Int) : Int := (xs i.toNat).toInt
theorem l_x32 {xs : Nat → Int32} {i : Int} : q_in32 (l_x xs i) := by
  have h1 := Int32.minValue_le_toInt (xs i.toNat)
  have h2 := Int32.toInt_lt (xs i.toNat)
  exact ⟨h1, h2⟩
theorem lr_slen {b L : Nat} {xs : Nat → Int32} (C : q_C mL p s m args meth c dC dI cy φ0 base) (S : l_S b L xs s φ0 base) (pc pc' : Nat) (hp : pc + 1 = pc') (hd : decode mL.1 pc = .ok (.arraylength, 1)) (kk : l_U p l e R s m args below meth c dC dI cy φ0 base Q n M pc' ls (qI (L : Int) :: st)) : l_U p l e R s m args below meth c dC dI cy φ0 base Q n M pc ls (qR (-300) :: st) := by
  intro φ H locs lsA D ol os hl
  subst hp
  obtain ⟨hag, hW, hS, hnn⟩ := id D
  obtain ⟨s1, s2, s3, s4, s5⟩ := S
  have h9 := kk φ H locs lsA D ol ⟨by unfold q_ok q_in32; omega, os.2⟩ hl
  rw [List.map_cons, show q_c φ (qR (-300)) = .ref b by show q_r φ (-300) = _; unfold q_r; rw [if_neg (by omega), hag (-300) (by omega), s4]]
  rw [List.map_cons, show q_c φ (qI (L : Int)) = .int (Int32.ofNat L) from rfl] at h9
  exact va_slen C.1 C.2.1 s1 s2 (by rw [s3]; exact Nat.not_le.mpr s2) hS hd h9
theorem lr_sld {b L : Nat} {xs : Nat → Int32} (C : q_C mL p s m args meth c dC dI cy φ0 base) (S : l_S b L xs s φ0 base) (pc pc' : Nat) (hp : pc + 1 = pc') {i : Int} (h0 : 0 ≤ i) (h1 : i < (L : Int)) (hd : decode mL.1 pc = .ok (.iaload, 1)) (kk : l_U p l e R s m args below meth c dC dI cy φ0 base Q n M pc' ls (qI (l_x xs i) :: st)) : l_U p l e R s m args below meth c dC dI cy φ0 base Q n M pc ls (qI i :: qR (-300) :: st) := by
  intro φ H locs lsA D ol os hl
  subst hp
  obtain ⟨hag, hW, hS, hnn⟩ := id D
  obtain ⟨s1, s2, s3, s4, s5⟩ := S
  have h9 := kk φ H locs lsA D ol ⟨l_x32, os.2.2⟩ hl
  rw [List.map_cons, List.map_cons, show q_c φ (qR (-300)) = .ref b by show q_r φ (-300) = _; unfold q_r; rw [if_neg (by omega), hag (-300) (by omega), s4]]
  rw [List.map_cons, show q_c φ (qI (l_x xs i)) = .int (xs i.toNat) from congrArg Value.int (Int32.ofInt_toInt _)] at h9
  refine va_sld C.1 C.2.1 s1 s2 (by rw [s3]; exact Nat.not_le.mpr s2) hS (q_vi os.1 h0 h1) hd ?_
  rw [q_cl os.1]
  exact h9
/-- one int of the script, told by its place behind the loop's own -/
theorem lr_arg {b L : Nat} {xs : Nat → Int32} (C : q_C mL p s m args meth c dC dI cy φ0 base) (S : l_S b L xs s φ0 base) (pc : Nat) {i k : Int} (hk : 1 ≤ k ∧ k ≤ 5) (h0 : 0 ≤ i) (h1 : i + 6 ≤ (L : Int)) (d0 : decode mL.1 pc = .ok (.aload_n 0, 1)) (d1 : decode mL.1 (pc + 1) = .ok (.iload_n 3, 1)) (d2 : decode mL.1 (pc + 2) = .ok (.iconst k, 1)) (d3 : decode mL.1 (pc + 3) = .ok (.iadd, 1)) (d4 : decode mL.1 (pc + 4) = .ok (.iaload, 1)) {la lb : Option q_AV}
    (kk : l_U p l e R s m args below meth c dC dI cy φ0 base Q n M (pc + 5) [some (qR (-300)), la, lb, some (qI i)] (qI (l_x xs (i + k)) :: st)) : l_U p l e R s m args below meth c dC dI cy φ0 base Q n M pc [some (qR (-300)), la, lb, some (qI i)] st := by
  have h5 := S.2.2.2.2
  refine lr_aload_n C pc (pc + 1) rfl (x := -300) rfl d0 ?_
  refine lr_iload_n C (pc + 1) (pc + 2) rfl (x := i) rfl d1 ?_
  refine lr_iconst C (pc + 2) (pc + 3) rfl (by unfold q_in32; omega) d2 ?_
  refine lr_iadd C (pc + 3) (pc + 4) rfl d3 ?_
  rw [q_add_eq (by omega)]
  exact lr_sld C S (pc + 4) (pc + 5) rfl (by omega) (by omega) d4 kk
end LR
