
theorem q_kd_pos {a : Int} (h : q_kd a < 99) : 0 < a := by
  unfold q_kd at h
  by_cases h0 : a ≤ 0
  · rw [if_pos h0] at h; omega
  · omega
theorem q_w_get {cy : Nat → ClassId} {φ : Int → Nat} {n : Nat} {M : q_Mem} {a : Int} (h1 : 0 < a) (h2 : a ≤ (n : Int)) : (q_w cy φ n M)[(a - 1).toNat]? = some (φ a, q_cell cy φ (q_kd a) (q_ln a) (M a)) := by
  unfold q_w
  rw [List.getElem?_map, List.getElem?_range (by omega)]
  have e : (((a - 1).toNat : Nat) : Int) + 1 = a := by omega
  simp only [Option.map_some, e]
theorem q_w_set {cy : Nat → ClassId} {φ : Int → Nat} {n : Nat} {M M' : q_Mem} {a : Int} (h1 : 0 < a) (h2 : a ≤ (n : Int)) (hM : ∀ b : Int, b ≠ a → M' b = M b) {x : va_E} (hx : x = q_cell cy φ (q_kd a) (q_ln a) (M' a)) : (q_w cy φ n M).set (a - 1).toNat (φ a, x) = q_w cy φ n M' := by
  subst hx
  have e : (((a - 1).toNat : Nat) : Int) + 1 = a := by omega
  apply List.ext_getElem?
  intro i
  unfold q_w
  rw [List.getElem?_set, List.getElem?_map, List.getElem?_map]
  by_cases hi : (a - 1).toNat = i
  · subst hi
    rw [if_pos rfl, List.getElem?_range (by omega)]
    simp only [List.length_map, List.length_range, Option.map_some, e]
    rw [if_pos (by omega)]
  · rw [if_neg hi]
    by_cases hl : i < n
    · rw [List.getElem?_range hl]
      simp only [Option.map_some]
      rw [hM ((i : Int) + 1) (by omega)]
    · rw [List.getElem?_eq_none (by simpa using hl)]
      rfl
def q_up (M : q_Mem) (a k v : Int) : q_Mem := fun b j => if b = a ∧ j = k then v else M b j
theorem q_up_o {M : q_Mem} {a k v b : Int} (h : b ≠ a) : q_up M a k v b = M b := by
  funext j
  unfold q_up
  rw [if_neg (fun z => h z.1)]
theorem q_up_s {M : q_Mem} {a k v : Int} : q_up M a k v a k = v := by
  unfold q_up
  rw [if_pos ⟨rfl, rfl⟩]
theorem q_up_n {M : q_Mem} {a k v j : Int} (h : j ≠ k) : q_up M a k v a j = M a j := by
  unfold q_up
  rw [if_neg (fun z => h z.2)]
theorem q_mem_up {n : Nat} {M : q_Mem} {a : Int} {k : Nat} {v : Int} (h : q_mem n M) (h2 : a ≤ (n : Int)) (hv : q_rg n (q_sl (q_kd a) k) v) (hf : q_isF (q_kd a) k = false) : q_mem n (q_up M a (k : Int) v) := by
  refine ⟨fun b j hb => ?_, fun b j => ?_, fun hn b j hj hF => ?_⟩
  · rw [q_up_o (by omega)]; exact h.1 b j hb
  · by_cases e : b = a
    · subst e
      by_cases e2 : j = k
      · subst e2; rw [q_up_s]; exact hv
      · rw [q_up_n (by omega)]; exact h.2.1 b j
    · rw [q_up_o e]; exact h.2.1 b j
  · by_cases e : b = a
    · subst e
      by_cases e2 : j = k
      · subst e2; rw [hf] at hF; cases hF
      · rw [q_up_n (by omega)]; exact h.2.2 hn b j hj hF
    · rw [q_up_o e]; exact h.2.2 hn b j hj hF
theorem q_vi {i : Int} {N : Nat} (hN : q_in32 i) (h0 : 0 ≤ i) (h1 : i < (N : Int)) : vp_in (Int32.ofInt i) N := vp_in_iff.mpr (by rw [q_ofInt32 hN]; exact ⟨h0, h1⟩)
theorem q_cl {i : Int} (hN : q_in32 i) : (Int32.ofInt i).toNatClampNeg = i.toNat := by
  show (Int32.ofInt i).toInt.toNat = _
  rw [q_ofInt32 hN]
theorem q_nn {i : Int} (h0 : 0 ≤ i) : ((i.toNat : Nat) : Int) = i := Int.toNat_of_nonneg h0
theorem q_cell_i {cy : Nat → ClassId} {φ : Int → Nat} {kind len : Nat} {f : Int → Int} (h : kind = 13 ∨ kind = 14 ∨ kind = 16) : q_cell cy φ kind len f = .inl (cy kind, len, .inl (fun j : Nat => Int32.ofInt (f (j : Int)))) := by
  unfold q_cell
  rw [if_neg (by omega), if_neg (by omega), if_pos (by omega)]
theorem q_cell_l {cy : Nat → ClassId} {φ : Int → Nat} {len : Nat} {f : Int → Int} : q_cell cy φ 15 len f = .inl (cy 15, len, .inr (.inl (fun j : Nat => Int64.ofInt (f (j : Int))))) := by
  unfold q_cell
  rw [if_neg (by omega), if_pos rfl]
theorem q_cell_q {cy : Nat → ClassId} {φ : Int → Nat} {kind len : Nat} {f : Int → Int} (h : 17 ≤ kind) : q_cell cy φ kind len f = .inl (cy kind, len, .inr (.inr (.inr (.inr (fun j : Nat => if f (j : Int) = 0 then none else some (φ (f (j : Int)))))))) := by
  unfold q_cell
  rw [if_neg (by omega), if_neg (by omega), if_neg (by omega)]
theorem q_cell_o {cy : Nat → ClassId} {φ : Int → Nat} {kind len : Nat} {f : Int → Int} (h : kind < 13) : q_cell cy φ kind len f = .inr (kind, (List.range len).map (fun k : Nat => q_fv φ (q_ty kind k) (f (k : Int)))) := by
  unfold q_cell
  rw [if_pos h]
theorem q_fv_set {φ : Int → Nat} {ty : Nat → FieldType} {len k : Nat} {M : q_Mem} {a v : Int} : ((List.range len).map (fun j : Nat => q_fv φ (ty j) (M a (j : Int)))).set k (q_fv φ (ty k) v) = (List.range len).map (fun j : Nat => q_fv φ (ty j) (q_up M a (k : Int) v a (j : Int))) := by
  apply List.ext_getElem?
  intro i
  rw [List.getElem?_set, List.getElem?_map, List.getElem?_map]
  by_cases hl : i < len
  · rw [List.getElem?_range hl]
    by_cases e : k = i
    · subst e
      rw [if_pos rfl, if_pos (by simpa using hl)]
      simp only [Option.map_some, q_up_s]
    · rw [if_neg e]
      simp only [Option.map_some]
      rw [q_up_n (by omega)]
  · rw [List.getElem?_eq_none (by simpa using hl)]
    by_cases e : k = i
    · subst e
      rw [if_pos rfl, if_neg (by simpa using hl)]
      rfl
    · rw [if_neg e]
      rfl
theorem q_fv_at {φ : Int → Nat} {ty : Nat → FieldType} {len k : Nat} {f : Int → Int} (h : k < len) : ((List.range len).map (fun j : Nat => q_fv φ (ty j) (f (j : Int))))[k]? = some (q_fv φ (ty k) (f (k : Int))) := by
  rw [List.getElem?_map, List.getElem?_range h]
  rfl
/-- a field's value on the stack -/
def q_fa (t : FieldType) (x : Int) : q_AV := if q_tr t then qR x else qI x
theorem q_fa_c {φ : Int → Nat} {t : FieldType} {x : Int} : q_c φ (q_fa t x) = q_fv φ t x := by
  unfold q_fa q_fv
  split <;> rfl
theorem q_mem_ok {n : Nat} {M : q_Mem} (h : q_mem n M) {a : Int} {ci k : Nat} (hk : q_kd a = ci) (hc : ci < 13) : q_ok n (q_fa (q_ty ci k) (M a (k : Int))) := by
  have h1 := h.2.1 a k
  rw [hk] at h1
  unfold q_sl q_rg at h1
  rw [if_pos hc] at h1
  unfold q_fa
  split
  · rename_i h2
    rw [if_pos h2] at h1
    exact h1
  · rename_i h2
    rw [if_neg h2] at h1
    exact h1
/-- the classes of the worlds, with their rows of the tables -/
def q_cl_ok (ci : Nat) (C : String) (T : u_T) (N : Nat) : Prop := ci < 13 ∧ vwCl[ci]? = some (C, T, N) ∧ (∀ w ∈ u_ws C T N, w ∈ q_gd) ∧ (∀ k, k < N → parseFieldDescriptor (T k).2.2.1 = some (q_ty ci k)) ∧ (∀ a, a < N → ∀ b, b < N → a ≠ b → (T a).2.1 ≠ (T b).2.1) ∧ q_fs ci = T ∧ ∀ a : Int, q_kd a = ci → q_ln a = N

section QM
variable {X : q_Mt} {d n0 n1 : Nat} {P : Option q_AV → q_Mem → Prop} {n : Nat} {M : q_Mem} {ls : List (Option q_AV)} {st : List q_AV}
theorem qr_getf (pc pc' : Nat) (hp : pc + 3 = pc') {ci : Nat} {C0 : String} {T : u_T} {N ix : Nat} (hc : q_cl_ok ci C0 T N) (k : Nat) (hk : k < N) {a : Int} (hkd : q_kd a = ci) (hw : Cond.fieldLink X.2.2.1 ix C0 (T k).2.1 (T k).2.2.1 ∈ q_gd) (hC : (T k).1 = C0) (hd : decode X.1 pc = .ok (.getfield ix, 3))
    (kk : q_V X d n0 n1 P n M pc' ls (q_fa (q_ty ci k) (M a (k : Int)) :: st)) : q_V X d n0 n1 P n M pc ls (qR a :: st) := by
  intro p l e s m args below meth c dC dI cy φ0 base C φ H locs lsA D ol os hl
  subst hp
  have hX : va_K (dC, dI) vwCl (q_tys cy) s := C.2.2.2.2.2.2.2.2.1.1
  obtain ⟨hag, ⟨hP, hD, hM⟩, hS, hnn⟩ := id D
  have ha : 0 < a := q_kd_pos (by rw [hkd]; have := hc.1; omega)
  have h9 := q_w_get (cy := cy) (φ := φ) (M := M) ha os.1
  rw [hkd, hc.2.2.2.2.2.2 a hkd, q_cell_o hc.1] at h9
  have h8 := kk p l e s m args below meth c dC dI cy φ0 base C φ H locs lsA D ol ⟨q_mem_ok hM hkd hc.1, os.2⟩ hl
  rw [List.map_cons, q_fa_c] at h8
  rw [List.map_cons, show q_c φ (qR a) = .ref (φ a) from if_neg (by omega)]
  exact va_get (D := (dC, dI)) C.1 C.2.1 C.2.2.2.2.2.1 hc.2.2.1 C.2.2.2.2.1 hX hP (a - 1).toNat h9 hc.2.1 k hk (C.2.2.2.2.2.1 _ hw) (fun x hx => by rw [hC] at hx; exact hx) (q_fv_at hk) hd h8
theorem qr_getF (pc pc' : Nat) (hp : pc + 3 = pc') {ci : Nat} {C0 : String} {T : u_T} {N ix : Nat} (hc : q_cl_ok ci C0 T N) (k : Nat) (hk : k < N) {a b : Int} (hkd : q_kd a = ci) (hn : n = q_N) (hF : q_isF ci k = true) (hlay : q_lay a k = b) (hw : Cond.fieldLink X.2.2.1 ix C0 (T k).2.1 (T k).2.2.1 ∈ q_gd) (hC : (T k).1 = C0) (hd : decode X.1 pc = .ok (.getfield ix, 3))
    (kk : q_V X d n0 n1 P n M pc' ls (qR b :: st)) : q_V X d n0 n1 P n M pc ls (qR a :: st) := by
  intro p l e s m args below meth c dC dI cy φ0 base C φ H locs lsA D ol os hl
  have hM : q_mem n M := D.2.1.2.2
  have e5 : M a (k : Int) = b := by rw [← hlay]; exact hM.2.2 hn a k (by rw [hc.2.2.2.2.2.2 a hkd]; exact hk) (by rw [hkd]; exact hF)
  refine qr_getf pc pc' hp hc k hk hkd hw hC hd ?_ p l e s m args below meth c dC dI cy φ0 base C φ H locs lsA D ol os hl
  have e2 : q_tr (q_ty ci k) = true := by
    unfold q_isF at hF
    rw [if_pos hc.1] at hF
    simp only [Bool.and_eq_true] at hF
    exact hF.1
  unfold q_fa
  rw [e2, e5]
  exact kk
theorem qr_put (pc pc' : Nat) (hp : pc + 3 = pc') {ci : Nat} {C0 : String} {T : u_T} {N ix : Nat} (hc : q_cl_ok ci C0 T N) (k : Nat) (hk : k < N) {a v : Int} (hkd : q_kd a = ci) (hF : (T k).2.2.2 = false) (hnar : ∀ φ : Int → Nat, narrow (q_ty ci k) (q_fv φ (q_ty ci k) v) = q_fv φ (q_ty ci k) v ∧ fits (q_ty ci k) (q_fv φ (q_ty ci k) v) = true) (hw : Cond.fieldLink X.2.2.1 ix C0 (T k).2.1 (T k).2.2.1 ∈ q_gd) (hC : (T k).1 = C0) (hd : decode X.1 pc = .ok (.putfield ix, 3))
    (kk : q_V X d n0 n1 P n (q_up M a (k : Int) v) pc' ls st) : q_V X d n0 n1 P n M pc ls (q_fa (q_ty ci k) v :: qR a :: st) := by
  intro p l e s m args below meth c dC dI cy φ0 base C φ H locs lsA D ol os hl
  subst hp
  have hX : va_K (dC, dI) vwCl (q_tys cy) s := C.2.2.2.2.2.2.2.2.1.1
  obtain ⟨hag, ⟨hP, hD, hM⟩, hS, hnn⟩ := id D
  have ha : 0 < a := q_kd_pos (by rw [hkd]; have := hc.1; omega)
  have hal : a ≤ (n : Int) := os.2.1
  have h9 := q_w_get (cy := cy) (φ := φ) (M := M) ha hal
  have hN := hc.2.2.2.2.2.2 a hkd
  rw [hkd, hN, q_cell_o hc.1] at h9
  have hset := q_w_set (cy := cy) (φ := φ) (n := n) (M := M) (M' := q_up M a (k : Int) v) ha hal (fun b hb => q_up_o hb) (x := .inr (ci, ((List.range N).map (fun j : Nat => q_fv φ (q_ty ci j) (M a (j : Int)))).set k (q_fv φ (q_ty ci k) v))) (by rw [hkd, hN, q_cell_o hc.1, q_fv_set])
  rw [List.map_cons, List.map_cons, q_fa_c, show q_c φ (qR a) = .ref (φ a) from if_neg (by omega)]
  refine va_put (D := (dC, dI)) C.1 C.2.1 C.2.2.2.2.2.1 hc.2.2.1 (q_ty ci) hc.2.2.2.1 hc.2.2.2.2.1 C.2.2.2.2.1 hX hP hD hS (a - 1).toNat h9 hc.2.1 k hk (C.2.2.2.2.2.1 _ hw) (fun x hx => by rw [hC] at hx; exact hx) hF (hc.2.2.2.1 k hk) (hnar φ).1 (hnar φ).2 (by simpa using hk) hd (fun H1 locs1 hP1 hD1 hS1 => ?_)
  rw [hset] at hP1 hD1
  refine kk p l e s m args below meth c dC dI cy φ0 base C φ H1 locs1 lsA ⟨hag, ⟨hP1, hD1, q_mem_up hM hal ?_ ?_⟩, hS1, hnn⟩ ol os.2.2 hl
  · have h7 := os.1
    rw [hkd]
    unfold q_fa at h7
    unfold q_rg q_sl
    rw [if_pos hc.1]
    by_cases h2 : q_tr (q_ty ci k) = true
    · rw [if_pos h2] at h7; rw [if_pos h2]; exact h7
    · rw [if_neg h2] at h7; rw [if_neg h2]; exact h7
  · rw [hkd]
    unfold q_isF
    rw [if_pos hc.1, hc.2.2.2.2.2.1, hF, Bool.and_false]
theorem qr_putF (pc pc' : Nat) (hp : pc + 3 = pc') {ci : Nat} {C0 : String} {T : u_T} {N ix : Nat} (hc : q_cl_ok ci C0 T N) (k : Nat) (hk : k < N) {a v : Int} (hkd : q_kd a = ci) (hF : (T k).2.2.2 = true) (hlay : n = q_N → v = q_lay a k) (hr : q_tr (q_ty ci k) = true) (hi : X.2.2.2.2 = true) (ho : X.2.2.1 = C0) (hnar : ∀ φ : Int → Nat, narrow (q_ty ci k) (q_r φ v) = q_r φ v ∧ fits (q_ty ci k) (q_r φ v) = true) (hw : Cond.fieldLink X.2.2.1 ix C0 (T k).2.1 (T k).2.2.1 ∈ q_gd) (hC : (T k).1 = C0) (hd : decode X.1 pc = .ok (.putfield ix, 3))
    (kk : q_V X d n0 n1 P n (q_up M a (k : Int) v) pc' ls st) : q_V X d n0 n1 P n M pc ls (qR v :: qR a :: st) := by
  intro p l e s m args below meth c dC dI cy φ0 base C φ H locs lsA D ol os hl
  subst hp
  have hX : va_K (dC, dI) vwCl (q_tys cy) s := C.2.2.2.2.2.2.2.2.1.1
  obtain ⟨hag, ⟨hP, hD, hM⟩, hS, hnn⟩ := id D
  have ha : 0 < a := q_kd_pos (by rw [hkd]; have := hc.1; omega)
  have hal : a ≤ (n : Int) := os.2.1
  have h9 := q_w_get (cy := cy) (φ := φ) (M := M) ha hal
  have hN := hc.2.2.2.2.2.2 a hkd
  rw [hkd, hN, q_cell_o hc.1] at h9
  have er : q_fv φ (q_ty ci k) v = q_r φ v := by unfold q_fv; rw [if_pos hr]
  have hset := q_w_set (cy := cy) (φ := φ) (n := n) (M := M) (M' := q_up M a (k : Int) v) ha hal (fun b hb => q_up_o hb) (x := .inr (ci, ((List.range N).map (fun j : Nat => q_fv φ (q_ty ci j) (M a (j : Int)))).set k (q_fv φ (q_ty ci k) v))) (by rw [hkd, hN, q_cell_o hc.1, q_fv_set])
  rw [List.map_cons, List.map_cons, show q_c φ (qR v) = q_fv φ (q_ty ci k) v from er.symm, show q_c φ (qR a) = .ref (φ a) from if_neg (by omega)]
  refine va_putF (D := (dC, dI)) C.1 C.2.1 C.2.2.2.2.2.1 hc.2.2.1 (q_ty ci) hc.2.2.2.1 hc.2.2.2.2.1 C.2.2.2.2.1 hX hP hD hS (a - 1).toNat h9 hc.2.1 k hk (C.2.2.2.2.2.1 _ hw) (fun x hx => by rw [hC] at hx; exact hx) hF (C.2.2.2.2.2.2.2.1 hi) (by rw [hC, ho]) (hc.2.2.2.1 k hk) (by rw [er]; exact (hnar φ).1) (by rw [er]; exact (hnar φ).2) (by simpa using hk) hd (fun H1 locs1 hP1 hD1 hS1 => ?_)
  rw [hset] at hP1 hD1
  refine kk p l e s m args below meth c dC dI cy φ0 base C φ H1 locs1 lsA ⟨hag, ⟨hP1, hD1, ?_⟩, hS1, hnn⟩ ol os.2.2 hl
  refine ⟨fun b j hb => ?_, fun b j => ?_, fun hn9 b j hj hF9 => ?_⟩
  · rw [q_up_o (by omega)]; exact hM.1 b j hb
  · by_cases e1 : b = a
    · subst e1
      by_cases e2 : j = k
      · subst e2
        rw [q_up_s, hkd]
        unfold q_rg q_sl
        rw [if_pos hc.1, if_pos hr]
        exact os.1
      · rw [q_up_n (by omega)]; exact hM.2.1 b j
    · rw [q_up_o e1]; exact hM.2.1 b j
  · by_cases e1 : b = a
    · subst e1
      by_cases e2 : j = k
      · subst e2; rw [q_up_s]; exact hlay hn9
      · rw [q_up_n (by omega)]; exact hM.2.2 hn9 b j hj hF9
    · rw [q_up_o e1]; exact hM.2.2 hn9 b j hj hF9
theorem qr_iaload (pc pc' : Nat) (hp : pc + 1 = pc') {a i : Int} (hkd : q_kd a = 14) (h0 : 0 ≤ i) (h1 : i < (q_ln a : Int)) (hd : decode X.1 pc = .ok (.iaload, 1)) (kk : q_V X d n0 n1 P n M pc' ls (qI (M a i) :: st)) : q_V X d n0 n1 P n M pc ls (qI i :: qR a :: st) := by
  intro p l e s m args below meth c dC dI cy φ0 base C φ H locs lsA D ol os hl
  subst hp
  have hX : va_K (dC, dI) vwCl (q_tys cy) s := C.2.2.2.2.2.2.2.2.1.1
  obtain ⟨hag, ⟨hP, hD, hM⟩, hS, hnn⟩ := id D
  have ha : 0 < a := q_kd_pos (by rw [hkd]; omega)
  have h9 := q_w_get (cy := cy) (φ := φ) (M := M) ha os.2.1
  rw [hkd, q_cell_i (by omega)] at h9
  have hr : q_in32 (M a i) := by
    have := hM.2.1 a i.toNat
    rw [hkd, q_nn h0] at this
    exact this
  have h8 := kk p l e s m args below meth c dC dI cy φ0 base C φ H locs lsA D ol ⟨hr, os.2.2⟩ hl
  rw [List.map_cons, List.map_cons, show q_c φ (qR a) = .ref (φ a) from if_neg (by omega)]
  refine va_iald (D := (dC, dI)) C.1 C.2.1 hX hP (a - 1).toNat 1 h9 rfl (q_vi os.1 h0 h1) hd ?_
  rw [q_cl os.1, q_nn h0]
  exact h8
theorem qr_baload (pc pc' : Nat) (hp : pc + 1 = pc') {a i : Int} (hkd : q_kd a = 13) (h0 : 0 ≤ i) (h1 : i < (q_ln a : Int)) (hd : decode X.1 pc = .ok (.baload, 1)) (kk : q_V X d n0 n1 P n M pc' ls (qI (M a i) :: st)) : q_V X d n0 n1 P n M pc ls (qI i :: qR a :: st) := by
  intro p l e s m args below meth c dC dI cy φ0 base C φ H locs lsA D ol os hl
  subst hp
  have hX : va_K (dC, dI) vwCl (q_tys cy) s := C.2.2.2.2.2.2.2.2.1.1
  obtain ⟨hag, ⟨hP, hD, hM⟩, hS, hnn⟩ := id D
  have ha : 0 < a := q_kd_pos (by rw [hkd]; omega)
  have h9 := q_w_get (cy := cy) (φ := φ) (M := M) ha os.2.1
  rw [hkd, q_cell_i (by omega)] at h9
  have hr : q_in32 (M a i) := by
    have := hM.2.1 a i.toNat
    rw [hkd, q_nn h0] at this
    exact this
  have h8 := kk p l e s m args below meth c dC dI cy φ0 base C φ H locs lsA D ol ⟨hr, os.2.2⟩ hl
  rw [List.map_cons, List.map_cons, show q_c φ (qR a) = .ref (φ a) from if_neg (by omega)]
  refine va_bald (D := (dC, dI)) C.1 C.2.1 hX hP (a - 1).toNat 0 h9 rfl (q_vi os.1 h0 h1) hd ?_
  rw [q_cl os.1, q_nn h0]
  exact h8
theorem qr_zaload (pc pc' : Nat) (hp : pc + 1 = pc') {a i : Int} (hkd : q_kd a = 16) (h0 : 0 ≤ i) (h1 : i < (q_ln a : Int)) (hd : decode X.1 pc = .ok (.baload, 1)) (kk : q_V X d n0 n1 P n M pc' ls (qI (M a i) :: st)) : q_V X d n0 n1 P n M pc ls (qI i :: qR a :: st) := by
  intro p l e s m args below meth c dC dI cy φ0 base C φ H locs lsA D ol os hl
  subst hp
  have hX : va_K (dC, dI) vwCl (q_tys cy) s := C.2.2.2.2.2.2.2.2.1.1
  obtain ⟨hag, ⟨hP, hD, hM⟩, hS, hnn⟩ := id D
  have ha : 0 < a := q_kd_pos (by rw [hkd]; omega)
  have h9 := q_w_get (cy := cy) (φ := φ) (M := M) ha os.2.1
  rw [hkd, q_cell_i (by omega)] at h9
  have hr : q_in32 (M a i) := by
    have := hM.2.1 a i.toNat
    rw [hkd, q_nn h0] at this
    exact this
  have h8 := kk p l e s m args below meth c dC dI cy φ0 base C φ H locs lsA D ol ⟨hr, os.2.2⟩ hl
  rw [List.map_cons, List.map_cons, show q_c φ (qR a) = .ref (φ a) from if_neg (by omega)]
  refine va_zald (D := (dC, dI)) C.1 C.2.1 hX hP (a - 1).toNat 3 h9 rfl (q_vi os.1 h0 h1) hd ?_
  rw [q_cl os.1, q_nn h0]
  exact h8
theorem qr_laload (pc pc' : Nat) (hp : pc + 1 = pc') {a i : Int} (hkd : q_kd a = 15) (h0 : 0 ≤ i) (h1 : i < (q_ln a : Int)) (hd : decode X.1 pc = .ok (.laload, 1)) (kk : q_V X d n0 n1 P n M pc' ls (qL (M a i) :: st)) : q_V X d n0 n1 P n M pc ls (qI i :: qR a :: st) := by
  intro p l e s m args below meth c dC dI cy φ0 base C φ H locs lsA D ol os hl
  subst hp
  have hX : va_K (dC, dI) vwCl (q_tys cy) s := C.2.2.2.2.2.2.2.2.1.1
  obtain ⟨hag, ⟨hP, hD, hM⟩, hS, hnn⟩ := id D
  have ha : 0 < a := q_kd_pos (by rw [hkd]; omega)
  have h9 := q_w_get (cy := cy) (φ := φ) (M := M) ha os.2.1
  rw [hkd, q_cell_l] at h9
  have hr : q_in64 (M a i) := by
    have := hM.2.1 a i.toNat
    rw [hkd, q_nn h0] at this
    exact this
  have h8 := kk p l e s m args below meth c dC dI cy φ0 base C φ H locs lsA D ol ⟨hr, os.2.2⟩ hl
  rw [List.map_cons, List.map_cons, show q_c φ (qR a) = .ref (φ a) from if_neg (by omega)]
  refine va_lald (D := (dC, dI)) C.1 C.2.1 hX hP (a - 1).toNat 2 h9 rfl (q_vi os.1 h0 h1) hd ?_
  rw [q_cl os.1, q_nn h0]
  exact h8
theorem qr_aaload (pc pc' : Nat) (hp : pc + 1 = pc') {a i : Int} (hkd : 17 ≤ q_kd a ∧ q_kd a ≤ 20) (h0 : 0 ≤ i) (h1 : i < (q_ln a : Int)) (hn : n = q_N) (hd : decode X.1 pc = .ok (.aaload, 1)) (kk : q_V X d n0 n1 P n M pc' ls (qR (q_lay a i.toNat) :: st)) : q_V X d n0 n1 P n M pc ls (qI i :: qR a :: st) := by
  intro p l e s m args below meth c dC dI cy φ0 base C φ H locs lsA D ol os hl
  subst hp
  have hX : va_K (dC, dI) vwCl (q_tys cy) s := C.2.2.2.2.2.2.2.2.1.1
  obtain ⟨hag, ⟨hP, hD, hM⟩, hS, hnn⟩ := id D
  have ha : 0 < a := q_kd_pos (by omega)
  have h9 := q_w_get (cy := cy) (φ := φ) (M := M) ha os.2.1
  rw [q_cell_q (by omega)] at h9
  have hlt : i.toNat < q_ln a := by omega
  have e5 : M a i = q_lay a i.toNat := by
    have := hM.2.2 hn a i.toNat hlt (by unfold q_isF; rw [if_neg (by omega)]; simp; omega)
    rw [q_nn h0] at this
    exact this
  have hr : M a i ≤ (n : Int) := by
    have := hM.2.1 a i.toNat
    rw [q_nn h0] at this
    have hsl : q_sl (q_kd a) i.toNat = 2 := by
      unfold q_sl
      rw [if_neg (by omega), if_neg (by omega), if_neg (by omega)]
    rw [hsl] at this
    exact this
  have h8 := kk p l e s m args below meth c dC dI cy φ0 base C φ H locs lsA D ol ⟨by show q_lay a i.toNat ≤ _; rw [← e5]; exact hr, os.2.2⟩ hl
  rw [← e5] at h8
  rw [List.map_cons, List.map_cons, show q_c φ (qR a) = .ref (φ a) from if_neg (by omega)]
  have ht : ∃ (t0 : Nat) (ty : FieldType), (q_tys cy)[t0]? = some (cy (q_kd a), ty) ∧ ty.isReference = true := by
    rcases (show q_kd a = 17 ∨ q_kd a = 18 ∨ q_kd a = 19 ∨ q_kd a = 20 by omega) with h | h | h | h <;> rw [h]
    · exact ⟨4, _, rfl, rfl⟩
    · exact ⟨5, _, rfl, rfl⟩
    · exact ⟨6, _, rfl, rfl⟩
    · exact ⟨7, _, rfl, rfl⟩
  obtain ⟨t0, ty, ht, hty⟩ := ht
  have hin := q_vi os.1 h0 h1
  have hlt2 : (Int32.ofInt i).toNatClampNeg < q_ln a := by rw [q_cl os.1]; exact hlt
  refine W.aald (v := q_r φ (M a i)) (ty := ty) C.1 C.2.1 (hP (a - 1).toNat _ h9) ((hX.2 t0 _ ht).1 _ _) hty (fun q => by cases q) (by show ¬ (_ < 0 ∨ (arrV _ _ _).slots.size ≤ _); rw [arrV_size]; exact hin) (by show (arrV _ _ _).slots[_]? = _; rw [arrV_read _ _ hlt2, q_cl os.1]; simp only [q_nn h0]; congr 1; unfold q_r va_rf; by_cases h7 : M a i = 0 <;> simp [h7]) rfl rfl hd h8
theorem qr_alen (pc pc' : Nat) (hp : pc + 1 = pc') {a : Int} (hkd : 13 ≤ q_kd a ∧ q_kd a ≤ 20) (hd : decode X.1 pc = .ok (.arraylength, 1)) (hr : q_in32 (q_ln a : Int)) (kk : q_V X d n0 n1 P n M pc' ls (qI (q_ln a : Int) :: st)) : q_V X d n0 n1 P n M pc ls (qR a :: st) := by
  intro p l e s m args below meth c dC dI cy φ0 base C φ H locs lsA D ol os hl
  subst hp
  have hX : va_K (dC, dI) vwCl (q_tys cy) s := C.2.2.2.2.2.2.2.2.1.1
  obtain ⟨hag, ⟨hP, hD, hM⟩, hS, hnn⟩ := id D
  have ha : 0 < a := q_kd_pos (by omega)
  have h9 := q_w_get (cy := cy) (φ := φ) (M := M) ha os.1
  have h8 := kk p l e s m args below meth c dC dI cy φ0 base C φ H locs lsA D ol ⟨hr, os.2⟩ hl
  rw [List.map_cons, show q_c φ (qR a) = .ref (φ a) from if_neg (by omega)]
  have ht : ∃ (t0 : Nat) (ty : FieldType), (q_tys cy)[t0]? = some (cy (q_kd a), ty) := by
    rcases (show q_kd a = 13 ∨ q_kd a = 14 ∨ q_kd a = 15 ∨ q_kd a = 16 ∨ q_kd a = 17 ∨ q_kd a = 18 ∨ q_kd a = 19 ∨ q_kd a = 20 by omega) with h | h | h | h | h | h | h | h <;> rw [h]
    · exact ⟨0, _, rfl⟩
    · exact ⟨1, _, rfl⟩
    · exact ⟨2, _, rfl⟩
    · exact ⟨3, _, rfl⟩
    · exact ⟨4, _, rfl⟩
    · exact ⟨5, _, rfl⟩
    · exact ⟨6, _, rfl⟩
    · exact ⟨7, _, rfl⟩
  obtain ⟨t0, ty, ht⟩ := ht
  have h7 : ∃ x : vp_A, q_cell cy φ (q_kd a) (q_ln a) (M a) = .inl (cy (q_kd a), x) ∧ x.1 = q_ln a := by
    unfold q_cell
    rw [if_neg (by omega)]
    split
    · rename_i h; exact ⟨_, rfl, rfl⟩
    · split
      · exact ⟨_, rfl, rfl⟩
      · exact ⟨_, rfl, rfl⟩
  obtain ⟨x, hx, hx2⟩ := h7
  rw [hx] at h9
  exact va_alen (D := (dC, dI)) C.1 C.2.1 hX hP (a - 1).toNat t0 h9 ht (by rw [hx2]; rfl) hd h8
def q_nb (v : Int) : Int := (vp_nar .byte (Int32.ofInt v)).toInt
def q_nz (v : Int) : Int := (vp_nar .boolean (Int32.ofInt v)).toInt
theorem qr_iastore (pc pc' : Nat) (hp : pc + 1 = pc') {a i v : Int} (hkd : q_kd a = 14) (h0 : 0 ≤ i) (h1 : i < (q_ln a : Int)) (hd : decode X.1 pc = .ok (.iastore, 1)) (kk : q_V X d n0 n1 P n (q_up M a i v) pc' ls st) : q_V X d n0 n1 P n M pc ls (qI v :: qI i :: qR a :: st) := by
  intro p l e s m args below meth c dC dI cy φ0 base C φ H locs lsA D ol os hl
  subst hp
  have hX : va_K (dC, dI) vwCl (q_tys cy) s := C.2.2.2.2.2.2.2.2.1.1
  obtain ⟨hag, ⟨hP, hD, hM⟩, hS, hnn⟩ := id D
  have ha : 0 < a := q_kd_pos (by rw [hkd]; omega)
  have hal : a ≤ (n : Int) := os.2.2.1
  have h9 := q_w_get (cy := cy) (φ := φ) (M := M) ha hal
  rw [hkd, q_cell_i (by omega)] at h9
  rw [List.map_cons, List.map_cons, List.map_cons, show q_c φ (qR a) = .ref (φ a) from if_neg (by omega)]
  refine va_iast (D := (dC, dI)) C.1 C.2.1 hX hP hD hS (a - 1).toNat 1 h9 rfl (q_vi os.2.1 h0 h1) hd (fun H1 locs1 hP1 hD1 hS1 => ?_)
  rw [q_cl os.2.1] at hP1 hD1
  have hset := q_w_set (cy := cy) (φ := φ) (n := n) (M := M) (M' := q_up M a i v) ha hal (fun b hb => q_up_o hb) (x := .inl (cy 14, q_ln a, .inl (upd (fun j : Nat => Int32.ofInt (M a (j : Int))) i.toNat (Int32.ofInt v)))) (by
    rw [hkd, q_cell_i (by omega)]
    congr 4
    skip
    funext j
    unfold upd
    by_cases e9 : j = i.toNat
    · subst e9
      rw [if_pos rfl, q_nn h0, q_up_s]

    · rw [if_neg e9, q_up_n (by omega)])
  rw [hset] at hP1 hD1
  refine kk p l e s m args below meth c dC dI cy φ0 base C φ H1 locs1 lsA ⟨hag, ⟨hP1, hD1, ?_⟩, hS1, hnn⟩ ol os.2.2.2 hl
  have h7 := q_mem_up (k := i.toNat) (v := v) hM hal (by rw [hkd]; exact os.1) (by rw [hkd]; rfl)
  rw [q_nn h0] at h7
  exact h7
theorem qr_lastore (pc pc' : Nat) (hp : pc + 1 = pc') {a i v : Int} (hkd : q_kd a = 15) (h0 : 0 ≤ i) (h1 : i < (q_ln a : Int)) (hd : decode X.1 pc = .ok (.lastore, 1)) (kk : q_V X d n0 n1 P n (q_up M a i v) pc' ls st) : q_V X d n0 n1 P n M pc ls (qL v :: qI i :: qR a :: st) := by
  intro p l e s m args below meth c dC dI cy φ0 base C φ H locs lsA D ol os hl
  subst hp
  have hX : va_K (dC, dI) vwCl (q_tys cy) s := C.2.2.2.2.2.2.2.2.1.1
  obtain ⟨hag, ⟨hP, hD, hM⟩, hS, hnn⟩ := id D
  have ha : 0 < a := q_kd_pos (by rw [hkd]; omega)
  have hal : a ≤ (n : Int) := os.2.2.1
  have h9 := q_w_get (cy := cy) (φ := φ) (M := M) ha hal
  rw [hkd, q_cell_l] at h9
  rw [List.map_cons, List.map_cons, List.map_cons, show q_c φ (qR a) = .ref (φ a) from if_neg (by omega)]
  refine va_last (D := (dC, dI)) C.1 C.2.1 hX hP hD hS (a - 1).toNat 2 h9 rfl (q_vi os.2.1 h0 h1) hd (fun H1 locs1 hP1 hD1 hS1 => ?_)
  rw [q_cl os.2.1] at hP1 hD1
  have hset := q_w_set (cy := cy) (φ := φ) (n := n) (M := M) (M' := q_up M a i v) ha hal (fun b hb => q_up_o hb) (x := .inl (cy 15, q_ln a, .inr (.inl (vp_updL (fun j : Nat => Int64.ofInt (M a (j : Int))) i.toNat (Int64.ofInt v))))) (by
    rw [hkd, q_cell_l]
    congr 4
    congr 1
    funext j
    unfold vp_updL
    by_cases e9 : j = i.toNat
    · subst e9
      rw [if_pos rfl, q_nn h0, q_up_s]

    · rw [if_neg e9, q_up_n (by omega)])
  rw [hset] at hP1 hD1
  refine kk p l e s m args below meth c dC dI cy φ0 base C φ H1 locs1 lsA ⟨hag, ⟨hP1, hD1, ?_⟩, hS1, hnn⟩ ol os.2.2.2 hl
  have h7 := q_mem_up (k := i.toNat) (v := v) hM hal (by rw [hkd]; exact os.1) (by rw [hkd]; rfl)
  rw [q_nn h0] at h7
  exact h7
theorem qr_bastore (pc pc' : Nat) (hp : pc + 1 = pc') {a i v : Int} (hkd : q_kd a = 13) (h0 : 0 ≤ i) (h1 : i < (q_ln a : Int)) (hd : decode X.1 pc = .ok (.bastore, 1)) (kk : q_V X d n0 n1 P n (q_up M a i (q_nb v)) pc' ls st) : q_V X d n0 n1 P n M pc ls (qI v :: qI i :: qR a :: st) := by
  intro p l e s m args below meth c dC dI cy φ0 base C φ H locs lsA D ol os hl
  subst hp
  have hX : va_K (dC, dI) vwCl (q_tys cy) s := C.2.2.2.2.2.2.2.2.1.1
  obtain ⟨hag, ⟨hP, hD, hM⟩, hS, hnn⟩ := id D
  have ha : 0 < a := q_kd_pos (by rw [hkd]; omega)
  have hal : a ≤ (n : Int) := os.2.2.1
  have h9 := q_w_get (cy := cy) (φ := φ) (M := M) ha hal
  rw [hkd, q_cell_i (by omega)] at h9
  rw [List.map_cons, List.map_cons, List.map_cons, show q_c φ (qR a) = .ref (φ a) from if_neg (by omega)]
  refine va_bast (D := (dC, dI)) C.1 C.2.1 hX hP hD hS (a - 1).toNat 0 h9 rfl (q_vi os.2.1 h0 h1) hd (fun H1 locs1 hP1 hD1 hS1 => ?_)
  rw [q_cl os.2.1] at hP1 hD1
  have hset := q_w_set (cy := cy) (φ := φ) (n := n) (M := M) (M' := q_up M a i (q_nb v)) ha hal (fun b hb => q_up_o hb) (x := .inl (cy 13, q_ln a, .inl (upd (fun j : Nat => Int32.ofInt (M a (j : Int))) i.toNat (vp_nar .byte (Int32.ofInt v))))) (by
    rw [hkd, q_cell_i (by omega)]
    congr 4
    skip
    funext j
    unfold upd
    by_cases e9 : j = i.toNat
    · subst e9
      rw [if_pos rfl, q_nn h0, q_up_s]
      exact (Int32.ofInt_toInt _).symm
    · rw [if_neg e9, q_up_n (by omega)])
  rw [hset] at hP1 hD1
  refine kk p l e s m args below meth c dC dI cy φ0 base C φ H1 locs1 lsA ⟨hag, ⟨hP1, hD1, ?_⟩, hS1, hnn⟩ ol os.2.2.2 hl
  have h7 := q_mem_up (k := i.toNat) (v := (q_nb v)) hM hal (by rw [hkd]; exact q_in32_t _) (by rw [hkd]; rfl)
  rw [q_nn h0] at h7
  exact h7
theorem qr_zastore (pc pc' : Nat) (hp : pc + 1 = pc') {a i v : Int} (hkd : q_kd a = 16) (h0 : 0 ≤ i) (h1 : i < (q_ln a : Int)) (hd : decode X.1 pc = .ok (.bastore, 1)) (kk : q_V X d n0 n1 P n (q_up M a i (q_nz v)) pc' ls st) : q_V X d n0 n1 P n M pc ls (qI v :: qI i :: qR a :: st) := by
  intro p l e s m args below meth c dC dI cy φ0 base C φ H locs lsA D ol os hl
  subst hp
  have hX : va_K (dC, dI) vwCl (q_tys cy) s := C.2.2.2.2.2.2.2.2.1.1
  obtain ⟨hag, ⟨hP, hD, hM⟩, hS, hnn⟩ := id D
  have ha : 0 < a := q_kd_pos (by rw [hkd]; omega)
  have hal : a ≤ (n : Int) := os.2.2.1
  have h9 := q_w_get (cy := cy) (φ := φ) (M := M) ha hal
  rw [hkd, q_cell_i (by omega)] at h9
  rw [List.map_cons, List.map_cons, List.map_cons, show q_c φ (qR a) = .ref (φ a) from if_neg (by omega)]
  refine va_zast (D := (dC, dI)) C.1 C.2.1 hX hP hD hS (a - 1).toNat 3 h9 rfl (q_vi os.2.1 h0 h1) hd (fun H1 locs1 hP1 hD1 hS1 => ?_)
  rw [q_cl os.2.1] at hP1 hD1
  have hset := q_w_set (cy := cy) (φ := φ) (n := n) (M := M) (M' := q_up M a i (q_nz v)) ha hal (fun b hb => q_up_o hb) (x := .inl (cy 16, q_ln a, .inl (upd (fun j : Nat => Int32.ofInt (M a (j : Int))) i.toNat (vp_nar .boolean (Int32.ofInt v))))) (by
    rw [hkd, q_cell_i (by omega)]
    congr 4
    skip
    funext j
    unfold upd
    by_cases e9 : j = i.toNat
    · subst e9
      rw [if_pos rfl, q_nn h0, q_up_s]
      exact (Int32.ofInt_toInt _).symm
    · rw [if_neg e9, q_up_n (by omega)])
  rw [hset] at hP1 hD1
  refine kk p l e s m args below meth c dC dI cy φ0 base C φ H1 locs1 lsA ⟨hag, ⟨hP1, hD1, ?_⟩, hS1, hnn⟩ ol os.2.2.2 hl
  have h7 := q_mem_up (k := i.toNat) (v := (q_nz v)) hM hal (by rw [hkd]; exact q_in32_t _) (by rw [hkd]; rfl)
  rw [q_nn h0] at h7
  exact h7
end QM
