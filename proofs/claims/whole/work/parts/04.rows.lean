
theorem q_ofInt32 {x : Int} (h : q_in32 x) : (Int32.ofInt x).toInt = x := by
  rw [Int32.toInt_ofInt]
  unfold q_in32 at h
  exact Int.bmod_eq_of_le (by simp [Int32.size]; omega) (by simp [Int32.size]; omega)
theorem q_ofInt64 {x : Int} (h : q_in64 x) : (Int64.ofInt x).toInt = x := by
  rw [Int64.toInt_ofInt]
  unfold q_in64 at h
  exact Int.bmod_eq_of_le (by simp [Int64.size]; omega) (by simp [Int64.size]; omega)
theorem q_in32_t (x : Int32) : q_in32 x.toInt := ⟨Int32.le_toInt x, Int32.toInt_lt x⟩
theorem q_in64_t (x : Int64) : q_in64 x.toInt := ⟨Int64.le_toInt x, Int64.toInt_lt x⟩
theorem q_i_eq {a b : Int} (ha : q_in32 a) (hb : q_in32 b) : Int32.ofInt a = Int32.ofInt b ↔ a = b := by
  constructor
  · intro h
    have := congrArg Int32.toInt h
    rwa [q_ofInt32 ha, q_ofInt32 hb] at this
  · intro h; rw [h]
theorem q_i_lt {a b : Int} (ha : q_in32 a) (hb : q_in32 b) : Int32.ofInt a < Int32.ofInt b ↔ a < b := by
  rw [Int32.lt_iff_toInt_lt, q_ofInt32 ha, q_ofInt32 hb]
theorem q_i_le {a b : Int} (ha : q_in32 a) (hb : q_in32 b) : Int32.ofInt a ≤ Int32.ofInt b ↔ a ≤ b := by
  rw [Int32.le_iff_toInt_le, q_ofInt32 ha, q_ofInt32 hb]
theorem q_in32_0 : q_in32 0 := by unfold q_in32; omega
theorem q_okl_at {n : Nat} : ∀ {ls : List (Option q_AV)} {i : Nat} {v : q_AV}, q_okl n ls → ls[i]? = some (some v) → q_ok n v
  | [], i, v, _, h => by simp at h
  | none :: l, 0, v, _, h => by simp at h
  | none :: l, i + 1, v, h0, h => q_okl_at (ls := l) h0 (by simpa using h)
  | some w :: l, 0, v, h0, h => by
    have e : w = v := by simpa using h
    exact e ▸ h0.1
  | some w :: l, i + 1, v, h0, h => q_okl_at (ls := l) h0.2 (by simpa using h)
theorem q_okl_set {n : Nat} {v : q_AV} (hv : q_ok n v) : ∀ {ls : List (Option q_AV)} {i : Nat}, q_okl n ls → q_okl n (ls.set i (some v))
  | [], i, _ => trivial
  | none :: l, 0, h => ⟨hv, h⟩
  | some w :: l, 0, h => ⟨hv, h.2⟩
  | none :: l, i + 1, h => q_okl_set hv (ls := l) h
  | some w :: l, i + 1, h => ⟨h.1, q_okl_set hv (ls := l) h.2⟩
theorem q_okl_non {n : Nat} : ∀ {ls : List (Option q_AV)} {i : Nat}, q_okl n ls → q_okl n (ls.set i none)
  | [], i, _ => trivial
  | none :: l, 0, h => h
  | some w :: l, 0, h => h.2
  | none :: l, i + 1, h => q_okl_non (ls := l) h
  | some w :: l, i + 1, h => ⟨h.1, q_okl_non (ls := l) h.2⟩
/-- the known locals as the kit lists them -/
def q_lv (φ : Int → Nat) : Nat → List (Option q_AV) → List (Nat × Value)
  | _, [] => []
  | i, none :: l => q_lv φ (i + 1) l
  | i, some v :: l => (i, q_c φ v) :: q_lv φ (i + 1) l
theorem q_lv_mem {φ : Int → Nat} : ∀ {ls : List (Option q_AV)} {i j : Nat} {w : Value}, (j, w) ∈ q_lv φ i ls → ∃ v, ls[j - i]? = some (some v) ∧ i ≤ j ∧ w = q_c φ v
  | [], i, j, w, h => by simp [q_lv] at h
  | none :: l, i, j, w, h => by
    obtain ⟨v, h1, h2, h3⟩ := q_lv_mem (ls := l) h
    refine ⟨v, ?_, by omega, h3⟩
    rw [show j - i = (j - (i + 1)) + 1 by omega]
    simpa using h1
  | some u :: l, i, j, w, h => by
    rcases List.mem_cons.mp h with h | h
    · obtain ⟨rfl, rfl⟩ := Prod.mk.inj h
      exact ⟨u, by simp, Nat.le_refl _, rfl⟩
    · obtain ⟨v, h1, h2, h3⟩ := q_lv_mem (ls := l) h
      refine ⟨v, ?_, by omega, h3⟩
      rw [show j - i = (j - (i + 1)) + 1 by omega]
      simpa using h1
theorem q_lv_in {φ : Int → Nat} : ∀ {ls : List (Option q_AV)} {i j : Nat} {v : q_AV}, ls[j]? = some (some v) → (i + j, q_c φ v) ∈ q_lv φ i ls
  | [], i, j, v, h => by simp at h
  | none :: l, i, 0, v, h => by simp at h
  | none :: l, i, j + 1, v, h => by
    have := q_lv_in (φ := φ) (ls := l) (i := i + 1) (j := j) (v := v) (by simpa using h)
    rw [show i + (j + 1) = i + 1 + j by omega]
    exact this
  | some u :: l, i, 0, v, h => by
    have e : u = v := by simpa using h
    subst e
    exact List.mem_cons_self
  | some u :: l, i, j + 1, v, h => by
    have := q_lv_in (φ := φ) (ls := l) (i := i + 1) (j := j) (v := v) (by simpa using h)
    rw [show i + (j + 1) = i + 1 + j by omega]
    exact List.mem_cons_of_mem _ this
theorem q_Ls.has {lsA : Array Slot} {nL : Nat} {φ : Int → Nat} {ls : List (Option q_AV)} (h : q_Ls lsA nL φ ls) : lv_has lsA nL (q_lv φ 0 ls) := by
  refine ⟨h.1, h.2.1, fun q hq => ?_⟩
  obtain ⟨v, h1, -, h3⟩ := q_lv_mem (φ := φ) (ls := ls) (i := 0) (j := q.1) (w := q.2) hq
  rw [h3]
  exact h.2.2 q.1 v (by simpa using h1)
def q_cat : q_AV → Nat
  | .inl _ => 1
  | .inr (.inl _) => 2
  | .inr (.inr _) => 1
theorem q_cat_c (φ : Int → Nat) : ∀ v : q_AV, (q_c φ v).category = q_cat v
  | .inl _ => rfl
  | .inr (.inl _) => rfl
  | .inr (.inr x) => by
    show (q_r φ x).category = 1
    unfold q_r
    split <;> rfl
/-- no long lies in the slot ahead of i -/
def q_nl (ls : List (Option q_AV)) (i : Nat) : Bool := match i with
  | 0 => true
  | j + 1 => match ls[j]? with
    | some (some v) => q_cat v == 1
    | _ => true
theorem q_nl_of {ls : List (Option q_AV)} {i j : Nat} {v : q_AV} (h : q_nl ls i = true) (e : j + 1 = i) (hv : ls[j]? = some (some v)) : q_cat v = 1 := by
  subst e
  simp only [q_nl, hv] at h
  simpa using h
theorem q_Ls.st1 {lsA ls' : Array Slot} {nL : Nat} {φ : Int → Nat} {ls : List (Option q_AV)} {i : Nat} {v : q_AV} (hn : q_nl ls i = true)
    (h : lv_has ls' nL ((i, q_c φ v) :: (q_lv φ 0 ls).filter (fun q => !(q.1 == i) && !(q.1 + 1 == i && q.2.category == 2)))) : q_Ls ls' nL φ (ls.set i (some v)) := by
  refine ⟨h.1, h.2.1, fun j w hw => ?_⟩
  rw [List.getElem?_set] at hw
  by_cases e : i = j
  · subst e
    rw [if_pos rfl] at hw
    split at hw
    · have : v = w := by simpa using hw
      subst this
      exact h.2.2 (i, q_c φ v) List.mem_cons_self
    · simp at hw
  · rw [if_neg e] at hw
    have h1 := q_lv_in (φ := φ) (i := 0) hw
    rw [Nat.zero_add] at h1
    refine h.2.2 (j, q_c φ w) (List.mem_cons_of_mem _ (List.mem_filter.mpr ⟨h1, ?_⟩))
    have e1 : (j == i) = false := by simpa using fun z => e z.symm
    simp only [e1, Bool.not_false, Bool.true_and, q_cat_c]
    by_cases e2 : j + 1 = i
    · rw [q_nl_of hn e2 hw]
      simp
    · simp [e2]
theorem q_Ls.st2 {lsA ls' : Array Slot} {nL : Nat} {φ : Int → Nat} {ls : List (Option q_AV)} {i : Nat} {v : q_AV} (hn : q_nl ls i = true)
    (h : lv_has ls' nL ((i, q_c φ v) :: (q_lv φ 0 ls).filter (fun q => !(q.1 == i) && (!(q.1 == i + 1) && !(q.1 + 1 == i && q.2.category == 2))))) : q_Ls ls' nL φ ((ls.set i (some v)).set (i + 1) none) := by
  refine ⟨h.1, h.2.1, fun j w hw => ?_⟩
  rw [List.getElem?_set] at hw
  by_cases e0 : i + 1 = j
  · subst e0
    rw [if_pos rfl] at hw
    split at hw <;> simp at hw
  rw [if_neg e0, List.getElem?_set] at hw
  by_cases e : i = j
  · subst e
    rw [if_pos rfl] at hw
    split at hw
    · have : v = w := by simpa using hw
      subst this
      exact h.2.2 (i, q_c φ v) List.mem_cons_self
    · simp at hw
  · rw [if_neg e] at hw
    have h1 := q_lv_in (φ := φ) (i := 0) hw
    rw [Nat.zero_add] at h1
    refine h.2.2 (j, q_c φ w) (List.mem_cons_of_mem _ (List.mem_filter.mpr ⟨h1, ?_⟩))
    have e1 : (j == i) = false := by simpa using fun z => e z.symm
    have e3 : (j == i + 1) = false := by simpa using fun z => e0 z.symm
    simp only [e1, e3, Bool.not_false, Bool.true_and, q_cat_c]
    by_cases e2 : j + 1 = i
    · rw [q_nl_of hn e2 hw]
      simp
    · simp [e2]

def q_add (a b : Int) : Int := (Int32.ofInt a + Int32.ofInt b).toInt
def q_sub (a b : Int) : Int := (Int32.ofInt a - Int32.ofInt b).toInt
def q_mul (a b : Int) : Int := (Int32.ofInt a * Int32.ofInt b).toInt
def q_and (a b : Int) : Int := (Int32.ofInt a &&& Int32.ofInt b).toInt
def q_or (a b : Int) : Int := (Int32.ofInt a ||| Int32.ofInt b).toInt
def q_xor (a b : Int) : Int := (Int32.ofInt a ^^^ Int32.ofInt b).toInt
def q_div (a b : Int) : Int := (Int32.ofInt a / Int32.ofInt b).toInt
def q_rem (a b : Int) : Int := (Int32.ofInt a - Int32.ofInt a / Int32.ofInt b * Int32.ofInt b).toInt
def q_neg (a : Int) : Int := (- Int32.ofInt a).toInt
def q_shl (a b : Int) : Int := (Int32.ofInt a <<< (Int32.ofInt b &&& 31)).toInt
def q_shr (a b : Int) : Int := (Int32.ofInt a >>> (Int32.ofInt b &&& 31)).toInt
def q_ushr (a b : Int) : Int := ((Int32.ofInt a).toUInt32 >>> ((Int32.ofInt b).toUInt32 &&& Int32.toUInt32 31)).toInt32.toInt
def q_ladd (a b : Int) : Int := (Int64.ofInt a + Int64.ofInt b).toInt
def q_lsub (a b : Int) : Int := (Int64.ofInt a - Int64.ofInt b).toInt
def q_lmul (a b : Int) : Int := (Int64.ofInt a * Int64.ofInt b).toInt
def q_land (a b : Int) : Int := (Int64.ofInt a &&& Int64.ofInt b).toInt
def q_lor (a b : Int) : Int := (Int64.ofInt a ||| Int64.ofInt b).toInt
def q_ldiv (a b : Int) : Int := (Int64.ofInt a / Int64.ofInt b).toInt
def q_lrem (a b : Int) : Int := (Int64.ofInt a - Int64.ofInt a / Int64.ofInt b * Int64.ofInt b).toInt
def q_lneg (a : Int) : Int := (- Int64.ofInt a).toInt
def q_lshl (a b : Int) : Int := (Int64.ofInt a <<< ((Int32.ofInt b).toInt64 &&& 63)).toInt
def q_l2i (a : Int) : Int := ((Int64.ofInt a).toInt32).toInt
def q_i2b (a : Int) : Int := ((Int32.ofInt a).toInt8.toInt32).toInt
def q_i2s (a : Int) : Int := ((Int32.ofInt a).toInt16.toInt32).toInt
def q_i2c (a : Int) : Int := (((Int32.ofInt a).toUInt32 % 65536).toInt32).toInt
def q_lcmp (a b : Int) : Int := if b < a then 1 else if a = b then 0 else -1
section QR
variable {X : q_Mt} {d n0 n1 : Nat} {P : Option q_AV → q_Mem → Prop} {n : Nat} {M : q_Mem} {ls : List (Option q_AV)} {st : List q_AV}
theorem qr_iadd (pc pc' : Nat) (hp : pc + 1 = pc') {a b : Int} (hd : decode X.1 pc = .ok (.iadd, 1)) (k : q_V X d n0 n1 P n M pc' ls (qI (q_add a b) :: st)) : q_V X d n0 n1 P n M pc ls (qI b :: qI a :: st) := by
  intro p l e s m args below meth c dC dI cy φ0 base C φ H locs lsA D ol os hl
  subst hp
  refine lv_iadd C.1 C.2.1 hd ?_
  have h9 := k p l e s m args below meth c dC dI cy φ0 base C φ H locs lsA D ol ⟨q_in32_t _, os.2.2⟩ hl
  rw [List.map_cons, show q_c φ (qI (q_add a b)) = .int _ from congrArg Value.int (Int32.ofInt_toInt _)] at h9
  exact h9
theorem qr_isub (pc pc' : Nat) (hp : pc + 1 = pc') {a b : Int} (hd : decode X.1 pc = .ok (.isub, 1)) (k : q_V X d n0 n1 P n M pc' ls (qI (q_sub a b) :: st)) : q_V X d n0 n1 P n M pc ls (qI b :: qI a :: st) := by
  intro p l e s m args below meth c dC dI cy φ0 base C φ H locs lsA D ol os hl
  subst hp
  refine lv_isub C.1 C.2.1 hd ?_
  have h9 := k p l e s m args below meth c dC dI cy φ0 base C φ H locs lsA D ol ⟨q_in32_t _, os.2.2⟩ hl
  rw [List.map_cons, show q_c φ (qI (q_sub a b)) = .int _ from congrArg Value.int (Int32.ofInt_toInt _)] at h9
  exact h9
theorem qr_imul (pc pc' : Nat) (hp : pc + 1 = pc') {a b : Int} (hd : decode X.1 pc = .ok (.imul, 1)) (k : q_V X d n0 n1 P n M pc' ls (qI (q_mul a b) :: st)) : q_V X d n0 n1 P n M pc ls (qI b :: qI a :: st) := by
  intro p l e s m args below meth c dC dI cy φ0 base C φ H locs lsA D ol os hl
  subst hp
  refine lv_imul C.1 C.2.1 hd ?_
  have h9 := k p l e s m args below meth c dC dI cy φ0 base C φ H locs lsA D ol ⟨q_in32_t _, os.2.2⟩ hl
  rw [List.map_cons, show q_c φ (qI (q_mul a b)) = .int _ from congrArg Value.int (Int32.ofInt_toInt _)] at h9
  exact h9
theorem qr_iand (pc pc' : Nat) (hp : pc + 1 = pc') {a b : Int} (hd : decode X.1 pc = .ok (.iand, 1)) (k : q_V X d n0 n1 P n M pc' ls (qI (q_and a b) :: st)) : q_V X d n0 n1 P n M pc ls (qI b :: qI a :: st) := by
  intro p l e s m args below meth c dC dI cy φ0 base C φ H locs lsA D ol os hl
  subst hp
  refine lv_iand C.1 C.2.1 hd ?_
  have h9 := k p l e s m args below meth c dC dI cy φ0 base C φ H locs lsA D ol ⟨q_in32_t _, os.2.2⟩ hl
  rw [List.map_cons, show q_c φ (qI (q_and a b)) = .int _ from congrArg Value.int (Int32.ofInt_toInt _)] at h9
  exact h9
theorem qr_ior (pc pc' : Nat) (hp : pc + 1 = pc') {a b : Int} (hd : decode X.1 pc = .ok (.ior, 1)) (k : q_V X d n0 n1 P n M pc' ls (qI (q_or a b) :: st)) : q_V X d n0 n1 P n M pc ls (qI b :: qI a :: st) := by
  intro p l e s m args below meth c dC dI cy φ0 base C φ H locs lsA D ol os hl
  subst hp
  refine lv_ior C.1 C.2.1 hd ?_
  have h9 := k p l e s m args below meth c dC dI cy φ0 base C φ H locs lsA D ol ⟨q_in32_t _, os.2.2⟩ hl
  rw [List.map_cons, show q_c φ (qI (q_or a b)) = .int _ from congrArg Value.int (Int32.ofInt_toInt _)] at h9
  exact h9
theorem qr_ixor (pc pc' : Nat) (hp : pc + 1 = pc') {a b : Int} (hd : decode X.1 pc = .ok (.ixor, 1)) (k : q_V X d n0 n1 P n M pc' ls (qI (q_xor a b) :: st)) : q_V X d n0 n1 P n M pc ls (qI b :: qI a :: st) := by
  intro p l e s m args below meth c dC dI cy φ0 base C φ H locs lsA D ol os hl
  subst hp
  refine lv_ixor C.1 C.2.1 hd ?_
  have h9 := k p l e s m args below meth c dC dI cy φ0 base C φ H locs lsA D ol ⟨q_in32_t _, os.2.2⟩ hl
  rw [List.map_cons, show q_c φ (qI (q_xor a b)) = .int _ from congrArg Value.int (Int32.ofInt_toInt _)] at h9
  exact h9
theorem qr_idiv (pc pc' : Nat) (hp : pc + 1 = pc') {a b : Int} (hz : b ≠ 0) (hd : decode X.1 pc = .ok (.idiv, 1)) (k : q_V X d n0 n1 P n M pc' ls (qI (q_div a b) :: st)) : q_V X d n0 n1 P n M pc ls (qI b :: qI a :: st) := by
  intro p l e s m args below meth c dC dI cy φ0 base C φ H locs lsA D ol os hl
  subst hp
  refine lv_idiv C.1 C.2.1 hd (fun h => hz ((q_i_eq os.1 q_in32_0).mp h)) ?_
  have h9 := k p l e s m args below meth c dC dI cy φ0 base C φ H locs lsA D ol ⟨q_in32_t _, os.2.2⟩ hl
  rw [List.map_cons, show q_c φ (qI (q_div a b)) = .int _ from congrArg Value.int (Int32.ofInt_toInt _)] at h9
  exact h9
theorem qr_irem (pc pc' : Nat) (hp : pc + 1 = pc') {a b : Int} (hz : b ≠ 0) (hd : decode X.1 pc = .ok (.irem, 1)) (k : q_V X d n0 n1 P n M pc' ls (qI (q_rem a b) :: st)) : q_V X d n0 n1 P n M pc ls (qI b :: qI a :: st) := by
  intro p l e s m args below meth c dC dI cy φ0 base C φ H locs lsA D ol os hl
  subst hp
  refine lv_irem C.1 C.2.1 hd (fun h => hz ((q_i_eq os.1 q_in32_0).mp h)) ?_
  have h9 := k p l e s m args below meth c dC dI cy φ0 base C φ H locs lsA D ol ⟨q_in32_t _, os.2.2⟩ hl
  rw [List.map_cons, show q_c φ (qI (q_rem a b)) = .int _ from congrArg Value.int (Int32.ofInt_toInt _)] at h9
  exact h9
theorem qr_ishl (pc pc' : Nat) (hp : pc + 1 = pc') {a b : Int} (hd : decode X.1 pc = .ok (.ishl, 1)) (k : q_V X d n0 n1 P n M pc' ls (qI (q_shl a b) :: st)) : q_V X d n0 n1 P n M pc ls (qI b :: qI a :: st) := by
  intro p l e s m args below meth c dC dI cy φ0 base C φ H locs lsA D ol os hl
  subst hp
  refine lv_ishl C.1 C.2.1 hd ?_
  have h9 := k p l e s m args below meth c dC dI cy φ0 base C φ H locs lsA D ol ⟨q_in32_t _, os.2.2⟩ hl
  rw [List.map_cons, show q_c φ (qI (q_shl a b)) = .int _ from congrArg Value.int (Int32.ofInt_toInt _)] at h9
  exact h9
theorem qr_ishr (pc pc' : Nat) (hp : pc + 1 = pc') {a b : Int} (hd : decode X.1 pc = .ok (.ishr, 1)) (k : q_V X d n0 n1 P n M pc' ls (qI (q_shr a b) :: st)) : q_V X d n0 n1 P n M pc ls (qI b :: qI a :: st) := by
  intro p l e s m args below meth c dC dI cy φ0 base C φ H locs lsA D ol os hl
  subst hp
  refine lv_ishr C.1 C.2.1 hd ?_
  have h9 := k p l e s m args below meth c dC dI cy φ0 base C φ H locs lsA D ol ⟨q_in32_t _, os.2.2⟩ hl
  rw [List.map_cons, show q_c φ (qI (q_shr a b)) = .int _ from congrArg Value.int (Int32.ofInt_toInt _)] at h9
  exact h9
theorem qr_iushr (pc pc' : Nat) (hp : pc + 1 = pc') {a b : Int} (hd : decode X.1 pc = .ok (.iushr, 1)) (k : q_V X d n0 n1 P n M pc' ls (qI (q_ushr a b) :: st)) : q_V X d n0 n1 P n M pc ls (qI b :: qI a :: st) := by
  intro p l e s m args below meth c dC dI cy φ0 base C φ H locs lsA D ol os hl
  subst hp
  exact lv_iushr C.1 C.2.1 hd (Int32.ofInt_toInt _).symm (k p l e s m args below meth c dC dI cy φ0 base C φ H locs lsA D ol ⟨q_in32_t _, os.2.2⟩ hl)
theorem qr_ineg (pc pc' : Nat) (hp : pc + 1 = pc') {a : Int} (hd : decode X.1 pc = .ok (.ineg, 1)) (k : q_V X d n0 n1 P n M pc' ls (qI (q_neg a) :: st)) : q_V X d n0 n1 P n M pc ls (qI a :: st) := by
  intro p l e s m args below meth c dC dI cy φ0 base C φ H locs lsA D ol os hl
  subst hp
  refine lv_ineg C.1 C.2.1 hd ?_
  have h9 := k p l e s m args below meth c dC dI cy φ0 base C φ H locs lsA D ol ⟨q_in32_t _, os.2⟩ hl
  rw [List.map_cons, show q_c φ (qI (q_neg a)) = .int _ from congrArg Value.int (Int32.ofInt_toInt _)] at h9
  exact h9
theorem qr_ladd (pc pc' : Nat) (hp : pc + 1 = pc') {a b : Int} (hd : decode X.1 pc = .ok (.ladd, 1)) (k : q_V X d n0 n1 P n M pc' ls (qL (q_ladd a b) :: st)) : q_V X d n0 n1 P n M pc ls (qL b :: qL a :: st) := by
  intro p l e s m args below meth c dC dI cy φ0 base C φ H locs lsA D ol os hl
  subst hp
  refine lv_ladd C.1 C.2.1 hd ?_
  have h9 := k p l e s m args below meth c dC dI cy φ0 base C φ H locs lsA D ol ⟨q_in64_t _, os.2.2⟩ hl
  rw [List.map_cons, show q_c φ (qL (q_ladd a b)) = .long _ from congrArg Value.long (Int64.ofInt_toInt _)] at h9
  exact h9
theorem qr_lsub (pc pc' : Nat) (hp : pc + 1 = pc') {a b : Int} (hd : decode X.1 pc = .ok (.lsub, 1)) (k : q_V X d n0 n1 P n M pc' ls (qL (q_lsub a b) :: st)) : q_V X d n0 n1 P n M pc ls (qL b :: qL a :: st) := by
  intro p l e s m args below meth c dC dI cy φ0 base C φ H locs lsA D ol os hl
  subst hp
  refine lv_lsub C.1 C.2.1 hd ?_
  have h9 := k p l e s m args below meth c dC dI cy φ0 base C φ H locs lsA D ol ⟨q_in64_t _, os.2.2⟩ hl
  rw [List.map_cons, show q_c φ (qL (q_lsub a b)) = .long _ from congrArg Value.long (Int64.ofInt_toInt _)] at h9
  exact h9
theorem qr_lmul (pc pc' : Nat) (hp : pc + 1 = pc') {a b : Int} (hd : decode X.1 pc = .ok (.lmul, 1)) (k : q_V X d n0 n1 P n M pc' ls (qL (q_lmul a b) :: st)) : q_V X d n0 n1 P n M pc ls (qL b :: qL a :: st) := by
  intro p l e s m args below meth c dC dI cy φ0 base C φ H locs lsA D ol os hl
  subst hp
  refine lv_lmul C.1 C.2.1 hd ?_
  have h9 := k p l e s m args below meth c dC dI cy φ0 base C φ H locs lsA D ol ⟨q_in64_t _, os.2.2⟩ hl
  rw [List.map_cons, show q_c φ (qL (q_lmul a b)) = .long _ from congrArg Value.long (Int64.ofInt_toInt _)] at h9
  exact h9
theorem qr_land (pc pc' : Nat) (hp : pc + 1 = pc') {a b : Int} (hd : decode X.1 pc = .ok (.land, 1)) (k : q_V X d n0 n1 P n M pc' ls (qL (q_land a b) :: st)) : q_V X d n0 n1 P n M pc ls (qL b :: qL a :: st) := by
  intro p l e s m args below meth c dC dI cy φ0 base C φ H locs lsA D ol os hl
  subst hp
  refine lv_land C.1 C.2.1 hd ?_
  have h9 := k p l e s m args below meth c dC dI cy φ0 base C φ H locs lsA D ol ⟨q_in64_t _, os.2.2⟩ hl
  rw [List.map_cons, show q_c φ (qL (q_land a b)) = .long _ from congrArg Value.long (Int64.ofInt_toInt _)] at h9
  exact h9
theorem qr_lor (pc pc' : Nat) (hp : pc + 1 = pc') {a b : Int} (hd : decode X.1 pc = .ok (.lor, 1)) (k : q_V X d n0 n1 P n M pc' ls (qL (q_lor a b) :: st)) : q_V X d n0 n1 P n M pc ls (qL b :: qL a :: st) := by
  intro p l e s m args below meth c dC dI cy φ0 base C φ H locs lsA D ol os hl
  subst hp
  refine lv_lor C.1 C.2.1 hd ?_
  have h9 := k p l e s m args below meth c dC dI cy φ0 base C φ H locs lsA D ol ⟨q_in64_t _, os.2.2⟩ hl
  rw [List.map_cons, show q_c φ (qL (q_lor a b)) = .long _ from congrArg Value.long (Int64.ofInt_toInt _)] at h9
  exact h9
theorem qr_ldiv (pc pc' : Nat) (hp : pc + 1 = pc') {a b : Int} (hz : b ≠ 0) (hd : decode X.1 pc = .ok (.ldiv, 1)) (k : q_V X d n0 n1 P n M pc' ls (qL (q_ldiv a b) :: st)) : q_V X d n0 n1 P n M pc ls (qL b :: qL a :: st) := by
  intro p l e s m args below meth c dC dI cy φ0 base C φ H locs lsA D ol os hl
  subst hp
  refine lv_ldiv C.1 C.2.1 hd (fun h => hz (by have := congrArg Int64.toInt h; rwa [q_ofInt64 os.1] at this)) ?_
  have h9 := k p l e s m args below meth c dC dI cy φ0 base C φ H locs lsA D ol ⟨q_in64_t _, os.2.2⟩ hl
  rw [List.map_cons, show q_c φ (qL (q_ldiv a b)) = .long _ from congrArg Value.long (Int64.ofInt_toInt _)] at h9
  exact h9
theorem qr_lrem (pc pc' : Nat) (hp : pc + 1 = pc') {a b : Int} (hz : b ≠ 0) (hd : decode X.1 pc = .ok (.lrem, 1)) (k : q_V X d n0 n1 P n M pc' ls (qL (q_lrem a b) :: st)) : q_V X d n0 n1 P n M pc ls (qL b :: qL a :: st) := by
  intro p l e s m args below meth c dC dI cy φ0 base C φ H locs lsA D ol os hl
  subst hp
  refine lv_lrem C.1 C.2.1 hd (fun h => hz (by have := congrArg Int64.toInt h; rwa [q_ofInt64 os.1] at this)) ?_
  have h9 := k p l e s m args below meth c dC dI cy φ0 base C φ H locs lsA D ol ⟨q_in64_t _, os.2.2⟩ hl
  rw [List.map_cons, show q_c φ (qL (q_lrem a b)) = .long _ from congrArg Value.long (Int64.ofInt_toInt _)] at h9
  exact h9
theorem qr_lneg (pc pc' : Nat) (hp : pc + 1 = pc') {a : Int} (hd : decode X.1 pc = .ok (.lneg, 1)) (k : q_V X d n0 n1 P n M pc' ls (qL (q_lneg a) :: st)) : q_V X d n0 n1 P n M pc ls (qL a :: st) := by
  intro p l e s m args below meth c dC dI cy φ0 base C φ H locs lsA D ol os hl
  subst hp
  refine lv_lneg C.1 C.2.1 hd ?_
  have h9 := k p l e s m args below meth c dC dI cy φ0 base C φ H locs lsA D ol ⟨q_in64_t _, os.2⟩ hl
  rw [List.map_cons, show q_c φ (qL (q_lneg a)) = .long _ from congrArg Value.long (Int64.ofInt_toInt _)] at h9
  exact h9
theorem qr_lshl (pc pc' : Nat) (hp : pc + 1 = pc') {a b : Int} (hd : decode X.1 pc = .ok (.lshl, 1)) (k : q_V X d n0 n1 P n M pc' ls (qL (q_lshl a b) :: st)) : q_V X d n0 n1 P n M pc ls (qI b :: qL a :: st) := by
  intro p l e s m args below meth c dC dI cy φ0 base C φ H locs lsA D ol os hl
  subst hp
  exact lv_lshl C.1 C.2.1 hd (Int64.ofInt_toInt _).symm (k p l e s m args below meth c dC dI cy φ0 base C φ H locs lsA D ol ⟨q_in64_t _, os.2.2⟩ hl)
theorem qr_i2l (pc pc' : Nat) (hp : pc + 1 = pc') {a : Int} (hd : decode X.1 pc = .ok (.i2l, 1)) (k : q_V X d n0 n1 P n M pc' ls (qL a :: st)) : q_V X d n0 n1 P n M pc ls (qI a :: st) := by
  intro p l e s m args below meth c dC dI cy φ0 base C φ H locs lsA D ol os hl
  subst hp
  refine lv_i2l C.1 C.2.1 hd ?_ (k p l e s m args below meth c dC dI cy φ0 base C φ H locs lsA D ol ⟨⟨by have := os.1.1; omega, by have := os.1.2; omega⟩, os.2⟩ hl)
  rw [← Int64.toInt_inj, Int32.toInt_toInt64, q_ofInt32 os.1, q_ofInt64 ⟨by have := os.1.1; omega, by have := os.1.2; omega⟩]
theorem qr_l2i (pc pc' : Nat) (hp : pc + 1 = pc') {a : Int} (hd : decode X.1 pc = .ok (.l2i, 1)) (k : q_V X d n0 n1 P n M pc' ls (qI (q_l2i a) :: st)) : q_V X d n0 n1 P n M pc ls (qL a :: st) := by
  intro p l e s m args below meth c dC dI cy φ0 base C φ H locs lsA D ol os hl
  subst hp
  exact lv_l2i C.1 C.2.1 hd (Int32.ofInt_toInt _).symm (k p l e s m args below meth c dC dI cy φ0 base C φ H locs lsA D ol ⟨q_in32_t _, os.2⟩ hl)
theorem qr_i2b (pc pc' : Nat) (hp : pc + 1 = pc') {a : Int} (hd : decode X.1 pc = .ok (.i2b, 1)) (k : q_V X d n0 n1 P n M pc' ls (qI (q_i2b a) :: st)) : q_V X d n0 n1 P n M pc ls (qI a :: st) := by
  intro p l e s m args below meth c dC dI cy φ0 base C φ H locs lsA D ol os hl
  subst hp
  exact lv_i2b C.1 C.2.1 hd (Int32.ofInt_toInt _).symm (k p l e s m args below meth c dC dI cy φ0 base C φ H locs lsA D ol ⟨q_in32_t _, os.2⟩ hl)
theorem qr_i2s (pc pc' : Nat) (hp : pc + 1 = pc') {a : Int} (hd : decode X.1 pc = .ok (.i2s, 1)) (k : q_V X d n0 n1 P n M pc' ls (qI (q_i2s a) :: st)) : q_V X d n0 n1 P n M pc ls (qI a :: st) := by
  intro p l e s m args below meth c dC dI cy φ0 base C φ H locs lsA D ol os hl
  subst hp
  exact lv_i2s C.1 C.2.1 hd (Int32.ofInt_toInt _).symm (k p l e s m args below meth c dC dI cy φ0 base C φ H locs lsA D ol ⟨q_in32_t _, os.2⟩ hl)
theorem qr_i2c (pc pc' : Nat) (hp : pc + 1 = pc') {a : Int} (hd : decode X.1 pc = .ok (.i2c, 1)) (k : q_V X d n0 n1 P n M pc' ls (qI (q_i2c a) :: st)) : q_V X d n0 n1 P n M pc ls (qI a :: st) := by
  intro p l e s m args below meth c dC dI cy φ0 base C φ H locs lsA D ol os hl
  subst hp
  exact lv_i2c C.1 C.2.1 hd (Int32.ofInt_toInt _).symm (k p l e s m args below meth c dC dI cy φ0 base C φ H locs lsA D ol ⟨q_in32_t _, os.2⟩ hl)
theorem qr_lcmp (pc pc' : Nat) (hp : pc + 1 = pc') {a b : Int} (hd : decode X.1 pc = .ok (.lcmp, 1)) (k : q_V X d n0 n1 P n M pc' ls (qI (q_lcmp a b) :: st)) : q_V X d n0 n1 P n M pc ls (qL b :: qL a :: st) := by
  intro p l e s m args below meth c dC dI cy φ0 base C φ H locs lsA D ol os hl
  subst hp
  refine W.lcmp C.1 C.2.1 hd ?_
  have e9 : lg_cmp (Int64.ofInt a) (Int64.ofInt b) = Int32.ofInt (q_lcmp a b) := by
    have ha : q_in64 a := os.2.1
    have hb : q_in64 b := os.1
    unfold lg_cmp q_lcmp
    simp only [gt_iff_lt, Int64.lt_iff_toInt_lt, ← Int64.toInt_inj, q_ofInt64 ha, q_ofInt64 hb]
    by_cases h1 : b < a
    · simp [h1]
    · by_cases h2 : a = b
      · simp [h1, h2]
      · simp [h1, h2]
  rw [e9]
  refine k p l e s m args below meth c dC dI cy φ0 base C φ H locs lsA D ol ⟨?_, os.2.2⟩ hl
  show q_in32 (q_lcmp a b)
  unfold q_lcmp q_in32
  split
  · omega
  · split <;> omega
theorem qr_iconst (pc pc' : Nat) (hp : pc + 1 = pc') {v : Int} (hv : q_in32 v) (hd : decode X.1 pc = .ok (.iconst v, 1)) (k : q_V X d n0 n1 P n M pc' ls (qI v :: st)) : q_V X d n0 n1 P n M pc ls (st) := by
  intro p l e s m args below meth c dC dI cy φ0 base C φ H locs lsA D ol os hl
  subst hp
  refine lv_iconst C.1 C.2.1 hd rfl (k p l e s m args below meth c dC dI cy φ0 base C φ H locs lsA D ol ⟨hv, os⟩ hl)
theorem qr_bipush (pc pc' : Nat) (hp : pc + 2 = pc') {v : Int} (hv : q_in32 v) (he : (Int8.ofInt v).toInt32 = Int32.ofInt v) (hd : decode X.1 pc = .ok (.bipush v, 2)) (k : q_V X d n0 n1 P n M pc' ls (qI v :: st)) : q_V X d n0 n1 P n M pc ls (st) := by
  intro p l e s m args below meth c dC dI cy φ0 base C φ H locs lsA D ol os hl
  subst hp
  exact lv_bipush C.1 C.2.1 hd he (k p l e s m args below meth c dC dI cy φ0 base C φ H locs lsA D ol ⟨hv, os⟩ hl)
theorem qr_sipush (pc pc' : Nat) (hp : pc + 3 = pc') {v : Int} (hv : q_in32 v) (he : (Int16.ofInt v).toInt32 = Int32.ofInt v) (hd : decode X.1 pc = .ok (.sipush v, 3)) (k : q_V X d n0 n1 P n M pc' ls (qI v :: st)) : q_V X d n0 n1 P n M pc ls (st) := by
  intro p l e s m args below meth c dC dI cy φ0 base C φ H locs lsA D ol os hl
  subst hp
  exact lv_sipush C.1 C.2.1 hd he (k p l e s m args below meth c dC dI cy φ0 base C φ H locs lsA D ol ⟨hv, os⟩ hl)
theorem qr_lconst (pc pc' : Nat) (hp : pc + 1 = pc') {v : Fin 2} {w : Int} (hw : q_in64 w) (he : Int64.ofNat (v : Nat) = Int64.ofInt w) (hd : decode X.1 pc = .ok (.lconst v, 1)) (k : q_V X d n0 n1 P n M pc' ls (qL w :: st)) : q_V X d n0 n1 P n M pc ls (st) := by
  intro p l e s m args below meth c dC dI cy φ0 base C φ H locs lsA D ol os hl
  subst hp
  exact lv_lconst C.1 C.2.1 hd he (k p l e s m args below meth c dC dI cy φ0 base C φ H locs lsA D ol ⟨hw, os⟩ hl)
theorem qr_ldc (pc pc' : Nat) (hp : pc + 2 = pc') {ix : Nat} {v : Int} (hv : q_in32 v) (hw : Cond.constant X.2.2.1 ix (Int32.ofInt v) ∈ q_gd) (hd : decode X.1 pc = .ok (.ldc ix, 2)) (k : q_V X d n0 n1 P n M pc' ls (qI v :: st)) : q_V X d n0 n1 P n M pc ls (st) := by
  intro p l e s m args below meth c dC dI cy φ0 base C φ H locs lsA D ol os hl
  subst hp
  exact lv_ldc C.1 C.2.1 C.2.2.2.2.1 (C.2.2.2.2.2.1 _ hw) hd (k p l e s m args below meth c dC dI cy φ0 base C φ H locs lsA D ol ⟨hv, os⟩ hl)
theorem qr_ldc_w (pc pc' : Nat) (hp : pc + 3 = pc') {ix : Nat} {v : Int} (hv : q_in32 v) (hw : Cond.constant X.2.2.1 ix (Int32.ofInt v) ∈ q_gd) (hd : decode X.1 pc = .ok (.ldc_w ix, 3)) (k : q_V X d n0 n1 P n M pc' ls (qI v :: st)) : q_V X d n0 n1 P n M pc ls (st) := by
  intro p l e s m args below meth c dC dI cy φ0 base C φ H locs lsA D ol os hl
  subst hp
  exact lv_ldcw C.1 C.2.1 C.2.2.2.2.1 (C.2.2.2.2.2.1 _ hw) hd (k p l e s m args below meth c dC dI cy φ0 base C φ H locs lsA D ol ⟨hv, os⟩ hl)
theorem qr_ldc2 (pc pc' : Nat) (hp : pc + 3 = pc') {ix : Nat} {v : Int} (hv : q_in64 v) (hw : Cond.constantLong X.2.2.1 ix (Int64.ofInt v) ∈ q_gd) (hd : decode X.1 pc = .ok (.ldc2_w ix, 3)) (k : q_V X d n0 n1 P n M pc' ls (qL v :: st)) : q_V X d n0 n1 P n M pc ls (st) := by
  intro p l e s m args below meth c dC dI cy φ0 base C φ H locs lsA D ol os hl
  subst hp
  exact lv_ldc2 C.1 C.2.1 C.2.2.2.2.1 (C.2.2.2.2.2.1 _ hw) hd (k p l e s m args below meth c dC dI cy φ0 base C φ H locs lsA D ol ⟨hv, os⟩ hl)
theorem qr_iload_n (pc pc' : Nat) (hp : pc + 1 = pc') {j : Fin 4} {x : Int} (hi : ls[(j : Nat)]? = some (some (qI x))) (hd : decode X.1 pc = .ok (.iload_n j, 1)) (k : q_V X d n0 n1 P n M pc' ls (qI x :: st)) : q_V X d n0 n1 P n M pc ls (st) := by
  intro p l e s m args below meth c dC dI cy φ0 base C φ H locs lsA D ol os hl
  subst hp
  exact lv_iload_n C.1 C.2.1 hd rfl (hl.2.2 _ _ hi) (k p l e s m args below meth c dC dI cy φ0 base C φ H locs lsA D ol ⟨q_okl_at ol hi, os⟩ hl)
theorem qr_iload (pc pc' : Nat) (hp : pc + 2 = pc') {i : Nat} {x : Int} (hi : ls[i]? = some (some (qI x))) (hd : decode X.1 pc = .ok (.iload i, 2)) (k : q_V X d n0 n1 P n M pc' ls (qI x :: st)) : q_V X d n0 n1 P n M pc ls (st) := by
  intro p l e s m args below meth c dC dI cy φ0 base C φ H locs lsA D ol os hl
  subst hp
  exact lv_iload C.1 C.2.1 hd (hl.2.2 _ _ hi) (k p l e s m args below meth c dC dI cy φ0 base C φ H locs lsA D ol ⟨q_okl_at ol hi, os⟩ hl)
theorem qr_lload_n (pc pc' : Nat) (hp : pc + 1 = pc') {j : Fin 4} {x : Int} (hi : ls[(j : Nat)]? = some (some (qL x))) (hd : decode X.1 pc = .ok (.lload_n j, 1)) (k : q_V X d n0 n1 P n M pc' ls (qL x :: st)) : q_V X d n0 n1 P n M pc ls (st) := by
  intro p l e s m args below meth c dC dI cy φ0 base C φ H locs lsA D ol os hl
  subst hp
  exact lv_lload_n C.1 C.2.1 hd rfl (hl.2.2 _ _ hi) (k p l e s m args below meth c dC dI cy φ0 base C φ H locs lsA D ol ⟨q_okl_at ol hi, os⟩ hl)
theorem qr_lload (pc pc' : Nat) (hp : pc + 2 = pc') {i : Nat} {x : Int} (hi : ls[i]? = some (some (qL x))) (hd : decode X.1 pc = .ok (.lload i, 2)) (k : q_V X d n0 n1 P n M pc' ls (qL x :: st)) : q_V X d n0 n1 P n M pc ls (st) := by
  intro p l e s m args below meth c dC dI cy φ0 base C φ H locs lsA D ol os hl
  subst hp
  exact lv_lload C.1 C.2.1 hd (hl.2.2 _ _ hi) (k p l e s m args below meth c dC dI cy φ0 base C φ H locs lsA D ol ⟨q_okl_at ol hi, os⟩ hl)
theorem qr_aload_n (pc pc' : Nat) (hp : pc + 1 = pc') {j : Fin 4} {x : Int} (hi : ls[(j : Nat)]? = some (some (qR x))) (hd : decode X.1 pc = .ok (.aload_n j, 1)) (k : q_V X d n0 n1 P n M pc' ls (qR x :: st)) : q_V X d n0 n1 P n M pc ls (st) := by
  intro p l e s m args below meth c dC dI cy φ0 base C φ H locs lsA D ol os hl
  subst hp
  have h9 := k p l e s m args below meth c dC dI cy φ0 base C φ H locs lsA D ol ⟨q_okl_at ol hi, os⟩ hl
  have h8 := hl.2.2 _ _ hi
  by_cases h0 : x = 0
  · rw [show q_c φ (qR x) = .null from if_pos h0] at h8
    rw [List.map_cons, show q_c φ (qR x) = .null from if_pos h0] at h9
    exact lv_aload_nN C.1 C.2.1 hd rfl h8 h9
  · rw [show q_c φ (qR x) = .ref (φ x) from if_neg h0] at h8
    rw [List.map_cons, show q_c φ (qR x) = .ref (φ x) from if_neg h0] at h9
    exact lv_aload_n C.1 C.2.1 hd rfl h8 h9
theorem qr_aload (pc pc' : Nat) (hp : pc + 2 = pc') {i : Nat} {x : Int} (hi : ls[i]? = some (some (qR x))) (hd : decode X.1 pc = .ok (.aload i, 2)) (k : q_V X d n0 n1 P n M pc' ls (qR x :: st)) : q_V X d n0 n1 P n M pc ls (st) := by
  intro p l e s m args below meth c dC dI cy φ0 base C φ H locs lsA D ol os hl
  subst hp
  have h9 := k p l e s m args below meth c dC dI cy φ0 base C φ H locs lsA D ol ⟨q_okl_at ol hi, os⟩ hl
  have h8 := hl.2.2 _ _ hi
  by_cases h0 : x = 0
  · rw [show q_c φ (qR x) = .null from if_pos h0] at h8
    rw [List.map_cons, show q_c φ (qR x) = .null from if_pos h0] at h9
    exact lv_aloadN C.1 C.2.1 hd h8 h9
  · rw [show q_c φ (qR x) = .ref (φ x) from if_neg h0] at h8
    rw [List.map_cons, show q_c φ (qR x) = .ref (φ x) from if_neg h0] at h9
    exact lv_aload C.1 C.2.1 hd h8 h9
theorem qr_istore_n (pc pc' : Nat) (hp : pc + 1 = pc') {j : Fin 4} {x : Int} {ls' : List (Option q_AV)} (hn : (j : Nat) < X.2.1) (hq : q_nl ls (j : Nat) = true) (hs : ls.set (j : Nat) (some (qI x)) = ls') (hd : decode X.1 pc = .ok (.istore_n j, 1)) (k : q_V X d n0 n1 P n M pc' ls' st) : q_V X d n0 n1 P n M pc ls (qI x :: st) := by
  intro p l e s m args below meth c dC dI cy φ0 base C φ H locs lsA D ol os hl
  subst hp
  subst hs
  exact lv_istore_n C.1 C.2.1 hd rfl hl.has hn rfl (fun ls9 h9 => k p l e s m args below meth c dC dI cy φ0 base C φ H locs ls9 D (q_okl_set os.1 ol) os.2 (q_Ls.st1 (lsA := lsA) (v := qI x) hq h9))
theorem qr_istore (pc pc' : Nat) (hp : pc + 2 = pc') {i : Nat} {x : Int} {ls' : List (Option q_AV)} (hn : i < X.2.1) (hq : q_nl ls i = true) (hs : ls.set i (some (qI x)) = ls') (hd : decode X.1 pc = .ok (.istore i, 2)) (k : q_V X d n0 n1 P n M pc' ls' st) : q_V X d n0 n1 P n M pc ls (qI x :: st) := by
  intro p l e s m args below meth c dC dI cy φ0 base C φ H locs lsA D ol os hl
  subst hp
  subst hs
  exact lv_istore C.1 C.2.1 hd hl.has hn rfl (fun ls9 h9 => k p l e s m args below meth c dC dI cy φ0 base C φ H locs ls9 D (q_okl_set os.1 ol) os.2 (q_Ls.st1 (lsA := lsA) (v := qI x) hq h9))
theorem qr_lstore_n (pc pc' : Nat) (hp : pc + 1 = pc') {j : Fin 4} {x : Int} {ls' : List (Option q_AV)} (hn : (j : Nat) + 1 < X.2.1) (hq : q_nl ls (j : Nat) = true) (hs : (ls.set (j : Nat) (some (qL x))).set ((j : Nat) + 1) none = ls') (hd : decode X.1 pc = .ok (.lstore_n j, 1)) (k : q_V X d n0 n1 P n M pc' ls' st) : q_V X d n0 n1 P n M pc ls (qL x :: st) := by
  intro p l e s m args below meth c dC dI cy φ0 base C φ H locs lsA D ol os hl
  subst hp
  subst hs
  exact lv_lstore_n C.1 C.2.1 hd rfl hl.has hn rfl (fun ls9 h9 => k p l e s m args below meth c dC dI cy φ0 base C φ H locs ls9 D (q_okl_non (q_okl_set os.1 ol)) os.2 (q_Ls.st2 (lsA := lsA) (v := qL x) hq h9))
theorem qr_lstore (pc pc' : Nat) (hp : pc + 2 = pc') {i : Nat} {x : Int} {ls' : List (Option q_AV)} (hn : i + 1 < X.2.1) (hq : q_nl ls i = true) (hs : (ls.set i (some (qL x))).set (i + 1) none = ls') (hd : decode X.1 pc = .ok (.lstore i, 2)) (k : q_V X d n0 n1 P n M pc' ls' st) : q_V X d n0 n1 P n M pc ls (qL x :: st) := by
  intro p l e s m args below meth c dC dI cy φ0 base C φ H locs lsA D ol os hl
  subst hp
  subst hs
  exact lv_lstore C.1 C.2.1 hd hl.has hn rfl (fun ls9 h9 => k p l e s m args below meth c dC dI cy φ0 base C φ H locs ls9 D (q_okl_non (q_okl_set os.1 ol)) os.2 (q_Ls.st2 (lsA := lsA) (v := qL x) hq h9))
theorem qr_astore_n (pc pc' : Nat) (hp : pc + 1 = pc') {j : Fin 4} {x : Int} {ls' : List (Option q_AV)} (hn : (j : Nat) < X.2.1) (hq : q_nl ls (j : Nat) = true) (hs : ls.set (j : Nat) (some (qR x)) = ls') (hd : decode X.1 pc = .ok (.astore_n j, 1)) (k : q_V X d n0 n1 P n M pc' ls' st) : q_V X d n0 n1 P n M pc ls (qR x :: st) := by
  intro p l e s m args below meth c dC dI cy φ0 base C φ H locs lsA D ol os hl
  subst hp
  subst hs
  by_cases h0 : x = 0
  · have e0 : q_c φ (qR x) = .null := if_pos h0
    rw [List.map_cons, e0]
    exact lv_astore_nN C.1 C.2.1 hd rfl hl.has hn rfl (fun ls9 h9 => k p l e s m args below meth c dC dI cy φ0 base C φ H locs ls9 D (q_okl_set os.1 ol) os.2 (q_Ls.st1 (lsA := lsA) (v := qR x) hq (by rw [e0]; exact h9)))
  · have e0 : q_c φ (qR x) = .ref (φ x) := if_neg h0
    rw [List.map_cons, e0]
    exact lv_astore_n C.1 C.2.1 hd rfl hl.has hn rfl (fun ls9 h9 => k p l e s m args below meth c dC dI cy φ0 base C φ H locs ls9 D (q_okl_set os.1 ol) os.2 (q_Ls.st1 (lsA := lsA) (v := qR x) hq (by rw [e0]; exact h9)))
theorem qr_astore (pc pc' : Nat) (hp : pc + 2 = pc') {i : Nat} {x : Int} {ls' : List (Option q_AV)} (hn : i < X.2.1) (hq : q_nl ls i = true) (hs : ls.set i (some (qR x)) = ls') (hd : decode X.1 pc = .ok (.astore i, 2)) (k : q_V X d n0 n1 P n M pc' ls' st) : q_V X d n0 n1 P n M pc ls (qR x :: st) := by
  intro p l e s m args below meth c dC dI cy φ0 base C φ H locs lsA D ol os hl
  subst hp
  subst hs
  by_cases h0 : x = 0
  · have e0 : q_c φ (qR x) = .null := if_pos h0
    rw [List.map_cons, e0]
    exact lv_astoreN C.1 C.2.1 hd hl.has hn rfl (fun ls9 h9 => k p l e s m args below meth c dC dI cy φ0 base C φ H locs ls9 D (q_okl_set os.1 ol) os.2 (q_Ls.st1 (lsA := lsA) (v := qR x) hq (by rw [e0]; exact h9)))
  · have e0 : q_c φ (qR x) = .ref (φ x) := if_neg h0
    rw [List.map_cons, e0]
    exact lv_astore C.1 C.2.1 hd hl.has hn rfl (fun ls9 h9 => k p l e s m args below meth c dC dI cy φ0 base C φ H locs ls9 D (q_okl_set os.1 ol) os.2 (q_Ls.st1 (lsA := lsA) (v := qR x) hq (by rw [e0]; exact h9)))
theorem qr_iinc (pc pc' : Nat) (hp : pc + 3 = pc') {i : Nat} {w x : Int} {ls' : List (Option q_AV)} (hn : i < X.2.1) (hi : ls[i]? = some (some (qI x))) (hq : q_nl ls i = true) (hs : ls.set i (some (qI (q_add x w))) = ls') (hd : decode X.1 pc = .ok (.iinc i w, 3)) (k : q_V X d n0 n1 P n M pc' ls' st) : q_V X d n0 n1 P n M pc ls st := by
  intro p l e s m args below meth c dC dI cy φ0 base C φ H locs lsA D ol os hl
  subst hp
  subst hs
  obtain ⟨k9, hk9⟩ := List.getElem?_of_mem (by simpa using q_lv_in (φ := φ) (i := 0) hi : (i, q_c φ (qI x)) ∈ q_lv φ 0 ls)
  exact lv_iinc C.1 C.2.1 hd hl.has hk9 (Int32.ofInt_toInt _).symm hn rfl (fun ls9 h9 => k p l e s m args below meth c dC dI cy φ0 base C φ H locs ls9 D (q_okl_set (show q_ok n (qI (q_add x w)) from q_in32_t _) ol) os (q_Ls.st1 (lsA := lsA) (v := qI (q_add x w)) hq h9))
theorem qr_dup (pc pc' : Nat) (hp : pc + 1 = pc') {v : q_AV} (hv : q_cat v = 1) (hd : decode X.1 pc = .ok (.dup, 1)) (k : q_V X d n0 n1 P n M pc' ls (v :: v :: st)) : q_V X d n0 n1 P n M pc ls (v :: st) := by
  intro p l e s m args below meth c dC dI cy φ0 base C φ H locs lsA D ol os hl
  subst hp
  exact lv_dup C.1 C.2.1 hd (by rw [q_cat_c]; exact hv) (k p l e s m args below meth c dC dI cy φ0 base C φ H locs lsA D ol ⟨os.1, os⟩ hl)
theorem qr_pop (pc pc' : Nat) (hp : pc + 1 = pc') {v : q_AV} (hv : q_cat v = 1) (hd : decode X.1 pc = .ok (.pop, 1)) (k : q_V X d n0 n1 P n M pc' ls (st)) : q_V X d n0 n1 P n M pc ls (v :: st) := by
  intro p l e s m args below meth c dC dI cy φ0 base C φ H locs lsA D ol os hl
  subst hp
  exact lv_pop C.1 C.2.1 hd (va := q_c φ v) (by rw [q_cat_c]; exact hv) (k p l e s m args below meth c dC dI cy φ0 base C φ H locs lsA D ol os.2 hl)
theorem qr_dup2 (pc pc' : Nat) (hp : pc + 1 = pc') {v w : q_AV} (hv : q_cat v = 1) (hw : q_cat w = 1) (hd : decode X.1 pc = .ok (.dup2, 1)) (k : q_V X d n0 n1 P n M pc' ls (v :: w :: v :: w :: st)) : q_V X d n0 n1 P n M pc ls (v :: w :: st) := by
  intro p l e s m args below meth c dC dI cy φ0 base C φ H locs lsA D ol os hl
  subst hp
  exact lv_dup2_11 C.1 C.2.1 hd (by rw [q_cat_c]; exact hv) (by rw [q_cat_c]; exact hw) (k p l e s m args below meth c dC dI cy φ0 base C φ H locs lsA D ol ⟨os.1, os.2.1, os⟩ hl)
theorem qr_icmp_eq (pc pc' tgt : Nat) (hp : pc + 3 = pc') {off : Int} {a b : Int} (ht : (pc : Int) + off = (tgt : Int)) (hd : decode X.1 pc = .ok (.if_icmp .eq off, 3)) (kt : a = b → q_V X d n0 n1 P n M tgt ls st) (kf : ¬ (a = b) → q_V X d n0 n1 P n M pc' ls st) : q_V X d n0 n1 P n M pc ls (qI b :: qI a :: st) := by
  intro p l e s m args below meth c dC dI cy φ0 base C φ H locs lsA D ol os hl
  subst hp
  exact lv_icmp_eq C.1 C.2.1 hd ht (fun h => kt ((q_i_eq os.2.1 os.1).mp h) p l e s m args below meth c dC dI cy φ0 base C φ H locs lsA D ol os.2.2 hl) (fun h => kf (fun h9 => h ((q_i_eq os.2.1 os.1).mpr h9)) p l e s m args below meth c dC dI cy φ0 base C φ H locs lsA D ol os.2.2 hl)
theorem qr_icmp_ne (pc pc' tgt : Nat) (hp : pc + 3 = pc') {off : Int} {a b : Int} (ht : (pc : Int) + off = (tgt : Int)) (hd : decode X.1 pc = .ok (.if_icmp .ne off, 3)) (kt : ¬ a = b → q_V X d n0 n1 P n M tgt ls st) (kf : a = b → q_V X d n0 n1 P n M pc' ls st) : q_V X d n0 n1 P n M pc ls (qI b :: qI a :: st) := by
  intro p l e s m args below meth c dC dI cy φ0 base C φ H locs lsA D ol os hl
  subst hp
  exact lv_icmp_ne C.1 C.2.1 hd ht (fun h => kt (fun h9 => h ((q_i_eq os.2.1 os.1).mpr h9)) p l e s m args below meth c dC dI cy φ0 base C φ H locs lsA D ol os.2.2 hl) (fun h => kf ((q_i_eq os.2.1 os.1).mp h) p l e s m args below meth c dC dI cy φ0 base C φ H locs lsA D ol os.2.2 hl)
theorem qr_icmp_lt (pc pc' tgt : Nat) (hp : pc + 3 = pc') {off : Int} {a b : Int} (ht : (pc : Int) + off = (tgt : Int)) (hd : decode X.1 pc = .ok (.if_icmp .lt off, 3)) (kt : a < b → q_V X d n0 n1 P n M tgt ls st) (kf : ¬ (a < b) → q_V X d n0 n1 P n M pc' ls st) : q_V X d n0 n1 P n M pc ls (qI b :: qI a :: st) := by
  intro p l e s m args below meth c dC dI cy φ0 base C φ H locs lsA D ol os hl
  subst hp
  exact lv_icmp_lt C.1 C.2.1 hd ht (fun h => kt ((q_i_lt os.2.1 os.1).mp h) p l e s m args below meth c dC dI cy φ0 base C φ H locs lsA D ol os.2.2 hl) (fun h => kf (fun h9 => h ((q_i_lt os.2.1 os.1).mpr h9)) p l e s m args below meth c dC dI cy φ0 base C φ H locs lsA D ol os.2.2 hl)
theorem qr_icmp_ge (pc pc' tgt : Nat) (hp : pc + 3 = pc') {off : Int} {a b : Int} (ht : (pc : Int) + off = (tgt : Int)) (hd : decode X.1 pc = .ok (.if_icmp .ge off, 3)) (kt : b ≤ a → q_V X d n0 n1 P n M tgt ls st) (kf : ¬ (b ≤ a) → q_V X d n0 n1 P n M pc' ls st) : q_V X d n0 n1 P n M pc ls (qI b :: qI a :: st) := by
  intro p l e s m args below meth c dC dI cy φ0 base C φ H locs lsA D ol os hl
  subst hp
  exact lv_icmp_ge C.1 C.2.1 hd ht (fun h => kt ((q_i_le os.1 os.2.1).mp h) p l e s m args below meth c dC dI cy φ0 base C φ H locs lsA D ol os.2.2 hl) (fun h => kf (fun h9 => h ((q_i_le os.1 os.2.1).mpr h9)) p l e s m args below meth c dC dI cy φ0 base C φ H locs lsA D ol os.2.2 hl)
theorem qr_icmp_gt (pc pc' tgt : Nat) (hp : pc + 3 = pc') {off : Int} {a b : Int} (ht : (pc : Int) + off = (tgt : Int)) (hd : decode X.1 pc = .ok (.if_icmp .gt off, 3)) (kt : b < a → q_V X d n0 n1 P n M tgt ls st) (kf : ¬ (b < a) → q_V X d n0 n1 P n M pc' ls st) : q_V X d n0 n1 P n M pc ls (qI b :: qI a :: st) := by
  intro p l e s m args below meth c dC dI cy φ0 base C φ H locs lsA D ol os hl
  subst hp
  exact lv_icmp_gt C.1 C.2.1 hd ht (fun h => kt ((q_i_lt os.1 os.2.1).mp h) p l e s m args below meth c dC dI cy φ0 base C φ H locs lsA D ol os.2.2 hl) (fun h => kf (fun h9 => h ((q_i_lt os.1 os.2.1).mpr h9)) p l e s m args below meth c dC dI cy φ0 base C φ H locs lsA D ol os.2.2 hl)
theorem qr_icmp_le (pc pc' tgt : Nat) (hp : pc + 3 = pc') {off : Int} {a b : Int} (ht : (pc : Int) + off = (tgt : Int)) (hd : decode X.1 pc = .ok (.if_icmp .le off, 3)) (kt : a ≤ b → q_V X d n0 n1 P n M tgt ls st) (kf : ¬ (a ≤ b) → q_V X d n0 n1 P n M pc' ls st) : q_V X d n0 n1 P n M pc ls (qI b :: qI a :: st) := by
  intro p l e s m args below meth c dC dI cy φ0 base C φ H locs lsA D ol os hl
  subst hp
  exact lv_icmp_le C.1 C.2.1 hd ht (fun h => kt ((q_i_le os.2.1 os.1).mp h) p l e s m args below meth c dC dI cy φ0 base C φ H locs lsA D ol os.2.2 hl) (fun h => kf (fun h9 => h ((q_i_le os.2.1 os.1).mpr h9)) p l e s m args below meth c dC dI cy φ0 base C φ H locs lsA D ol os.2.2 hl)
theorem qr_if_eq (pc pc' tgt : Nat) (hp : pc + 3 = pc') {off : Int} {a : Int} (ht : (pc : Int) + off = (tgt : Int)) (hd : decode X.1 pc = .ok (.ifCond .eq off, 3)) (kt : a = 0 → q_V X d n0 n1 P n M tgt ls st) (kf : ¬ (a = 0) → q_V X d n0 n1 P n M pc' ls st) : q_V X d n0 n1 P n M pc ls (qI a :: st) := by
  intro p l e s m args below meth c dC dI cy φ0 base C φ H locs lsA D ol os hl
  subst hp
  exact lv_if_eq C.1 C.2.1 hd ht (fun h => kt ((q_i_eq os.1 q_in32_0).mp h) p l e s m args below meth c dC dI cy φ0 base C φ H locs lsA D ol os.2 hl) (fun h => kf (fun h9 => h ((q_i_eq os.1 q_in32_0).mpr h9)) p l e s m args below meth c dC dI cy φ0 base C φ H locs lsA D ol os.2 hl)
theorem qr_if_ne (pc pc' tgt : Nat) (hp : pc + 3 = pc') {off : Int} {a : Int} (ht : (pc : Int) + off = (tgt : Int)) (hd : decode X.1 pc = .ok (.ifCond .ne off, 3)) (kt : ¬ a = 0 → q_V X d n0 n1 P n M tgt ls st) (kf : a = 0 → q_V X d n0 n1 P n M pc' ls st) : q_V X d n0 n1 P n M pc ls (qI a :: st) := by
  intro p l e s m args below meth c dC dI cy φ0 base C φ H locs lsA D ol os hl
  subst hp
  exact lv_if_ne C.1 C.2.1 hd ht (fun h => kt (fun h9 => h ((q_i_eq os.1 q_in32_0).mpr h9)) p l e s m args below meth c dC dI cy φ0 base C φ H locs lsA D ol os.2 hl) (fun h => kf ((q_i_eq os.1 q_in32_0).mp h) p l e s m args below meth c dC dI cy φ0 base C φ H locs lsA D ol os.2 hl)
theorem qr_if_lt (pc pc' tgt : Nat) (hp : pc + 3 = pc') {off : Int} {a : Int} (ht : (pc : Int) + off = (tgt : Int)) (hd : decode X.1 pc = .ok (.ifCond .lt off, 3)) (kt : a < 0 → q_V X d n0 n1 P n M tgt ls st) (kf : ¬ (a < 0) → q_V X d n0 n1 P n M pc' ls st) : q_V X d n0 n1 P n M pc ls (qI a :: st) := by
  intro p l e s m args below meth c dC dI cy φ0 base C φ H locs lsA D ol os hl
  subst hp
  exact lv_if_lt C.1 C.2.1 hd ht (fun h => kt ((q_i_lt os.1 q_in32_0).mp h) p l e s m args below meth c dC dI cy φ0 base C φ H locs lsA D ol os.2 hl) (fun h => kf (fun h9 => h ((q_i_lt os.1 q_in32_0).mpr h9)) p l e s m args below meth c dC dI cy φ0 base C φ H locs lsA D ol os.2 hl)
theorem qr_if_ge (pc pc' tgt : Nat) (hp : pc + 3 = pc') {off : Int} {a : Int} (ht : (pc : Int) + off = (tgt : Int)) (hd : decode X.1 pc = .ok (.ifCond .ge off, 3)) (kt : 0 ≤ a → q_V X d n0 n1 P n M tgt ls st) (kf : ¬ (0 ≤ a) → q_V X d n0 n1 P n M pc' ls st) : q_V X d n0 n1 P n M pc ls (qI a :: st) := by
  intro p l e s m args below meth c dC dI cy φ0 base C φ H locs lsA D ol os hl
  subst hp
  exact lv_if_ge C.1 C.2.1 hd ht (fun h => kt ((q_i_le q_in32_0 os.1).mp h) p l e s m args below meth c dC dI cy φ0 base C φ H locs lsA D ol os.2 hl) (fun h => kf (fun h9 => h ((q_i_le q_in32_0 os.1).mpr h9)) p l e s m args below meth c dC dI cy φ0 base C φ H locs lsA D ol os.2 hl)
theorem qr_if_gt (pc pc' tgt : Nat) (hp : pc + 3 = pc') {off : Int} {a : Int} (ht : (pc : Int) + off = (tgt : Int)) (hd : decode X.1 pc = .ok (.ifCond .gt off, 3)) (kt : 0 < a → q_V X d n0 n1 P n M tgt ls st) (kf : ¬ (0 < a) → q_V X d n0 n1 P n M pc' ls st) : q_V X d n0 n1 P n M pc ls (qI a :: st) := by
  intro p l e s m args below meth c dC dI cy φ0 base C φ H locs lsA D ol os hl
  subst hp
  exact lv_if_gt C.1 C.2.1 hd ht (fun h => kt ((q_i_lt q_in32_0 os.1).mp h) p l e s m args below meth c dC dI cy φ0 base C φ H locs lsA D ol os.2 hl) (fun h => kf (fun h9 => h ((q_i_lt q_in32_0 os.1).mpr h9)) p l e s m args below meth c dC dI cy φ0 base C φ H locs lsA D ol os.2 hl)
theorem qr_if_le (pc pc' tgt : Nat) (hp : pc + 3 = pc') {off : Int} {a : Int} (ht : (pc : Int) + off = (tgt : Int)) (hd : decode X.1 pc = .ok (.ifCond .le off, 3)) (kt : a ≤ 0 → q_V X d n0 n1 P n M tgt ls st) (kf : ¬ (a ≤ 0) → q_V X d n0 n1 P n M pc' ls st) : q_V X d n0 n1 P n M pc ls (qI a :: st) := by
  intro p l e s m args below meth c dC dI cy φ0 base C φ H locs lsA D ol os hl
  subst hp
  exact lv_if_le C.1 C.2.1 hd ht (fun h => kt ((q_i_le os.1 q_in32_0).mp h) p l e s m args below meth c dC dI cy φ0 base C φ H locs lsA D ol os.2 hl) (fun h => kf (fun h9 => h ((q_i_le os.1 q_in32_0).mpr h9)) p l e s m args below meth c dC dI cy φ0 base C φ H locs lsA D ol os.2 hl)
theorem qr_goto (pc tgt : Nat) {off : Int} (ht : (pc : Int) + off = (tgt : Int)) (hd : decode X.1 pc = .ok (.goto off, 3)) (k : q_V X d n0 n1 P n M tgt ls st) : q_V X d n0 n1 P n M pc ls st := by
  intro p l e s m args below meth c dC dI cy φ0 base C φ H locs lsA D ol os hl
  exact lv_goto C.1 C.2.1 hd ht (k p l e s m args below meth c dC dI cy φ0 base C φ H locs lsA D ol os hl)
theorem qr_tabIn (pc tgt : Nat) {dflt lo hi : Int} {offs : Array Int} {len : Nat} {a off : Int} (j : Nat) (ha : a = lo + j) (h2 : lo + j ≤ hi) (ho : offs[j]? = some off) (ht : (pc : Int) + off = (tgt : Int)) (hd : decode X.1 pc = .ok (.tableswitch dflt lo hi offs, len)) (k : q_V X d n0 n1 P n M tgt ls st) : q_V X d n0 n1 P n M pc ls (qI a :: st) := by
  intro p l e s m args below meth c dC dI cy φ0 base C φ H locs lsA D ol os hl
  refine lv_tableIn (off := off) C.1 C.2.1 hd ?_ ?_ ?_ ht (k p l e s m args below meth c dC dI cy φ0 base C φ H locs lsA D ol os.2 hl)
  · rw [q_ofInt32 os.1]; omega
  · rw [q_ofInt32 os.1]; omega
  · rw [q_ofInt32 os.1, show (a - lo).toNat = j by omega]; exact ho
theorem qr_tabOut (pc tgt : Nat) {dflt lo hi : Int} {offs : Array Int} {len : Nat} {a : Int} (ha : a < lo ∨ hi < a) (ht : (pc : Int) + dflt = (tgt : Int)) (hd : decode X.1 pc = .ok (.tableswitch dflt lo hi offs, len)) (k : q_V X d n0 n1 P n M tgt ls st) : q_V X d n0 n1 P n M pc ls (qI a :: st) := by
  intro p l e s m args below meth c dC dI cy φ0 base C φ H locs lsA D ol os hl
  refine lv_tableOut C.1 C.2.1 hd ?_ ht (k p l e s m args below meth c dC dI cy φ0 base C φ H locs lsA D ol os.2 hl)
  rw [q_ofInt32 os.1]; exact ha
/-- fewer locals known -/
theorem qr_weak (pc : Nat) {ls' : List (Option q_AV)} (h : ∀ (i : Nat) (v : q_AV), ls'[i]? = some (some v) → ls[i]? = some (some v)) (k : q_V X d n0 n1 P n M pc ls' st) : q_V X d n0 n1 P n M pc ls st := by
  intro p l e s m args below meth c dC dI cy φ0 base C φ H locs lsA D ol os hl
  refine k p l e s m args below meth c dC dI cy φ0 base C φ H locs lsA D ?_ os ⟨hl.1, hl.2.1, fun i v hv => hl.2.2 i v (h i v hv)⟩
  have : ∀ (l : List (Option q_AV)) , (∀ (i : Nat) (v : q_AV), l[i]? = some (some v) → q_ok n v) → q_okl n l := by
    intro l
    induction l with
    | nil => intro _; trivial
    | cons a l ih =>
      intro h9
      cases a with
      | none => exact ih (fun i v hv => h9 (i + 1) v (by simpa using hv))
      | some w => exact ⟨h9 0 w (by simp), ih (fun i v hv => h9 (i + 1) v (by simpa using hv))⟩
  exact this ls' (fun i v hv => q_okl_at ol (h i v hv))
end QR
