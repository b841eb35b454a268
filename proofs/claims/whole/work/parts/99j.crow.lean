-- the constructors: the contents as they write them, rows over them
def q_UL : List (Int × Int × Int) := [(1, 0, 2), (1, 3, -1), (3, 4, 4), (3, 5, 5), (3, 6, 6), (3, 7, 7), (3, 8, 8), (3, 9, 9), (10, 1, 11), (10, 2, 12), (10, 3, 13), (3, 10, 10), (14, 1, 15), (14, 2, 16), (14, 3, 17), (3, 11, 14), (1, 4, 3), (18, 4, 19), (18, 5, 20), (18, 6, 21), (18, 7, 22), (18, 8, 23), (18, 9, 24), (25, 1, 26), (25, 2, 27), (25, 3, 28), (18, 10, 25), (29, 1, 30), (29, 2, 31), (29, 3, 32), (18, 11, 29), (1, 5, 18), (33, 1, -1), (33, 2, 34), (35, 4, 36), (35, 5, 37), (35, 6, 38), (35, 7, 39), (35, 8, 40), (35, 9, 41), (42, 1, 43), (42, 2, 44), (42, 3, 45), (35, 10, 42), (46, 1, 47), (46, 2, 48), (46, 3, 49), (35, 11, 46), (33, 8, 35), (33, 9, 42), (1, 6, 33), (50, 2, 51), (50, 3, 52), (1, 7, 50), (53, 2, 54), (53, 3, 55), (1, 8, 53), (56, 2, 57), (58, 2, 59), (58, 3, 60), (57, 0, 58), (61, 2, 62), (61, 3, 63), (57, 1, 61), (64, 2, 65), (64, 3, 66), (57, 2, 64), (67, 2, 68), (67, 3, 69), (57, 3, 67), (70, 2, 71), (70, 3, 72), (57, 4, 70), (73, 2, 74), (73, 3, 75), (57, 5, 73), (76, 2, 77), (76, 3, 78), (57, 6, 76), (79, 2, 80), (79, 3, 81), (57, 7, 79), (82, 2, 83), (82, 3, 84), (57, 8, 82), (85, 2, 86), (85, 3, 87), (57, 9, 85), (1, 9, 56), (1, 10, 88), (1, 11, 89), (1, 12, 90), (91, 3, 92), (91, 4, 93), (91, 5, 94), (91, 6, 95), (91, 7, 96), (91, 8, 97), (1, 13, 91), (99, 0, 100), (99, 1, 101), (99, 2, 102), (99, 3, 103), (99, 4, 104), (99, 5, 105), (99, 6, 106), (99, 7, 107), (99, 8, 108), (99, 9, 109), (99, 10, 110), (99, 11, 111), (99, 12, 112), (99, 13, 113), (99, 14, 114), (99, 15, 115), (98, 0, 99), (98, 1, 116), (1, 14, 98), (117, 4, 118), (117, 5, 119), (117, 6, 120), (117, 7, 121), (117, 8, 122), (1, 17, 117), (124, 4, 125), (124, 5, 126), (124, 6, 127), (124, 7, 128), (124, 8, 129), (124, 9, 130), (131, 1, 132), (131, 2, 133), (131, 3, 134), (124, 10, 131), (135, 1, 136), (135, 2, 137), (135, 3, 138), (124, 11, 135), (123, 1, 124), (139, 2, 140), (139, 3, 141), (123, 2, 139), (88, 0, 123), (143, 4, 144), (143, 5, 145), (143, 6, 146), (143, 7, 147), (143, 8, 148), (143, 9, 149), (150, 1, 151), (150, 2, 152), (150, 3, 153), (143, 10, 150), (154, 1, 155), (154, 2, 156), (154, 3, 157), (143, 11, 154), (142, 1, 143), (158, 2, 159), (158, 3, 160), (142, 2, 158), (88, 1, 142), (161, 0, -1), (161, 2, 162), (89, 0, 161), (163, 0, -1), (163, 2, 164), (89, 1, 163), (165, 0, -1), (165, 2, 166), (89, 2, 165), (167, 0, -1), (167, 2, 168), (89, 3, 167), (170, 1, 171), (170, 2, 172), (170, 4, 173), (170, 3, 169), (1, 15, 170), (174, 1, 175), (174, 2, 176), (174, 4, 177), (174, 3, 169), (1, 16, 174), (178, 1, 179), (178, 2, 180), (178, 3, 181), (178, 4, 182), (178, 5, 183), (178, 6, 184), (178, 16, -1), (178, 17, 185), (178, 18, 186), (178, 19, 187), (178, 20, 188), (178, 21, 189), (178, 22, 190), (178, 23, 191), (178, 24, 192), (178, 27, 193), (178, 29, 194), (178, 30, 195), (178, 31, 196), (178, 32, 197), (178, 33, 198), (178, 36, 199), (178, 37, 200), (178, 38, 201), (178, 42, 202), (178, 43, 203), (178, 44, 204), (205, 0, -1), (205, 1, -1), (205, 2, -1), (205, 3, -1), (178, 45, 205), (178, 46, 206), (178, 47, 207)]
def q_iA : Nat := 184
def q_iB : Nat := 218
theorem wx_int : Cond.arrayClass .int ∈ q_gd := q_ina (tb_1 (List.mem_of_getElem? (i := 58) rfl)) rfl
theorem wx_byte : Cond.arrayClass .byte ∈ q_gd := q_ina (tb_1 (List.mem_of_getElem? (i := 57) rfl)) rfl
theorem wx_long : Cond.arrayClass .long ∈ q_gd := q_ina (tb_2 (List.mem_of_getElem? (i := 107) rfl)) rfl
theorem wx_boolean : Cond.arrayClass .boolean ∈ q_gd := q_ina (tb_7 (List.mem_of_getElem? (i := 31) rfl)) rfl
theorem wx_over : Cond.arrayOver (.array .int) ∈ q_nst := List.mem_filter.mpr ⟨tb_2 (List.mem_of_getElem? (i := 21) rfl), rfl⟩
theorem wn_33 : Cond.methodLinkNest "FaceCuts" 19 ({ cls := "FaceCuts$Plan", name := "<init>", desc := "()V" } : Jvm.MethodName) "FaceCuts" ∈ q_nst := List.mem_filter.mpr ⟨tb_1 (List.mem_of_getElem? (i := 33) rfl), rfl⟩
theorem wn_39 : Cond.methodLinkNest "FaceCuts$Plan" 32 ({ cls := "FaceCuts$Law", name := "<init>", desc := "()V" } : Jvm.MethodName) "FaceCuts" ∈ q_nst := List.mem_filter.mpr ⟨tb_1 (List.mem_of_getElem? (i := 39) rfl), rfl⟩
theorem wn_120 : Cond.methodLinkNest "FaceCuts" 29 ({ cls := "FaceCuts$Reader", name := "<init>", desc := "()V" } : Jvm.MethodName) "FaceCuts" ∈ q_nst := List.mem_filter.mpr ⟨tb_1 (List.mem_of_getElem? (i := 120) rfl), rfl⟩
theorem wn_125 : Cond.methodLinkNest "FaceCuts$Reader" 21 ({ cls := "FaceCuts$Plan", name := "<init>", desc := "()V" } : Jvm.MethodName) "FaceCuts" ∈ q_nst := List.mem_filter.mpr ⟨tb_1 (List.mem_of_getElem? (i := 125) rfl), rfl⟩
theorem wn_161 : Cond.methodLinkNest "FaceCuts" 36 ({ cls := "FaceCuts$Standing", name := "<init>", desc := "()V" } : Jvm.MethodName) "FaceCuts" ∈ q_nst := List.mem_filter.mpr ⟨tb_1 (List.mem_of_getElem? (i := 161) rfl), rfl⟩
theorem wn_194 : Cond.methodLinkNest "FaceCuts$History" 17 ({ cls := "FaceCuts$Standing", name := "<init>", desc := "()V" } : Jvm.MethodName) "FaceCuts" ∈ q_nst := List.mem_filter.mpr ⟨tb_1 (List.mem_of_getElem? (i := 194) rfl), rfl⟩
theorem wn_212 : Cond.methodLinkNest "FaceCuts" 69 ({ cls := "FaceCuts$Shape", name := "<init>", desc := "()V" } : Jvm.MethodName) "FaceCuts" ∈ q_nst := List.mem_filter.mpr ⟨tb_1 (List.mem_of_getElem? (i := 212) rfl), rfl⟩
theorem wn_256 : Cond.methodLinkNest "FaceCuts" 76 ({ cls := "FaceCuts$Ways", name := "<init>", desc := "()V" } : Jvm.MethodName) "FaceCuts" ∈ q_nst := List.mem_filter.mpr ⟨tb_2 (List.mem_of_getElem? (i := 16) rfl), rfl⟩
theorem wn_275 : Cond.methodLinkNest "FaceCuts" 83 ({ cls := "FaceCuts$Table", name := "<init>", desc := "()V" } : Jvm.MethodName) "FaceCuts" ∈ q_nst := List.mem_filter.mpr ⟨tb_2 (List.mem_of_getElem? (i := 35) rfl), rfl⟩
theorem wn_310 : Cond.methodLinkNest "FaceCuts" 88 ({ cls := "FaceCuts$Image", name := "<init>", desc := "()V" } : Jvm.MethodName) "FaceCuts" ∈ q_nst := List.mem_filter.mpr ⟨tb_2 (List.mem_of_getElem? (i := 70) rfl), rfl⟩
theorem wn_315 : Cond.methodLinkNest "FaceCuts$Image" 9 ({ cls := "FaceCuts$Plan", name := "<init>", desc := "()V" } : Jvm.MethodName) "FaceCuts" ∈ q_nst := List.mem_filter.mpr ⟨tb_2 (List.mem_of_getElem? (i := 75) rfl), rfl⟩
theorem wn_317 : Cond.methodLinkNest "FaceCuts$Image" 18 ({ cls := "FaceCuts$Standing", name := "<init>", desc := "()V" } : Jvm.MethodName) "FaceCuts" ∈ q_nst := List.mem_filter.mpr ⟨tb_2 (List.mem_of_getElem? (i := 77) rfl), rfl⟩
theorem wn_331 : Cond.methodLinkNest "FaceCuts" 89 ({ cls := "FaceCuts$Tray", name := "<init>", desc := "()V" } : Jvm.MethodName) "FaceCuts" ∈ q_nst := List.mem_filter.mpr ⟨tb_2 (List.mem_of_getElem? (i := 91) rfl), rfl⟩
def q_Z : q_Mem := fun _ _ => 0
def q_Mz (i : Nat) : q_Mem := (q_UL.take i).foldl (fun (M : q_Mem) (u : Int × Int × Int) => q_up M u.1 u.2.1 u.2.2) q_Z
def q_lk (L : List (Int × Int × Int)) (a k : Int) : Int := L.foldl (fun (x : Int) (u : Int × Int × Int) => if u.1 = a ∧ u.2.1 = k then u.2.2 else x) 0
abbrev q_pz (i : Nat) : Option q_AV → q_Mem → Prop := fun r M' => r = none ∧ M' = q_Mz i
theorem q_mz {i : Nat} {a k v : Int} (h : q_UL[i]? = some (a, k, v)) : q_Mz (i + 1) = q_up (q_Mz i) a k v := by
  unfold q_Mz
  rw [List.take_add_one, h, Option.toList_some, List.foldl_append]
  rfl
theorem q_mz_lk {i : Nat} {a k : Int} : q_Mz i a k = q_lk (q_UL.take i) a k := by
  unfold q_Mz q_lk
  have : ∀ (L : List (Int × Int × Int)) (M : q_Mem) (x : Int), M a k = x → (L.foldl (fun (M : q_Mem) (u : Int × Int × Int) => q_up M u.1 u.2.1 u.2.2) M) a k = L.foldl (fun (x : Int) (u : Int × Int × Int) => if u.1 = a ∧ u.2.1 = k then u.2.2 else x) x := by
    intro L
    induction L with
    | nil => intro M x h; exact h
    | cons u L ih =>
      intro M x h
      rw [List.foldl_cons, List.foldl_cons]
      refine ih _ _ ?_
      show (if a = u.1 ∧ k = u.2.1 then u.2.2 else M a k) = _
      by_cases c : a = u.1 ∧ k = u.2.1
      · rw [if_pos c, if_pos ⟨c.1.symm, c.2.symm⟩]
      · rw [if_neg c, if_neg (fun g => c ⟨g.1.symm, g.2.symm⟩), h]
  exact this _ _ _ rfl
/-- a row that is written nowhere -/
theorem q_mz_row {i : Nat} {a : Int} (h : (q_UL.take i).all (fun u => !decide (u.1 = a)) = true) : q_Mz i a = fun _ => 0 := by
  funext k
  rw [q_mz_lk]
  unfold q_lk
  have h2 : ∀ u ∈ q_UL.take i, ¬ u.1 = a := fun u hu => by
    have := List.all_eq_true.mp h u hu
    simpa using this
  generalize q_UL.take i = L at h2
  have : ∀ x : Int, L.foldl (fun (x : Int) (u : Int × Int × Int) => if u.1 = a ∧ u.2.1 = k then u.2.2 else x) x = x := by
    induction L with
    | nil => intro x; rfl
    | cons u L ih =>
      intro x
      rw [List.foldl_cons, if_neg (fun g => h2 u List.mem_cons_self g.1)]
      exact ih (fun w hw => h2 w (List.mem_cons_of_mem _ hw)) x
  exact this 0
theorem q_dv {t : FieldType} (h : t = .int ∨ t = .boolean ∨ q_tr t = true) : defaultValue t = q_fv (fun _ => 0) t 0 := by
  rcases h with rfl | rfl | h
  · rfl
  · rfl
  · unfold q_fv q_r
    rw [if_pos h, if_pos rfl]
    cases t <;> first | rfl | (exact absurd h (by decide))
theorem cdf0 : ∀ k, k < 3 → defaultValue (q_ty 0 k) = q_fv (fun _ => 0) (q_ty 0 k) 0 := fun k hk => q_dv ((by decide +kernel : ∀ k, k < 3 → q_ty 0 k = .int ∨ q_ty 0 k = .boolean ∨ q_tr (q_ty 0 k) = true) k hk)
theorem cdf1 : ∀ k, k < 3 → defaultValue (q_ty 1 k) = q_fv (fun _ => 0) (q_ty 1 k) 0 := fun k hk => q_dv ((by decide +kernel : ∀ k, k < 3 → q_ty 1 k = .int ∨ q_ty 1 k = .boolean ∨ q_tr (q_ty 1 k) = true) k hk)
theorem cdf2 : ∀ k, k < 4 → defaultValue (q_ty 2 k) = q_fv (fun _ => 0) (q_ty 2 k) 0 := fun k hk => q_dv ((by decide +kernel : ∀ k, k < 4 → q_ty 2 k = .int ∨ q_ty 2 k = .boolean ∨ q_tr (q_ty 2 k) = true) k hk)
theorem cdf3 : ∀ k, k < 6 → defaultValue (q_ty 3 k) = q_fv (fun _ => 0) (q_ty 3 k) 0 := fun k hk => q_dv ((by decide +kernel : ∀ k, k < 6 → q_ty 3 k = .int ∨ q_ty 3 k = .boolean ∨ q_tr (q_ty 3 k) = true) k hk)
theorem cdf4 : ∀ k, k < 12 → defaultValue (q_ty 4 k) = q_fv (fun _ => 0) (q_ty 4 k) 0 := fun k hk => q_dv ((by decide +kernel : ∀ k, k < 12 → q_ty 4 k = .int ∨ q_ty 4 k = .boolean ∨ q_tr (q_ty 4 k) = true) k hk)
theorem cdf5 : ∀ k, k < 10 → defaultValue (q_ty 5 k) = q_fv (fun _ => 0) (q_ty 5 k) 0 := fun k hk => q_dv ((by decide +kernel : ∀ k, k < 10 → q_ty 5 k = .int ∨ q_ty 5 k = .boolean ∨ q_tr (q_ty 5 k) = true) k hk)
theorem cdf6 : ∀ k, k < 9 → defaultValue (q_ty 6 k) = q_fv (fun _ => 0) (q_ty 6 k) 0 := fun k hk => q_dv ((by decide +kernel : ∀ k, k < 9 → q_ty 6 k = .int ∨ q_ty 6 k = .boolean ∨ q_tr (q_ty 6 k) = true) k hk)
theorem cdf7 : ∀ k, k < 4 → defaultValue (q_ty 7 k) = q_fv (fun _ => 0) (q_ty 7 k) 0 := fun k hk => q_dv ((by decide +kernel : ∀ k, k < 4 → q_ty 7 k = .int ∨ q_ty 7 k = .boolean ∨ q_tr (q_ty 7 k) = true) k hk)
theorem cdf8 : ∀ k, k < 9 → defaultValue (q_ty 8 k) = q_fv (fun _ => 0) (q_ty 8 k) 0 := fun k hk => q_dv ((by decide +kernel : ∀ k, k < 9 → q_ty 8 k = .int ∨ q_ty 8 k = .boolean ∨ q_tr (q_ty 8 k) = true) k hk)
theorem cdf9 : ∀ k, k < 3 → defaultValue (q_ty 9 k) = q_fv (fun _ => 0) (q_ty 9 k) 0 := fun k hk => q_dv ((by decide +kernel : ∀ k, k < 3 → q_ty 9 k = .int ∨ q_ty 9 k = .boolean ∨ q_tr (q_ty 9 k) = true) k hk)
theorem cdf10 : ∀ k, k < 3 → defaultValue (q_ty 10 k) = q_fv (fun _ => 0) (q_ty 10 k) 0 := fun k hk => q_dv ((by decide +kernel : ∀ k, k < 3 → q_ty 10 k = .int ∨ q_ty 10 k = .boolean ∨ q_tr (q_ty 10 k) = true) k hk)
theorem cdf11 : ∀ k, k < 19 → defaultValue (q_ty 11 k) = q_fv (fun _ => 0) (q_ty 11 k) 0 := fun k hk => q_dv ((by decide +kernel : ∀ k, k < 19 → q_ty 11 k = .int ∨ q_ty 11 k = .boolean ∨ q_tr (q_ty 11 k) = true) k hk)
theorem cdf12 : ∀ k, k < 48 → defaultValue (q_ty 12 k) = q_fv (fun _ => 0) (q_ty 12 k) 0 := fun k hk => q_dv ((by decide +kernel : ∀ k, k < 48 → q_ty 12 k = .int ∨ q_ty 12 k = .boolean ∨ q_tr (q_ty 12 k) = true) k hk)
/-- what the final fields hold in the end -/
theorem q_finF : ∀ i : Nat, i < 207 → q_kd ((i : Int) + 1) < 13 ∨ 17 ≤ q_kd ((i : Int) + 1) → ∀ k : Nat, k < 48 → k < q_ln ((i : Int) + 1) → q_isF (q_kd ((i : Int) + 1)) k = true → q_lk q_UL ((i : Int) + 1) (k : Int) = q_lay ((i : Int) + 1) k := by decide +kernel
theorem q_finL : ∀ i : Nat, i < 207 → q_kd ((i : Int) + 1) < 13 ∨ 17 ≤ q_kd ((i : Int) + 1) → q_ln ((i : Int) + 1) ≤ 48 := by decide +kernel
theorem q_mz_all : q_Mz q_iB = q_UL.foldl (fun (M : q_Mem) (u : Int × Int × Int) => q_up M u.1 u.2.1 u.2.2) q_Z := by
  unfold q_Mz
  rw [List.take_of_length_le (by decide +kernel)]
theorem q_fin (b : Int) (j : Nat) (hj : j < q_ln b) (hF : q_isF (q_kd b) j = true) : q_Mz q_iB b (j : Int) = q_lay b j := by
  have hb : 0 < b := by
    rcases Int.lt_or_le 0 b with g | g
    · exact g
    · have : q_ln b = 0 := by unfold q_ln; rw [if_pos g]
      omega
  have hb2 : b ≤ 207 := by
    rcases Int.lt_or_le 207 b with g | g
    · have : q_ln b = 0 := by
        unfold q_ln
        rw [if_neg (by omega), List.getElem?_eq_none (by rw [show q_lnL.length = 207 by decide +kernel]; omega)]
        rfl
      omega
    · exact g
  obtain ⟨i, rfl⟩ : ∃ i : Nat, b = (i : Int) + 1 := ⟨(b - 1).toNat, by omega⟩
  have hk : q_kd ((i : Int) + 1) < 13 ∨ 17 ≤ q_kd ((i : Int) + 1) := by
    rcases Nat.lt_or_ge (q_kd ((i : Int) + 1)) 13 with g | g
    · exact Or.inl g
    · rcases Nat.lt_or_ge (q_kd ((i : Int) + 1)) 17 with g2 | g2
      · unfold q_isF at hF
        rw [if_neg (by omega)] at hF
        have := of_decide_eq_true hF
        omega
      · exact Or.inr g2
  have := q_finL i (by omega) hk
  rw [q_mz_lk, show q_UL.take q_iB = q_UL from List.take_of_length_le (by decide +kernel)]
  exact q_finF i (by omega) hk j (by omega) hj hF
section QCR
variable {X : q_Mt} {d n0 n1 n : Nat} {P : Option q_AV → q_Mem → Prop} {M : q_Mem} {ls : List (Option q_AV)} {st : List q_AV}
theorem cn_o (pc pc' : Nat) (hp : pc + 3 = pc') {ci : Nat} {C0 : String} {T : u_T} {N ix : Nat} (hc : q_cl_ok ci C0 T N) (n' : Nat) (hn' : n + 1 = n') (b : Int) (hb : (n : Int) + 1 = b) (hkd : q_kd b = ci) (hn1 : n < n1) (hN : n' ≠ q_N) (hcl : Cond.classLink X.2.2.1 ix C0 ∈ q_gd) (hinst : Cond.instantiable C0 N ∈ q_gd) (hini : Cond.initialized C0 ∈ q_gd) (hd : decode X.1 pc = .ok (.new ix, 3)) (hdf : ∀ k, k < N → defaultValue (q_ty ci k) = q_fv (fun _ => 0) (q_ty ci k) 0)
    (kk : q_V X d n0 n1 P n' M pc' ls (qR b :: st)) : q_V X d n0 n1 P n M pc ls st := by
  subst hn'
  subst hb
  exact qr_new pc pc' hp hc hkd hn1 hN hcl hinst hini hd hdf kk
theorem cn_a (pc pc' : Nat) (hp : pc + 2 = pc') {kd i N : Nat} {atype : ArrayType} {ty : FieldType} (hq : q_nw kd atype ty i) (n' : Nat) (hn' : n + 1 = n') (b : Int) (hb : (n : Int) + 1 = b) (hkd : q_kd b = kd) (hln : q_ln b = N) (hN9 : N ≤ 100000) (hn1 : n < n1) (hN : n' ≠ q_N) (harr : Cond.arrayClass ty ∈ q_gd) (hd : decode X.1 pc = .ok (.newarray atype, 2))
    (kk : q_V X d n0 n1 P n' M pc' ls (qR b :: st)) : q_V X d n0 n1 P n M pc ls (qI (N : Int) :: st) := by
  subst hn'
  subst hb
  exact qr_newa pc pc' hp hq hkd hln hN9 hn1 hN harr hd kk
theorem cn_q (pc pc' : Nat) (hp : pc + 3 = pc') {kd i N ix : Nat} {C0 : String} (hk : 17 ≤ kd) (hao : (kd = 17 ∧ C0 = RX1 ∧ i = 4) ∨ (kd = 18 ∧ C0 = RX7 ∧ i = 5) ∨ (kd = 19 ∧ C0 = RX9 ∧ i = 6)) (n' : Nat) (hn' : n + 1 = n') (b : Int) (hb : (n : Int) + 1 = b) (hkd : q_kd b = kd) (hln : q_ln b = N) (hN9 : N ≤ 100000) (hn1 : n < n1) (hN : n' ≠ q_N) (hcl : Cond.classLink X.2.2.1 ix C0 ∈ q_gd) (hd : decode X.1 pc = .ok (.anewarray ix, 3))
    (kk : q_V X d n0 n1 P n' M pc' ls (qR b :: st)) : q_V X d n0 n1 P n M pc ls (qI (N : Int) :: st) := by
  subst hn'
  subst hb
  exact qr_anewa pc pc' hp hk hao hkd hln hN9 hn1 hN hcl hd kk
theorem cn_m (pc pc' : Nat) (hp : pc + 4 = pc') {N K ix : Nat} (n' : Nat) (hn' : n + (1 + N) = n') (b : Int) (hb : (n : Int) + 1 = b) (i i' : Nat) (hi : i + N = i') (k0 : q_kd b = 20) (l0 : q_ln b = N) (kj : ∀ j : Nat, j < N → q_kd (b + 1 + (j : Int)) = 14 ∧ q_ln (b + 1 + (j : Int)) = K) (u1 : ∀ j : Nat, j < N → q_UL[i + j]? = some (b, (j : Int), b + 1 + (j : Int))) (z0 : (q_UL.take i).all (fun u => !decide (u.1 = b)) = true) (hl : i + N ≤ q_UL.length)
    (hN9 : N ≤ 1000) (hK9 : K ≤ 1000) (hsz : q_sz n' = q_sz n + (N + N * K)) (hn1 : n' ≤ n1) (hN : n' ≠ q_N) (hover : Cond.arrayOver (.array .int) ∈ q_nst) (harr : Cond.arrayClass .int ∈ q_gd) (hcl : Cond.classLink X.2.2.1 ix "[[I" ∈ q_gd) (hd : decode X.1 pc = .ok (.multianewarray ix 2, 4))
    (kk : q_V X d n0 n1 P n' (q_Mz i') pc' ls (qR b :: st)) : q_V X d n0 n1 P n (q_Mz i) pc ls (qI (K : Int) :: qI (N : Int) :: st) := by
  subst hn'
  subst hb
  subst hi
  have hr : ∀ j : Nat, j ≤ N → (∀ c : Int, c ≠ (n : Int) + 1 → q_Mz (i + j) c = q_Mz i c) ∧ (∀ k : Nat, k < j → q_Mz (i + j) ((n : Int) + 1) (k : Int) = (n : Int) + 1 + 1 + (k : Int)) ∧ ∀ k : Nat, j ≤ k → q_Mz (i + j) ((n : Int) + 1) (k : Int) = 0 := by
    intro j
    induction j with
    | zero =>
      intro _
      refine ⟨fun _ _ => rfl, fun k hk => absurd hk (Nat.not_lt_zero _), fun k _ => ?_⟩
      rw [Nat.add_zero, q_mz_row z0]
    | succ j ih =>
      intro hj
      obtain ⟨g1, g2, g3⟩ := ih (by omega)
      have e := q_mz (u1 j (by omega))
      rw [show i + (j + 1) = i + j + 1 by omega, e]
      refine ⟨fun c hc => ?_, fun k hk => ?_, fun k hk => ?_⟩
      · rw [q_up_o hc]; exact g1 c hc
      · by_cases c : k = j
        · rw [c, q_up_s]
        · rw [q_up_n (by omega)]; exact g2 k (by omega)
      · rw [q_up_n (by omega)]; exact g3 k (by omega)
  obtain ⟨g1, g2, g3⟩ := hr N (Nat.le_refl _)
  refine qr_mnewa pc pc' hp k0 l0 (fun j hj => ?_) g1 (fun j hj => ?_) g3 hN9 hK9 hsz hn1 hN hover harr hcl hd kk
  · have := kj j hj
    rw [show (n : Int) + 2 + (j : Int) = (n : Int) + 1 + 1 + (j : Int) by omega]
    exact this
  · rw [g2 j hj]; omega
theorem cw_mz {i : Nat} {a k v : Int} {pc : Nat} (hu : q_UL[i]? = some (a, k, v)) (kk : q_V X d n0 n1 P n (q_Mz (i + 1)) pc ls st) : q_V X d n0 n1 P n (q_up (q_Mz i) a k v) pc ls st := by
  rw [← q_mz hu]
  exact kk
theorem q_nar_r (t : FieldType) (ht : q_tr t = true) (v : Int) (φ : Int → Nat) : narrow t (q_r φ v) = q_r φ v ∧ fits t (q_r φ v) = true := by
  unfold q_r
  by_cases hv : v = 0
  · rw [if_pos hv]; cases t <;> first | exact ⟨rfl, rfl⟩ | cases ht
  · rw [if_neg hv]; cases t <;> first | exact ⟨rfl, rfl⟩ | cases ht
theorem cp_i (pc pc' : Nat) (hp : pc + 3 = pc') {ci : Nat} {C0 : String} {T : u_T} {N ix : Nat} (hc : q_cl_ok ci C0 T N) (k : Nat) (hk : k < N) {a v : Int} (hkd : q_kd a = ci) (hF : (T k).2.2.2 = false) (ht : q_ty ci k = .int) (i : Nat) (hu : q_UL[i]? = some (a, (k : Int), v)) (hw : Cond.fieldLink X.2.2.1 ix C0 (T k).2.1 (T k).2.2.1 ∈ q_gd) (hC : (T k).1 = C0) (hd : decode X.1 pc = .ok (.putfield ix, 3))
    (kk : q_V X d n0 n1 P n (q_Mz (i + 1)) pc' ls st) : q_V X d n0 n1 P n (q_Mz i) pc ls (qI v :: qR a :: st) := by
  have e : qI v = q_fa (q_ty ci k) v := by rw [ht]; rfl
  rw [e]
  exact qr_put pc pc' hp hc k hk hkd hF (fun φ => by rw [ht]; exact ⟨rfl, rfl⟩) hw hC hd (cw_mz hu kk)
theorem cp_r (pc pc' : Nat) (hp : pc + 3 = pc') {ci : Nat} {C0 : String} {T : u_T} {N ix : Nat} (hc : q_cl_ok ci C0 T N) (k : Nat) (hk : k < N) {a v : Int} (hkd : q_kd a = ci) (hF : (T k).2.2.2 = false) (ht : q_tr (q_ty ci k) = true) (i : Nat) (hu : q_UL[i]? = some (a, (k : Int), v)) (hw : Cond.fieldLink X.2.2.1 ix C0 (T k).2.1 (T k).2.2.1 ∈ q_gd) (hC : (T k).1 = C0) (hd : decode X.1 pc = .ok (.putfield ix, 3))
    (kk : q_V X d n0 n1 P n (q_Mz (i + 1)) pc' ls st) : q_V X d n0 n1 P n (q_Mz i) pc ls (qR v :: qR a :: st) := by
  have e : qR v = q_fa (q_ty ci k) v := by unfold q_fa; rw [ht]; rfl
  rw [e]
  refine qr_put pc pc' hp hc k hk hkd hF (fun φ => ?_) hw hC hd (cw_mz hu kk)
  unfold q_fv
  rw [if_pos ht]
  exact q_nar_r _ ht v φ
theorem cp_f (pc pc' : Nat) (hp : pc + 3 = pc') {ci : Nat} {C0 : String} {T : u_T} {N ix : Nat} (hc : q_cl_ok ci C0 T N) (k : Nat) (hk : k < N) {a v : Int} (hkd : q_kd a = ci) (hF : (T k).2.2.2 = true) (hN : n ≠ q_N) (hr : q_tr (q_ty ci k) = true) (hi : X.2.2.2.2 = true) (ho : X.2.2.1 = C0) (i : Nat) (hu : q_UL[i]? = some (a, (k : Int), v)) (hw : Cond.fieldLink X.2.2.1 ix C0 (T k).2.1 (T k).2.2.1 ∈ q_gd) (hC : (T k).1 = C0) (hd : decode X.1 pc = .ok (.putfield ix, 3))
    (kk : q_V X d n0 n1 P n (q_Mz (i + 1)) pc' ls st) : q_V X d n0 n1 P n (q_Mz i) pc ls (qR v :: qR a :: st) :=
  qr_putF pc pc' hp hc k hk hkd hF (fun e => absurd e hN) hr hi ho (q_nar_r _ hr v) hw hC hd (cw_mz hu kk)
theorem cg_r (pc pc' : Nat) (hp : pc + 3 = pc') {ci : Nat} {C0 : String} {T : u_T} {N ix : Nat} (hc : q_cl_ok ci C0 T N) (k : Nat) (hk : k < N) {a v : Int} {i : Nat} (hkd : q_kd a = ci) (ht : q_tr (q_ty ci k) = true) (hv : q_lk (q_UL.take i) a (k : Int) = v) (hw : Cond.fieldLink X.2.2.1 ix C0 (T k).2.1 (T k).2.2.1 ∈ q_gd) (hC : (T k).1 = C0) (hd : decode X.1 pc = .ok (.getfield ix, 3))
    (kk : q_V X d n0 n1 P n (q_Mz i) pc' ls (qR v :: st)) : q_V X d n0 n1 P n (q_Mz i) pc ls (qR a :: st) := by
  refine qr_getf pc pc' hp hc k hk hkd hw hC hd ?_
  unfold q_fa
  rw [ht, q_mz_lk, hv]
  exact kk
theorem ca_s (pc pc' : Nat) (hp : pc + 1 = pc') {a i v : Int} {kd ci t0 N : Nat} {C0 : String} {T : u_T} (hc : q_cl_ok ci C0 T N) (hkd : q_kd a = kd) (hk : 17 ≤ kd) (ht0 : ∀ cy : Nat → ClassId, (q_tys cy)[t0]? = some (cy kd, .object C0)) (h0 : 0 ≤ i) (h1 : i < (q_ln a : Int)) (hkv : q_kd v = ci) (hN : n ≠ q_N) (iu : Nat) (hu : q_UL[iu]? = some (a, i, v)) (hd : decode X.1 pc = .ok (.aastore, 1)) (kk : q_V X d n0 n1 P n (q_Mz (iu + 1)) pc' ls st) : q_V X d n0 n1 P n (q_Mz iu) pc ls (qR v :: qI i :: qR a :: st) :=
  qr_aastore pc pc' hp hc hkd hk ht0 h0 h1 hkv hN hd (cw_mz hu kk)
theorem ca_i (pc pc' : Nat) (hp : pc + 1 = pc') {a i v : Int} (hkd : q_kd a = 14) (h0 : 0 ≤ i) (h1 : i < (q_ln a : Int)) (iu : Nat) (hu : q_UL[iu]? = some (a, i, v)) (hd : decode X.1 pc = .ok (.iastore, 1)) (kk : q_V X d n0 n1 P n (q_Mz (iu + 1)) pc' ls st) : q_V X d n0 n1 P n (q_Mz iu) pc ls (qI v :: qI i :: qR a :: st) :=
  qr_iastore pc pc' hp hkd h0 h1 hd (cw_mz hu kk)
theorem ci_inc (pc pc' : Nat) (hp : pc + 3 = pc') {i : Nat} {w x y : Int} {ls' : List (Option q_AV)} (hn : i < X.2.1) (hi : ls[i]? = some (some (qI x))) (hy : q_add x w = y) (hq : q_nl ls i = true) (hs : ls.set i (some (qI y)) = ls') (hd : decode X.1 pc = .ok (.iinc i w, 3)) (k : q_V X d n0 n1 P n M pc' ls' st) : q_V X d n0 n1 P n M pc ls st := by
  subst hy
  exact qr_iinc pc pc' hp hn hi hq hs hd k
theorem cc_C (pc pc' : Nat) (hp : pc + 3 = pc') {y : MethodName} {yc : ByteArray} {yl : Nat} {yo : String} {yi : Bool} {np ix D0 n2 j : Nat} {a : Int} {av : List q_AV} {st' : List q_AV} (hy : q_cal y (yc, yl, yo, none, yi) np) (hyn : y.name = "<init>") (hin : Cond.instanceMethod y ∈ q_gd) (hlk : Cond.methodLink X.2.2.1 ix y ∈ q_gd) (ha : 0 < a) (hdd : D0 + 1 ≤ d) (hn : av.length = np) (hs : st' = av.reverse ++ qR a :: st) (hw : q_wid st ≤ 8) (h2 : n ≤ n2) (h3 : n2 ≤ n1) (hd : decode X.1 pc = .ok (.invokespecial ix, 3))
    (hc : q_Con y (yc, yl, yo, none, yi) D0 (qR a :: av) n M n2 (q_pz j)) (kk : q_V X d n0 n1 P n2 (q_Mz j) pc' ls st) : q_V X d n0 n1 P n M pc ls st' :=
  qr_callC pc pc' hp hy hyn hin hlk ha hdd hn hs hw h2 h3 hd hc (fun r M' h => by obtain ⟨rfl, rfl⟩ := h; exact kk)
theorem cc_N (pc pc' : Nat) (hp : pc + 3 = pc') {y : MethodName} {yc : ByteArray} {yl : Nat} {yo host : String} {yi : Bool} {np ix D0 n2 j : Nat} {a : Int} {av : List q_AV} {st' : List q_AV} (hy : q_cal y (yc, yl, yo, none, yi) np) (hyn : y.name = "<init>") (hin : Cond.instanceMethod y ∈ q_gd) (hlk : Cond.methodLinkNest X.2.2.1 ix y host ∈ q_nst) (ha : 0 < a) (hdd : D0 + 1 ≤ d) (hn : av.length = np) (hs : st' = av.reverse ++ qR a :: st) (hw : q_wid st ≤ 8) (h2 : n ≤ n2) (h3 : n2 ≤ n1) (hd : decode X.1 pc = .ok (.invokespecial ix, 3))
    (hc : q_Con y (yc, yl, yo, none, yi) D0 (qR a :: av) n M n2 (q_pz j)) (kk : q_V X d n0 n1 P n2 (q_Mz j) pc' ls st) : q_V X d n0 n1 P n M pc ls st' :=
  qr_callN pc pc' hp hy hyn hin hlk ha hdd hn hs hw h2 h3 hd hc (fun r M' h => by obtain ⟨rfl, rfl⟩ := h; exact kk)
theorem cn_l (pc pc1 pc2 : Nat) (hp : pc + 2 = pc1) (hp2 : pc1 + 3 = pc2) {ci N NF ix : Nat} {C0 : String} {T : u_T} (hc : q_cl_ok ci C0 T NF) (k : Nat) (hk : k < NF) {a : Int} (hka : q_kd a = ci) (hF : (T k).2.2.2 = true) (hr : q_ty ci k = .array .long) (hi : X.2.2.2.2 = true) (ho : X.2.2.1 = C0) (hw : Cond.fieldLink X.2.2.1 ix C0 (T k).2.1 (T k).2.2.1 ∈ q_gd) (hC : (T k).1 = C0)
    (iu : Nat) (hu : q_UL[iu]? = some (a, (k : Int), (n : Int) + 1)) (n' : Nat) (hn' : n + 1 = n') (b : Int) (hb : (n : Int) + 1 = b) (hkd : q_kd b = 15) (hln : q_ln b = N) (hN9 : N ≤ 100000) (hn1 : n < n1) (harr : Cond.arrayClass .long ∈ q_gd) (hd : decode X.1 pc = .ok (.newarray .long, 2)) (hd2 : decode X.1 pc1 = .ok (.putfield ix, 3)) (h3 : iu + 1 = q_iB)
    (kk : q_V X d n0 n1 P n' (q_Mz (iu + 1)) pc2 ls st) : q_V X d n0 n1 P n (q_Mz iu) pc ls (qI (N : Int) :: qR a :: st) := by
  subst hn'
  subst hb
  refine qr_last pc pc1 pc2 hp hp2 hc hk hka hF hr hi ho hw hC hkd hln hN9 hn1 harr hd hd2 (fun b j hj hf => ?_) (cw_mz hu kk)
  rw [← q_mz hu, h3]
  exact q_fin b j hj hf
end QCR
/-- the reference's plain, over a row of zeros -/
theorem l_plain0 {d : Nat} {M : q_Mem} {K : q_Mem → Prop} (hz : M 179 = fun _ => 0) (h : K M) : ∀ (j i : Nat), i + j = 1504 → q_v mX12_plain d (qPU K) M 2 [some (qR 179), some (qI (i : Int))] [] := by
  intro j
  induction j with
  | zero =>
    intro i e
    exact bX12_plain_2 _ _ (by decide +kernel) ⟨fun _ => h, fun g => absurd (by omega) g⟩
  | succ j ih =>
    intro i e
    refine bX12_plain_2 _ _ (by decide +kernel) ⟨fun g => absurd g (by omega), fun _ => ⟨⟨by omega, by rw [show q_ln 179 = 4512 by decide +kernel]; omega⟩, fun M2 e2 => ?_⟩⟩
    have e3 : M2 = M := by
      rw [e2]
      funext a k
      unfold q_up
      by_cases c : a = 179 ∧ k = (i : Int)
      · rw [if_pos c, c.1, hz]
      · rw [if_neg c]
    rw [e3, q_add_eq (by omega), show (i : Int) + 1 = ((i + 1 : Nat) : Int) by omega]
    exact ih (i + 1) (by omega)
theorem k_plain0 {d : Nat} {M : q_Mem} {K : q_Mem → Prop} (hd : 0 < d) (hz : M 179 = fun _ => 0) (h : K M) : q_kU yX12_plain mX12_plain d [qR 179] M K :=
  q_goU hd rfl (plainFor_of_name (by decide +kernel)) rfl (fun h => nomatch h) (Nat.le_of_ble_eq_true rfl) (fun d hd => bX12_plain_0 _ (by decide +kernel) (l_plain0 hz h 1504 0 (by omega)))
theorem cc_pl {X : q_Mt} {d n0 : Nat} {P : Option q_AV → q_Mem → Prop} {ls : List (Option q_AV)} {st : List q_AV} (pc pc' : Nat) (hp : pc + 3 = pc') {ix i : Nat} (hst : Cond.static yX12_plain ∈ q_gd) (hlk : Cond.methodLink X.2.2.1 ix yX12_plain ∈ q_gd) (hdd : 0 < d) (hd : decode X.1 pc = .ok (.invokestatic ix, 3)) (z : (q_UL.take i).all (fun u => !decide (u.1 = 179)) = true) (hw : q_wid st ≤ 8) (kk : q_V X d n0 q_N P q_N (q_Mz i) pc' ls st) : q_V X d n0 q_N P q_N (q_Mz i) pc ls (qR 179 :: st) := by
  obtain ⟨D0, P2, h1, h2, h3⟩ := k_plain0 (K := fun M' => M' = q_Mz i) hdd (q_mz_row z) rfl
  exact qr_callS pc pc' hp ca_X12_plain hst hlk h1 (av := [qR 179]) rfl rfl hw (Nat.le_refl _) (Nat.le_refl _) hd h2 (fun r M' ⟨hv, hp9⟩ => by
    subst hv
    rw [h3 M' hp9]
    exact kk)
