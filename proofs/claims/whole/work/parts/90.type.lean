-- laws read are laws
theorem z_tr_app : ∀ {a b : List Int} {ts t : List Bool}, z_tr a ts = some t → z_tr (a ++ b) ts = z_tr b t
  | [], b, ts, t, h => by
    have h : some ts = some t := h
    rw [Option.some.inj h]
    rfl
  | c :: a, b, ts, t, h => by
    have h : (match z_ts c ts with
      | some t2 => z_tr a t2
      | none => none) = some t := h
    show (match z_ts c ts with
      | some t2 => z_tr (a ++ b) t2
      | none => none) = z_tr b t
    cases e : z_ts c ts with
    | none => rw [e] at h; exact absurd h (by simp)
    | some t2 =>
      rw [e] at h
      exact z_tr_app h
theorem z_tr_1 {c : Int} {ts t : List Bool} (h : z_ts c ts = some t) : z_tr [c] ts = some t := by
  show (match z_ts c ts with
      | some t2 => z_tr [] t2
      | none => none) = some t
  rw [h]
  rfl
def p_ty (m : Nat) (b : Bool) (X : p_S → p_S) : Prop := ∀ s, s.2.1 = 0 → (X s).2.1 = 0 → ∃ e, (X s).2.2.2 = s.2.2.2 ++ e ∧ ∀ ts : List Bool, ts.length + m ≤ 60 → z_tr e ts = some (b :: ts)
theorem p_ty_up {m m' : Nat} {b : Bool} {X : p_S → p_S} (h : p_ty m b X) (hm : m ≤ m') : p_ty m' b X := fun s h1 h2 => by
  obtain ⟨e, a, c⟩ := h s h1 h2
  exact ⟨e, a, fun ts q => c ts (by omega)⟩
theorem p_w0 {n : Nat} {X : p_S → p_S} (hX : p_ok n X) {s : p_S} (h : (X s).2.1 = 0) : s.2.1 = 0 := by
  by_cases c : s.2.1 = 0
  · exact c
  · rw [hX.1 s c] at h
    exact h
theorem p_code_w0 {c : Int} {s : p_S} (h : (p_code c s).2.1 = 0) : s.2.1 = 0 ∧ (p_code c s).2.2.2 = s.2.2.2 ++ [c] := by
  by_cases q : s.2.1 = 0
  · refine ⟨q, ?_⟩
    unfold p_code
    rw [if_pos q]
  · rw [p_code_w q] at h
    exact absurd h q
theorem p_want_cs {tk : p_T} {k : Int} {s : p_S} : (p_want tk k s).2.2.2 = s.2.2.2 := by
  unfold p_want
  split
  · rfl
  · unfold p_fail
    split <;> rfl
section PTY
variable {n F : Nat} {tk : p_T}
theorem p_loop_ty (hT : ∀ t, (tk t).1 ≠ 21 → t < n) {k code : Int} (hk : k ≠ 21) {X : p_S → p_S} (hX : p_ok n X) {m : Nat} {b : Bool} (tX : p_ty m b X) (hc : ∀ ts, z_ts code (b :: b :: ts) = some (b :: ts)) : ∀ f s, s.2.1 = 0 → (p_loop tk k code X f s).2.1 = 0 → ∃ e, (p_loop tk k code X f s).2.2.2 = s.2.2.2 ++ e ∧ ∀ ts : List Bool, ts.length + m + 1 ≤ 60 → z_tr e (b :: ts) = some (b :: ts)
  | 0, s, _, _ => ⟨[], (List.append_nil _).symm, fun _ _ => rfl⟩
  | f + 1, s, h1, h2 => by
    unfold p_loop at h2 ⊢
    by_cases g : p_is tk k s = true
    · rw [if_pos g] at h2 ⊢
      have lp := p_loop_ok (code := code) hT hk hX f
      have w1 := p_w0 lp h2
      obtain ⟨w2, c2⟩ := p_code_w0 w1
      obtain ⟨e1, a1, t1⟩ := tX (p_go s) h1 w2
      obtain ⟨e2, a2, t2⟩ := p_loop_ty hT hk hX tX hc f _ w1 h2
      refine ⟨e1 ++ [code] ++ e2, ?_, fun ts q => ?_⟩
      · rw [a2, c2, a1]
        show s.2.2.2 ++ e1 ++ [code] ++ e2 = _
        simp
      · rw [z_tr_app (t := b :: ts) ?_]
        · exact t2 ts q
        · rw [z_tr_app (t1 (b :: ts) (by rw [List.length_cons]; omega))]
          exact z_tr_1 (hc ts)
    · rw [if_neg g]
      exact ⟨[], (List.append_nil _).symm, fun _ _ => rfl⟩
theorem p_sums_ty (hT : ∀ t, (tk t).1 ≠ 21 → t < n) {X : p_S → p_S} (hX : p_ok n X) {m : Nat} (tX : p_ty m false X) : ∀ f s, s.2.1 = 0 → (p_sums tk X f s).2.1 = 0 → ∃ e, (p_sums tk X f s).2.2.2 = s.2.2.2 ++ e ∧ ∀ ts : List Bool, ts.length + m + 1 ≤ 60 → z_tr e (false :: ts) = some (false :: ts)
  | 0, s, _, _ => ⟨[], (List.append_nil _).symm, fun _ _ => rfl⟩
  | f + 1, s, h1, h2 => by
    have go : ∀ code : Int, (∀ ts, z_ts code (false :: false :: ts) = some (false :: ts)) → (p_sums tk X f (p_code code (X (p_go s)))).2.1 = 0 → ∃ e, (p_sums tk X f (p_code code (X (p_go s)))).2.2.2 = s.2.2.2 ++ e ∧ ∀ ts : List Bool, ts.length + m + 1 ≤ 60 → z_tr e (false :: ts) = some (false :: ts) := by
      intro code hc h2
      have lp := p_sums_ok hT hX f
      have w1 := p_w0 lp h2
      obtain ⟨w2, c2⟩ := p_code_w0 w1
      obtain ⟨e1, a1, t1⟩ := tX (p_go s) h1 w2
      obtain ⟨e2, a2, t2⟩ := p_sums_ty hT hX tX f _ w1 h2
      refine ⟨e1 ++ [code] ++ e2, ?_, fun ts q => ?_⟩
      · rw [a2, c2, a1]
        show s.2.2.2 ++ e1 ++ [code] ++ e2 = _
        simp
      · rw [z_tr_app (t := false :: ts) ?_]
        · exact t2 ts q
        · rw [z_tr_app (t1 (false :: ts) (by rw [List.length_cons]; omega))]
          exact z_tr_1 (hc ts)
    unfold p_sums at h2 ⊢
    by_cases g : p_is tk 32 s = true
    · rw [if_pos g] at h2 ⊢
      exact go 3000 (fun _ => rfl) h2
    · rw [if_neg g] at h2 ⊢
      by_cases g2 : p_is tk 33 s = true
      · rw [if_pos g2] at h2 ⊢
        exact go 3001 (fun _ => rfl) h2
      · rw [if_neg g2]
        exact ⟨[], (List.append_nil _).symm, fun _ _ => rfl⟩
theorem p_two_ty {X Y : p_S → p_S} {m m' : Nat} {b : Bool} (hY : p_ok n Y) (tX : p_ty m b X) (tY : ∀ s, s.2.1 = 0 → (Y s).2.1 = 0 → ∃ e, (Y s).2.2.2 = s.2.2.2 ++ e ∧ ∀ ts : List Bool, ts.length + m + 1 ≤ 60 → z_tr e (b :: ts) = some (b :: ts)) (hm : m + 1 ≤ m') : p_ty m' b (fun s => Y (X s)) := fun s h1 h2 => by
  have h2 : (Y (X s)).2.1 = 0 := h2
  have w := p_w0 hY h2
  obtain ⟨e1, a1, t1⟩ := tX s h1 w
  obtain ⟨e2, a2, t2⟩ := tY _ w h2
  refine ⟨e1 ++ e2, by show (Y (X s)).2.2.2 = _; rw [a2, a1, List.append_assoc], fun ts q => ?_⟩
  rw [z_tr_app (t1 ts (by omega))]
  exact t2 ts (by omega)
theorem p_num_ty {v : Int} (hv : 0 ≤ v ∧ v < 1005) {ts : List Bool} (h : ts.length < 60) : z_ts v ts = some (false :: ts) := by
  unfold z_ts
  rw [if_pos (by omega), if_pos ⟨hv, h⟩]
theorem p_wd_5 {k : Int} (h : p_wd k ≠ -1) : 0 ≤ p_wd k ∧ p_wd k ≤ 4 := by
  unfold p_wd at h ⊢
  split
  · omega
  · rename_i a
    rw [if_neg a] at h
    split
    · omega
    · rename_i a
      rw [if_neg a] at h
      split
      · omega
      · rename_i a
        rw [if_neg a] at h
        split
        · omega
        · rename_i a
          rw [if_neg a] at h
          split
          · omega
          · rename_i a
            rw [if_neg a] at h
            omega
theorem p_atom_ty (hT : ∀ t, (tk t).1 ≠ 21 → t < n) (hN : ∀ t, (tk t).1 = 20 → 0 ≤ (tk t).2.2 ∧ (tk t).2.2 ≤ 999) {c : Nat} {SN TN : p_S → p_S} {m : Nat} (hm : 1 ≤ m) (hS : 0 < c → p_ok n SN ∧ p_ty (m - 2) false SN) (hN2 : 0 < c → p_ok n TN ∧ p_ty m true TN) (h3 : 0 < c → 3 ≤ m) : p_ty m false (p_atom tk c SN TN) := fun s h1 h2 => by
  have W := fun (k : Int) (hk : k ≠ 21) => p_want_ok (n := n) (tk := tk) hT hk
  unfold p_atom at h2 ⊢
  rw [if_pos h1] at h2 ⊢
  have lit : ∀ v : Int, 0 ≤ v → v < 1005 → ∃ e, (p_go (p_code v s)).2.2.2 = s.2.2.2 ++ e ∧ ∀ ts : List Bool, ts.length + m ≤ 60 → z_tr e ts = some (false :: ts) := fun v h3 h4 => ⟨[v], by show (p_code v s).2.2.2 = _; unfold p_code; rw [if_pos h1], fun ts q => z_tr_1 (p_num_ty ⟨h3, h4⟩ (by omega))⟩
  by_cases g : (tk s.1).1 = 20
  · rw [if_pos g]
    have := hN s.1 g
    exact lit _ this.1 (by omega)
  · rw [if_neg g] at h2 ⊢
    by_cases g2 : p_wd (tk s.1).1 ≠ -1
    · rw [if_pos g2]
      have := p_wd_5 g2
      exact lit _ (by omega) (by omega)
    · rw [if_neg g2] at h2 ⊢
      by_cases g3 : (tk s.1).1 = 35
      · rw [if_pos g3] at h2 ⊢
        by_cases g4 : (p_in tk c s).2.1 = 0
        · rw [if_pos g4] at h2 ⊢
          obtain ⟨c0, e1⟩ := p_in_0 h1 g4
          rw [e1] at h2 ⊢
          obtain ⟨e, a, t⟩ := (hS c0).2 (p_go s) h1 (p_w0 (W 36 (by decide)) h2)
          exact ⟨e, by rw [p_want_cs, a]; rfl, fun ts q => t ts (by omega)⟩
        · rw [if_neg g4] at h2
          exact absurd h2 g4
      · rw [if_neg g3] at h2 ⊢
        by_cases g5 : (tk s.1).1 = 9
        · rw [if_pos g5] at h2 ⊢
          by_cases g4 : (p_in tk c s).2.1 = 0
          · rw [if_pos g4] at h2 ⊢
            obtain ⟨c0, e1⟩ := p_in_0 h1 g4
            rw [e1] at h2 ⊢
            have hm3 := h3 c0
            unfold p_if at h2 ⊢
            obtain ⟨w7, c7⟩ := p_code_w0 h2
            have w6 := p_w0 (W 12 (by decide)) w7
            have w5 := p_w0 (hS c0).1 w6
            have w4 := p_w0 (W 11 (by decide)) w5
            have w3 := p_w0 (hS c0).1 w4
            have w2 := p_w0 (W 10 (by decide)) w3
            obtain ⟨ea, aa, ta⟩ := (hN2 c0).2 (p_go s) h1 w2
            obtain ⟨eb, ab, tb⟩ := (hS c0).2 _ w3 w4
            obtain ⟨ec, ac, tc⟩ := (hS c0).2 _ w5 w6
            refine ⟨ea ++ eb ++ ec ++ [3009], ?_, fun ts q => ?_⟩
            · rw [c7, p_want_cs, ac, p_want_cs, ab, p_want_cs, aa]
              show s.2.2.2 ++ ea ++ eb ++ ec ++ [3009] = _
              simp
            · have x1 : z_tr (ea ++ eb) ts = some (false :: true :: ts) := by
                rw [z_tr_app (ta ts q)]
                exact tb _ (by rw [List.length_cons]; omega)
              have x2 : z_tr (ea ++ eb ++ ec) ts = some (false :: false :: true :: ts) := by
                rw [z_tr_app x1]
                exact tc _ (by rw [List.length_cons, List.length_cons]; omega)
              rw [z_tr_app x2]
              exact z_tr_1 rfl
          · rw [if_neg g4] at h2
            exact absurd h2 g4
        · rw [if_neg g5] at h2
          unfold p_fail at h2
          rw [if_pos h1] at h2
          have h2 : (if (tk s.1).1 = 22 then (1 : Int) else 2) = 0 := h2
          split at h2 <;> omega
theorem p_sum_ty (hT : ∀ t, (tk t).1 ≠ 21 → t < n) (hN : ∀ t, (tk t).1 = 20 → 0 ≤ (tk t).2.2 ∧ (tk t).2.2 ≤ 999) {c : Nat} {SN TN : p_S → p_S} {m : Nat} (hm : 1 ≤ m) (hS : 0 < c → p_ok n SN ∧ p_ty (m - 2) false SN) (hN2 : 0 < c → p_ok n TN ∧ p_ty m true TN) (h3 : 0 < c → 3 ≤ m) : p_ty (m + 2) false (p_sum tk F c SN TN) := by
  have A := p_atom_ty hT hN hm hS hN2 h3
  have oA : p_ok n (p_atom tk c SN TN) := p_atom_ok hT (fun q => (hS q).1) (fun q => (hN2 q).1)
  have T : p_ty (m + 1) false (p_term tk F c SN TN) := p_two_ty (X := p_atom tk c SN TN) (Y := p_loop tk 34 3002 (p_atom tk c SN TN) F) (p_loop_ok (k := 34) (code := 3002) hT (by decide) oA F) A (p_loop_ty hT (by decide) oA A (fun _ => rfl) F) (Nat.le_refl _)
  have oT : p_ok n (p_term tk F c SN TN) := p_term_ok hT (fun q => (hS q).1) (fun q => (hN2 q).1)
  exact p_two_ty (X := p_term tk F c SN TN) (Y := p_sums tk (p_term tk F c SN TN) F) (p_sums_ok hT oT F) T (p_sums_ty hT oT T F) (Nat.le_refl _)
theorem p_truth_ty (hT : ∀ t, (tk t).1 ≠ 21 → t < n) (hN : ∀ t, (tk t).1 = 20 → 0 ≤ (tk t).2.2 ∧ (tk t).2.2 ≤ 999) {c : Nat} {SN TN UN : p_S → p_S} {m : Nat} (hm : 1 ≤ m) (hS : 0 < c → p_ok n SN ∧ p_ty (m - 2) false SN) (hN2 : 0 < c → p_ok n TN ∧ p_ty m true TN) (hU : 0 < c → p_ok n UN ∧ p_ty m true UN) (h3 : 0 < c → 3 ≤ m) : p_ty (m + 3) true (p_unit tk F c SN TN UN) ∧ p_ty (m + 5) true (p_truth tk F c SN TN UN) := by
  have W := fun (k : Int) (hk : k ≠ 21) => p_want_ok (n := n) (tk := tk) hT hk
  have A := p_sum_ty (F := F) hT hN hm hS hN2 h3
  have oA : p_ok n (p_sum tk F c SN TN) := p_sum_ok hT (fun q => (hS q).1) (fun q => (hN2 q).1)
  have U : p_ty (m + 3) true (p_unit tk F c SN TN UN) := fun s h1 h2 => by
    unfold p_unit at h2 ⊢
    rw [if_pos h1] at h2 ⊢
    by_cases g : (tk s.1).1 = 18
    · rw [if_pos g] at h2 ⊢
      by_cases g4 : (p_in tk c s).2.1 = 0
      · rw [if_pos g4] at h2 ⊢
        obtain ⟨c0, e1⟩ := p_in_0 h1 g4
        rw [e1] at h2 ⊢
        obtain ⟨w, cc⟩ := p_code_w0 h2
        obtain ⟨e, a, t⟩ := (hU c0).2 (p_go s) h1 w
        refine ⟨e ++ [3006], by rw [cc, a]; show s.2.2.2 ++ e ++ [3006] = _; simp, fun ts q => ?_⟩
        rw [z_tr_app (t ts (by omega))]
        exact z_tr_1 rfl
      · rw [if_neg g4] at h2
        exact absurd h2 g4
    · rw [if_neg g] at h2 ⊢
      by_cases g2 : (tk s.1).1 = 37
      · rw [if_pos g2] at h2 ⊢
        by_cases g4 : (p_in tk c s).2.1 = 0
        · rw [if_pos g4] at h2 ⊢
          obtain ⟨c0, e1⟩ := p_in_0 h1 g4
          rw [e1] at h2 ⊢
          obtain ⟨e, a, t⟩ := (hN2 c0).2 (p_go s) h1 (p_w0 (W 38 (by decide)) h2)
          exact ⟨e, by rw [p_want_cs, a]; rfl, fun ts q => t ts (by omega)⟩
        · rw [if_neg g4] at h2
          exact absurd h2 g4
      · rw [if_neg g2] at h2 ⊢
        have w := p_w0 (p_cmp_ok hT oA) h2
        obtain ⟨e1, a1, t1⟩ := A s h1 w
        have go : ∀ code : Int, (∀ ts, z_ts code (false :: false :: ts) = some (true :: ts)) → (p_code code (p_sum tk F c SN TN (p_go (p_sum tk F c SN TN s)))).2.1 = 0 → ∃ e, (p_code code (p_sum tk F c SN TN (p_go (p_sum tk F c SN TN s)))).2.2.2 = s.2.2.2 ++ e ∧ ∀ ts : List Bool, ts.length + (m + 3) ≤ 60 → z_tr e ts = some (true :: ts) := by
          intro code hc h2
          obtain ⟨w2, c2⟩ := p_code_w0 h2
          obtain ⟨e2, a2, t2⟩ := A (p_go (p_sum tk F c SN TN s)) w w2
          refine ⟨e1 ++ e2 ++ [code], ?_, fun ts q => ?_⟩
          · rw [c2, a2]
            show (p_sum tk F c SN TN s).2.2.2 ++ e2 ++ [code] = _
            rw [a1]
            simp
          · have x1 : z_tr (e1 ++ e2) ts = some (false :: false :: ts) := by
              rw [z_tr_app (t1 ts (by omega))]
              exact t2 _ (by rw [List.length_cons]; omega)
            rw [z_tr_app x1]
            exact z_tr_1 (hc ts)
        unfold p_cmp at h2 ⊢
        by_cases q1 : p_is tk 39 (p_sum tk F c SN TN s) = true
        · rw [if_pos q1] at h2 ⊢
          exact go 3003 (fun _ => rfl) h2
        · rw [if_neg q1] at h2 ⊢
          by_cases q2 : p_is tk 40 (p_sum tk F c SN TN s) = true
          · rw [if_pos q2] at h2 ⊢
            exact go 3004 (fun _ => rfl) h2
          · rw [if_neg q2] at h2 ⊢
            by_cases q3 : p_is tk 41 (p_sum tk F c SN TN s) = true
            · rw [if_pos q3] at h2 ⊢
              exact go 3005 (fun _ => rfl) h2
            · rw [if_neg q3] at h2
              unfold p_fail at h2
              rw [if_pos w] at h2
              have h2 : (if (tk (p_sum tk F c SN TN s).1).1 = 22 then (1 : Int) else 2) = 0 := h2
              split at h2 <;> omega
  have oU : p_ok n (p_unit tk F c SN TN UN) := p_unit_ok hT (fun q => (hS q).1) (fun q => (hN2 q).1) (fun q => (hU q).1)
  have B : p_ty (m + 4) true (p_both tk F c SN TN UN) := p_two_ty (X := p_unit tk F c SN TN UN) (Y := p_loop tk 16 3007 (p_unit tk F c SN TN UN) F) (p_loop_ok (k := 16) (code := 3007) hT (by decide) oU F) U (p_loop_ty hT (by decide) oU U (fun _ => rfl) F) (Nat.le_refl _)
  have oB : p_ok n (p_both tk F c SN TN UN) := p_both_ok hT (fun q => (hS q).1) (fun q => (hN2 q).1) (fun q => (hU q).1)
  exact ⟨U, p_two_ty (X := p_both tk F c SN TN UN) (Y := p_loop tk 17 3008 (p_both tk F c SN TN UN) F) (p_loop_ok (k := 17) (code := 3008) hT (by decide) oB F) B (p_loop_ty hT (by decide) oB B (fun _ => rfl) F) (Nat.le_refl _)⟩
theorem p_lv_ty (hT : ∀ t, (tk t).1 ≠ 21 → t < n) (hN : ∀ t, (tk t).1 = 20 → 0 ≤ (tk t).2.2 ∧ (tk t).2.2 ≤ 999) : ∀ c, p_ty (5 * c + 3) false (p_lv tk F c).1 ∧ p_ty (5 * c + 6) true (p_lv tk F c).2.1 ∧ p_ty (5 * c + 4) true (p_lv tk F c).2.2
  | 0 => by
    have no : ∀ {P : Prop}, 0 < 0 → P := fun h => absurd h (by decide)
    have A := p_sum_ty (F := F) (c := 0) (SN := id) (TN := id) (m := 1) hT hN (by decide) (fun h => no h) (fun h => no h) (fun h => no h)
    have B := p_truth_ty (F := F) (c := 0) (SN := id) (TN := id) (UN := id) (m := 1) hT hN (by decide) (fun h => no h) (fun h => no h) (fun h => no h) (fun h => no h)
    exact ⟨A, B.2, B.1⟩
  | c + 1 => by
    have ih := p_lv_ty hT hN c
    have ok := p_lv_ok (F := F) hT c
    have hS := fun (_ : 0 < c + 1) => (⟨ok.1, p_ty_up ih.1 (by omega)⟩ : p_ok n (p_lv tk F c).1 ∧ p_ty ((5 * c + 6) - 2) false (p_lv tk F c).1)
    have hN2 := fun (_ : 0 < c + 1) => (⟨ok.2.1, ih.2.1⟩ : p_ok n (p_lv tk F c).2.1 ∧ p_ty (5 * c + 6) true (p_lv tk F c).2.1)
    have hU := fun (_ : 0 < c + 1) => (⟨ok.2.2, p_ty_up ih.2.2 (by omega)⟩ : p_ok n (p_lv tk F c).2.2 ∧ p_ty (5 * c + 6) true (p_lv tk F c).2.2)
    have A := p_sum_ty (F := F) (c := c + 1) hT hN (by omega) hS hN2 (fun _ => by omega)
    have B := p_truth_ty (F := F) (c := c + 1) hT hN (by omega) hS hN2 hU (fun _ => by omega)
    exact ⟨p_ty_up A (by omega), p_ty_up B.2 (by omega), p_ty_up B.1 (by omega)⟩
end PTY
/-- six nestings: what is read from nothing is a law -/
theorem p_lv_tr {n F : Nat} {tk : p_T} (hT : ∀ t, (tk t).1 ≠ 21 → t < n) (hN : ∀ t, (tk t).1 = 20 → 0 ≤ (tk t).2.2 ∧ (tk t).2.2 ≤ 999) {s : p_S} (h1 : s.2.1 = 0) (h2 : s.2.2.2 = []) : ((p_lv tk F 6).1 s).2.1 = 0 → z_tr ((p_lv tk F 6).1 s).2.2.2 [] = some [false] := fun h => by
  obtain ⟨e, a, t⟩ := (p_lv_ty hT hN 6).1 s h1 h
  rw [a, h2]
  exact t [] (by decide)
theorem p_lv_tr1 {n F : Nat} {tk : p_T} (hT : ∀ t, (tk t).1 ≠ 21 → t < n) (hN : ∀ t, (tk t).1 = 20 → 0 ≤ (tk t).2.2 ∧ (tk t).2.2 ≤ 999) {s : p_S} (h1 : s.2.1 = 0) (h2 : s.2.2.2 = []) : ((p_lv tk F 6).2.1 s).2.1 = 0 → z_tr ((p_lv tk F 6).2.1 s).2.2.2 [] = some [true] := fun h => by
  obtain ⟨e, a, t⟩ := (p_lv_ty hT hN 6).2.1 s h1 h
  rw [a, h2]
  exact t [] (by decide)
