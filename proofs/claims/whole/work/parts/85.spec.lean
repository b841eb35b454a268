-- laws told: what reading them does, by tokens
abbrev p_S : Type := Nat × Int × Int × List Int
abbrev p_T : Type := Nat → Int × Int × Int
def p_is (tk : p_T) (k : Int) (s : p_S) : Bool := decide (s.2.1 = 0) && decide ((tk s.1).1 = k)
def p_go (s : p_S) : p_S := (s.1 + 1, s.2)
def p_fail (tk : p_T) (f : Int) (s : p_S) : p_S := if s.2.1 = 0 then (s.1, (if (tk s.1).1 = 22 then 1 else f), (tk s.1).2.1, s.2.2.2) else s
def p_code (c : Int) (s : p_S) : p_S := if s.2.1 = 0 then (s.1, s.2.1, s.2.2.1, s.2.2.2 ++ [c]) else s
def p_want (tk : p_T) (k : Int) (s : p_S) : p_S := if p_is tk k s then p_go s else p_fail tk 2 s
def p_in (tk : p_T) (c : Nat) (s : p_S) : p_S := if c = 0 then p_fail tk 4 s else if s.2.1 = 0 then p_go s else s
def p_wd (k : Int) : Int := if k = 13 then 0 else if k = 14 then 1 else if k = 15 then 2 else if k = 3 then 3 else if k = 1 then 4 else -1
def p_if (tk : p_T) (SN TN : p_S → p_S) (s : p_S) : p_S := p_code 3009 (p_want tk 12 (SN (p_want tk 11 (SN (p_want tk 10 (TN s))))))
def p_atom (tk : p_T) (c : Nat) (SN TN : p_S → p_S) (s : p_S) : p_S :=
  if s.2.1 = 0 then (if (tk s.1).1 = 20 then p_go (p_code (tk s.1).2.2 s) else if p_wd (tk s.1).1 ≠ -1 then p_go (p_code (1000 + p_wd (tk s.1).1) s) else if (tk s.1).1 = 35 then (if (p_in tk c s).2.1 = 0 then p_want tk 36 (SN (p_in tk c s)) else p_in tk c s) else if (tk s.1).1 = 9 then (if (p_in tk c s).2.1 = 0 then p_if tk SN TN (p_in tk c s) else p_in tk c s) else p_fail tk 2 s) else s
def p_loop (tk : p_T) (k code : Int) (X : p_S → p_S) : Nat → p_S → p_S
  | 0, s => s
  | f + 1, s => if p_is tk k s then p_loop tk k code X f (p_code code (X (p_go s))) else s
def p_sums (tk : p_T) (X : p_S → p_S) : Nat → p_S → p_S
  | 0, s => s
  | f + 1, s => if p_is tk 32 s then p_sums tk X f (p_code 3000 (X (p_go s))) else if p_is tk 33 s then p_sums tk X f (p_code 3001 (X (p_go s))) else s
def p_term (tk : p_T) (F c : Nat) (SN TN : p_S → p_S) (s : p_S) : p_S := p_loop tk 34 3002 (p_atom tk c SN TN) F (p_atom tk c SN TN s)
def p_sum (tk : p_T) (F c : Nat) (SN TN : p_S → p_S) (s : p_S) : p_S := p_sums tk (p_term tk F c SN TN) F (p_term tk F c SN TN s)
def p_cmp (tk : p_T) (X : p_S → p_S) (s : p_S) : p_S := if p_is tk 39 s then p_code 3003 (X (p_go s)) else if p_is tk 40 s then p_code 3004 (X (p_go s)) else if p_is tk 41 s then p_code 3005 (X (p_go s)) else p_fail tk 2 s
def p_unit (tk : p_T) (F c : Nat) (SN TN UN : p_S → p_S) (s : p_S) : p_S :=
  if s.2.1 = 0 then (if (tk s.1).1 = 18 then (if (p_in tk c s).2.1 = 0 then p_code 3006 (UN (p_in tk c s)) else p_in tk c s) else if (tk s.1).1 = 37 then (if (p_in tk c s).2.1 = 0 then p_want tk 38 (TN (p_in tk c s)) else p_in tk c s) else p_cmp tk (p_sum tk F c SN TN) (p_sum tk F c SN TN s)) else s
def p_both (tk : p_T) (F c : Nat) (SN TN UN : p_S → p_S) (s : p_S) : p_S := p_loop tk 16 3007 (p_unit tk F c SN TN UN) F (p_unit tk F c SN TN UN s)
def p_truth (tk : p_T) (F c : Nat) (SN TN UN : p_S → p_S) (s : p_S) : p_S := p_loop tk 17 3008 (p_both tk F c SN TN UN) F (p_both tk F c SN TN UN s)
/-- so many nestings left: sum, truth, unit -/
def p_lv (tk : p_T) (F : Nat) : Nat → (p_S → p_S) × (p_S → p_S) × (p_S → p_S)
  | 0 => (p_sum tk F 0 id id, p_truth tk F 0 id id id, p_unit tk F 0 id id id)
  | c + 1 => (p_sum tk F (c + 1) (p_lv tk F c).1 (p_lv tk F c).2.1, p_truth tk F (c + 1) (p_lv tk F c).1 (p_lv tk F c).2.1 (p_lv tk F c).2.2, p_unit tk F (c + 1) (p_lv tk F c).1 (p_lv tk F c).2.1 (p_lv tk F c).2.2)
/-- a step of reading: what has failed stays; tokens go on, codes are added, no more than tokens -/
def p_up (n : Nat) (s s' : p_S) : Prop := s.1 ≤ s'.1 ∧ (s.1 ≤ n → s'.1 ≤ n) ∧ (∀ q, s.2.2.2.length + q ≤ s.1 → s'.2.2.2.length + q ≤ s'.1) ∧ ∃ e, s'.2.2.2 = s.2.2.2 ++ e
def p_ok (n : Nat) (X : p_S → p_S) : Prop := (∀ s, ¬ s.2.1 = 0 → X s = s) ∧ ∀ s, p_up n s (X s)
theorem p_up_rf {n : Nat} {s : p_S} : p_up n s s := ⟨Nat.le_refl _, fun h => h, fun _ h => h, [], (List.append_nil _).symm⟩
theorem p_up_tr {n : Nat} {s s' s'' : p_S} (h : p_up n s s') (h2 : p_up n s' s'') : p_up n s s'' := by
  obtain ⟨a, b, c, e, f⟩ := h
  obtain ⟨a', b', c', e', f'⟩ := h2
  exact ⟨Nat.le_trans a a', fun q => b' (b q), fun q g => c' q (c q g), e ++ e', by rw [f', f, List.append_assoc]⟩
theorem p_up_fail {n : Nat} {tk : p_T} {f : Int} {s : p_S} : p_up n s (p_fail tk f s) := by
  unfold p_fail
  split
  · exact ⟨Nat.le_refl _, fun h => h, fun _ h => h, [], (List.append_nil _).symm⟩
  · exact p_up_rf
section PSP
variable {n F : Nat} {tk : p_T}
theorem p_is_lt (hT : ∀ t, (tk t).1 ≠ 21 → t < n) {k : Int} (hk : k ≠ 21) {s : p_S} (h : p_is tk k s = true) : s.2.1 = 0 ∧ (tk s.1).1 = k ∧ s.1 < n := by
  unfold p_is at h
  rw [Bool.and_eq_true, decide_eq_true_eq, decide_eq_true_eq] at h
  exact ⟨h.1, h.2, hT _ (by rw [h.2]; exact hk)⟩
theorem p_up_go {s : p_S} (h : s.1 < n) : p_up n s (p_go s) := ⟨Nat.le_succ _, fun _ => h, fun q g => Nat.le_trans g (Nat.le_succ _), [], (List.append_nil _).symm⟩
/-- a token eaten, something read, a code written -/
theorem p_up_gc {X : p_S → p_S} (hX : p_ok n X) {c : Int} {s : p_S} (h : s.1 < n) : p_up n s (p_code c (X (p_go s))) := by
  obtain ⟨a, b, d, e, f⟩ := hX.2 (p_go s)
  have a : s.1 + 1 ≤ (X (p_go s)).1 := a
  have b : s.1 + 1 ≤ n → (X (p_go s)).1 ≤ n := b
  have d : ∀ q, s.2.2.2.length + q ≤ s.1 + 1 → (X (p_go s)).2.2.2.length + q ≤ (X (p_go s)).1 := d
  have f : (X (p_go s)).2.2.2 = s.2.2.2 ++ e := f
  unfold p_code
  split
  · refine ⟨by show s.1 ≤ (X (p_go s)).1; omega, fun _ => b h, fun q g => ?_, e ++ [c], by show (X (p_go s)).2.2.2 ++ [c] = _; rw [f, List.append_assoc]⟩
    have := d (q + 1) (by omega)
    show ((X (p_go s)).2.2.2 ++ [c]).length + q ≤ (X (p_go s)).1
    rw [List.length_append, List.length_singleton]
    omega
  · exact ⟨by omega, fun _ => b h, fun q g => d q (by omega), e, f⟩
theorem p_code_w {c : Int} {s : p_S} (h : ¬ s.2.1 = 0) : p_code c s = s := by unfold p_code; rw [if_neg h]
theorem p_fail_w {f : Int} {s : p_S} (h : ¬ s.2.1 = 0) : p_fail tk f s = s := by unfold p_fail; rw [if_neg h]
theorem p_is_w {k : Int} {s : p_S} (h : ¬ s.2.1 = 0) : p_is tk k s = false := by unfold p_is; rw [decide_eq_false h, Bool.false_and]
theorem p_want_ok (hT : ∀ t, (tk t).1 ≠ 21 → t < n) {k : Int} (hk : k ≠ 21) : p_ok n (p_want tk k) := by
  refine ⟨fun s h => ?_, fun s => ?_⟩
  · unfold p_want
    rw [if_neg (by rw [p_is_w h]; decide), p_fail_w h]
  · unfold p_want
    split
    · rename_i g
      exact p_up_go (p_is_lt hT hk g).2.2
    · exact p_up_fail
theorem p_loop_ok (hT : ∀ t, (tk t).1 ≠ 21 → t < n) {k code : Int} (hk : k ≠ 21) {X : p_S → p_S} (hX : p_ok n X) : ∀ f, p_ok n (p_loop tk k code X f)
  | 0 => ⟨fun s _ => rfl, fun s => p_up_rf⟩
  | f + 1 => by
    have ih := p_loop_ok hT (code := code) hk hX f
    refine ⟨fun s h => ?_, fun s => ?_⟩
    · unfold p_loop
      rw [if_neg (by rw [p_is_w h]; decide)]
    · unfold p_loop
      split
      · rename_i g
        exact p_up_tr (p_up_gc hX (p_is_lt hT hk g).2.2) (ih.2 _)
      · exact p_up_rf
theorem p_sums_ok (hT : ∀ t, (tk t).1 ≠ 21 → t < n) {X : p_S → p_S} (hX : p_ok n X) : ∀ f, p_ok n (p_sums tk X f)
  | 0 => ⟨fun s _ => rfl, fun s => p_up_rf⟩
  | f + 1 => by
    have ih := p_sums_ok hT hX f
    refine ⟨fun s h => ?_, fun s => ?_⟩
    · unfold p_sums
      rw [if_neg (by rw [p_is_w h]; decide), if_neg (by rw [p_is_w h]; decide)]
    · unfold p_sums
      split
      · rename_i g
        exact p_up_tr (p_up_gc hX (p_is_lt hT (by decide) g).2.2) (ih.2 _)
      · split
        · rename_i g
          exact p_up_tr (p_up_gc hX (p_is_lt hT (by decide) g).2.2) (ih.2 _)
        · exact p_up_rf
theorem p_comp {X Y : p_S → p_S} (hX : p_ok n X) (hY : p_ok n Y) : p_ok n (fun s => Y (X s)) :=
  ⟨fun s h => by show Y (X s) = s; rw [hX.1 s h, hY.1 s h], fun s => p_up_tr (hX.2 s) (hY.2 _)⟩
/-- in, when it may -/
theorem p_in_0 {c : Nat} {s : p_S} (h : s.2.1 = 0) (g : (p_in tk c s).2.1 = 0) : 0 < c ∧ p_in tk c s = p_go s := by
  unfold p_in at g ⊢
  by_cases e : c = 0
  · rw [if_pos e] at g
    unfold p_fail at g
    rw [if_pos h] at g
    have g : (if (tk s.1).1 = 22 then (1 : Int) else 4) = 0 := g
    split at g <;> omega
  · rw [if_neg e, if_pos h]
    exact ⟨by omega, rfl⟩
theorem p_in_up {c : Nat} {s : p_S} (h : s.1 < n) : p_up n s (p_in tk c s) := by
  unfold p_in
  split
  · exact p_up_fail
  · split
    · exact p_up_go h
    · exact p_up_rf
theorem p_if_up (hT : ∀ t, (tk t).1 ≠ 21 → t < n) {SN TN : p_S → p_S} (hS : p_ok n SN) (hN : p_ok n TN) {s : p_S} (h : s.1 < n) : p_up n s (p_if tk SN TN (p_go s)) := by
  have c : p_ok n (fun s => p_want tk 12 (SN (p_want tk 11 (SN (p_want tk 10 (TN s)))))) := p_comp (p_comp (p_comp (p_comp (p_comp hN (p_want_ok hT (by decide))) hS) (p_want_ok hT (by decide))) hS) (p_want_ok hT (by decide))
  exact p_up_gc c h
theorem p_atom_ok (hT : ∀ t, (tk t).1 ≠ 21 → t < n) {c : Nat} {SN TN : p_S → p_S} (hS : 0 < c → p_ok n SN) (hN : 0 < c → p_ok n TN) : p_ok n (p_atom tk c SN TN) := by
  refine ⟨fun s h => ?_, fun s => ?_⟩
  · unfold p_atom
    rw [if_neg h]
  · unfold p_atom
    have lit : s.2.1 = 0 → s.1 < n → ∀ v, p_up n s (p_go (p_code v s)) := fun h0 hlt v => by
      unfold p_code
      rw [if_pos h0]
      exact ⟨Nat.le_succ _, fun _ => hlt, fun q g => by show (s.2.2.2 ++ [v]).length + q ≤ s.1 + 1; rw [List.length_append, List.length_singleton]; omega, [v], rfl⟩
    split
    · rename_i h0
      split
      · rename_i g
        exact lit h0 (hT _ (by rw [g]; decide)) _
      · split
        · rename_i g
          refine lit h0 (hT _ (fun e => g ?_)) _
          rw [e]; decide
        · split
          · rename_i g
            have lt := hT s.1 (by rw [g]; decide)
            split
            · rename_i g2
              obtain ⟨c0, e⟩ := p_in_0 h0 g2
              rw [e]
              exact p_up_tr (p_up_go lt) ((p_comp (hS c0) (p_want_ok hT (k := 36) (by decide))).2 _)
            · exact p_in_up lt
          · split
            · rename_i g
              have lt := hT s.1 (by rw [g]; decide)
              split
              · rename_i g2
                obtain ⟨c0, e⟩ := p_in_0 h0 g2
                rw [e]
                exact p_if_up hT (hS c0) (hN c0) lt
              · exact p_in_up lt
            · exact p_up_fail
    · exact p_up_rf
theorem p_term_ok (hT : ∀ t, (tk t).1 ≠ 21 → t < n) {c : Nat} {SN TN : p_S → p_S} (hS : 0 < c → p_ok n SN) (hN : 0 < c → p_ok n TN) : p_ok n (p_term tk F c SN TN) := p_comp (X := p_atom tk c SN TN) (Y := p_loop tk 34 3002 (p_atom tk c SN TN) F) (p_atom_ok hT hS hN) (p_loop_ok hT (k := 34) (code := 3002) (by decide) (p_atom_ok hT hS hN) F)
theorem p_sum_ok (hT : ∀ t, (tk t).1 ≠ 21 → t < n) {c : Nat} {SN TN : p_S → p_S} (hS : 0 < c → p_ok n SN) (hN : 0 < c → p_ok n TN) : p_ok n (p_sum tk F c SN TN) := p_comp (X := p_term tk F c SN TN) (Y := p_sums tk (p_term tk F c SN TN) F) (p_term_ok hT hS hN) (p_sums_ok hT (p_term_ok hT hS hN) F)
theorem p_cmp_ok (hT : ∀ t, (tk t).1 ≠ 21 → t < n) {X : p_S → p_S} (hX : p_ok n X) : p_ok n (p_cmp tk X) := by
  refine ⟨fun s h => ?_, fun s => ?_⟩
  · unfold p_cmp
    rw [if_neg (by rw [p_is_w h]; decide), if_neg (by rw [p_is_w h]; decide), if_neg (by rw [p_is_w h]; decide), p_fail_w h]
  · unfold p_cmp
    split
    · rename_i g
      exact p_up_gc hX (p_is_lt hT (by decide) g).2.2
    · split
      · rename_i g
        exact p_up_gc hX (p_is_lt hT (by decide) g).2.2
      · split
        · rename_i g
          exact p_up_gc hX (p_is_lt hT (by decide) g).2.2
        · exact p_up_fail
theorem p_unit_ok (hT : ∀ t, (tk t).1 ≠ 21 → t < n) {c : Nat} {SN TN UN : p_S → p_S} (hS : 0 < c → p_ok n SN) (hN : 0 < c → p_ok n TN) (hU : 0 < c → p_ok n UN) : p_ok n (p_unit tk F c SN TN UN) := by
  refine ⟨fun s h => ?_, fun s => ?_⟩
  · unfold p_unit
    rw [if_neg h]
  · unfold p_unit
    split
    · rename_i h0
      split
      · rename_i g
        have lt := hT s.1 (by rw [g]; decide)
        split
        · rename_i g2
          obtain ⟨c0, e⟩ := p_in_0 h0 g2
          rw [e]
          exact p_up_gc (hU c0) lt
        · exact p_in_up lt
      · split
        · rename_i g
          have lt := hT s.1 (by rw [g]; decide)
          split
          · rename_i g2
            obtain ⟨c0, e⟩ := p_in_0 h0 g2
            rw [e]
            exact p_up_tr (p_up_go lt) ((p_comp (hN c0) (p_want_ok hT (k := 38) (by decide))).2 _)
          · exact p_in_up lt
        · exact (p_comp (p_sum_ok (F := F) hT hS hN) (p_cmp_ok hT (p_sum_ok (F := F) hT hS hN))).2 s
    · exact p_up_rf
theorem p_both_ok (hT : ∀ t, (tk t).1 ≠ 21 → t < n) {c : Nat} {SN TN UN : p_S → p_S} (hS : 0 < c → p_ok n SN) (hN : 0 < c → p_ok n TN) (hU : 0 < c → p_ok n UN) : p_ok n (p_both tk F c SN TN UN) := p_comp (X := p_unit tk F c SN TN UN) (Y := p_loop tk 16 3007 (p_unit tk F c SN TN UN) F) (p_unit_ok hT hS hN hU) (p_loop_ok hT (k := 16) (code := 3007) (by decide) (p_unit_ok hT hS hN hU) F)
theorem p_truth_ok (hT : ∀ t, (tk t).1 ≠ 21 → t < n) {c : Nat} {SN TN UN : p_S → p_S} (hS : 0 < c → p_ok n SN) (hN : 0 < c → p_ok n TN) (hU : 0 < c → p_ok n UN) : p_ok n (p_truth tk F c SN TN UN) := p_comp (X := p_both tk F c SN TN UN) (Y := p_loop tk 17 3008 (p_both tk F c SN TN UN) F) (p_both_ok hT hS hN hU) (p_loop_ok hT (k := 17) (code := 3008) (by decide) (p_both_ok hT hS hN hU) F)
theorem p_lv_ok (hT : ∀ t, (tk t).1 ≠ 21 → t < n) : ∀ c, p_ok n (p_lv tk F c).1 ∧ p_ok n (p_lv tk F c).2.1 ∧ p_ok n (p_lv tk F c).2.2
  | 0 => ⟨p_sum_ok hT (fun h => absurd h (by decide)) (fun h => absurd h (by decide)), p_truth_ok hT (fun h => absurd h (by decide)) (fun h => absurd h (by decide)) (fun h => absurd h (by decide)), p_unit_ok hT (fun h => absurd h (by decide)) (fun h => absurd h (by decide)) (fun h => absurd h (by decide))⟩
  | c + 1 => by
    have ih := p_lv_ok hT c
    exact ⟨p_sum_ok hT (fun _ => ih.1) (fun _ => ih.2.1), p_truth_ok hT (fun _ => ih.1) (fun _ => ih.2.1) (fun _ => ih.2.2), p_unit_ok hT (fun _ => ih.1) (fun _ => ih.2.1) (fun _ => ih.2.2)⟩
end PSP
/-- the tokens of a text -/
def z_P (bt : Nat → Int) (n : Nat) : Nat → Nat
  | 0 => 0
  | t + 1 => z_tB bt n (z_P bt n t)
def z_tks (bt : Nat → Int) (n : Nat) : p_T := fun t => (z_tK bt n (z_P bt n t), (z_tA bt n (z_P bt n t) : Int), z_tN bt n (z_P bt n t))
theorem z_P_le {bt : Nat → Int} {n : Nat} : ∀ t, z_P bt n t ≤ n
  | 0 => Nat.zero_le _
  | t + 1 => (z_tB_ok (z_P_le t)).2.1
theorem z_P_mono {bt : Nat → Int} {n : Nat} (t : Nat) : z_P bt n t ≤ z_P bt n (t + 1) := Nat.le_trans (z_tA_ok (z_P_le t)).1 (z_tB_ok (z_P_le t)).1
/-- an end stays the end -/
theorem z_P_end {bt : Nat → Int} {n t : Nat} (h : z_tK bt n (z_P bt n t) = 21) (h2 : n ≤ z_tA bt n (z_P bt n t)) : z_P bt n (t + 1) = n := by
  have a := (z_tA_ok (bt := bt) (z_P_le (bt := bt) (n := n) t)).2
  show z_tB bt n (z_P bt n t) = n
  unfold z_tB
  rw [if_pos h2]
  omega
theorem z_key_19 {bt : Nat → Int} {a b : Nat} : z_key bt a b ≤ 19 := by
  have := (z_find_ok (p := fun k => z_wdm bt a b (q_sb (z_kx.getD k 0))) (k := 19) (i := 0)).2.1
  unfold z_key
  omega
theorem z_sgn_21 {c : Int} : z_sgn c ≠ 21 ∧ z_sgn c ≠ 20 := by
  by_cases h : ∃ j : Nat, j < 12 ∧ (q_sb 19).getD j 0 = c
  · obtain ⟨j, hj, e1, e2⟩ := z_sgn_yes h
    omega
  · rw [z_sgn_no h]; decide
theorem z_tK_21 {bt : Nat → Int} {n p : Nat} (h : z_tK bt n p = 21) : n ≤ z_tA bt n p := by
  unfold z_tK at h
  split at h
  · assumption
  · split at h
    · have := z_key_19 (bt := bt) (a := z_tA bt n p) (b := z_tB bt n p)
      omega
    · split at h
      · split at h <;> omega
      · exact absurd h z_sgn_21.1
theorem z_P_grow {bt : Nat → Int} {n : Nat} : ∀ t, z_tK bt n (z_P bt n t) ≠ 21 → t ≤ z_P bt n t
  | 0, _ => Nat.zero_le _
  | t + 1, h => by
    by_cases e : z_tK bt n (z_P bt n t) = 21
    · have e2 := z_P_end e (z_tK_21 e)
      rw [e2] at h
      have : z_tK bt n n = 21 := by
        unfold z_tK
        rw [if_pos (z_tA_ok (bt := bt) (Nat.le_refl n)).1]
      exact absurd this h
    · have ih := z_P_grow t e
      have := (z_tB_ok (bt := bt) (z_P_le (bt := bt) (n := n) t)).2.2 e
      show t + 1 ≤ z_tB bt n (z_P bt n t)
      omega
theorem z_tks_lt {bt : Nat → Int} {n : Nat} : ∀ t, (z_tks bt n t).1 ≠ 21 → t < n := fun t h => by
  have g := z_P_grow t h
  have b := (z_tB_ok (bt := bt) (z_P_le (bt := bt) (n := n) t))
  have := b.2.2 h
  omega
