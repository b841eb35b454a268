-- nets told: what reading them does, by tokens
abbrev p_D : Type := Nat × Nat × Int × Int × (Nat → Nat × Nat × Int) × (Nat → List Nat) × (Nat → Option (Nat × List Int)) × Nat
def d_N (D : p_D) : Nat := D.1
def d_L (D : p_D) : Nat := D.2.1
def d_n (D : p_D) : Int := D.2.2.1
def d_w (D : p_D) : Int := D.2.2.2.1
def d_k (D : p_D) : Nat → Nat × Nat × Int := D.2.2.2.2.1
def d_r (D : p_D) : Nat → List Nat := D.2.2.2.2.2.1
def d_l (D : p_D) : Nat → Option (Nat × List Int) := D.2.2.2.2.2.2.1
def d_t (D : p_D) : Nat := D.2.2.2.2.2.2.2
def d_0 : p_D := (0, 0, 0, 0, fun _ => (0, 0, 0), fun _ => [], fun _ => none, 0)
def d_addn (D : p_D) : p_D := (d_N D + 1, d_L D, d_n D, d_w D, d_k D, d_r D, d_l D, d_t D)
def d_addl (D : p_D) (x : Nat × Nat × Int) : p_D := (d_N D, d_L D + 1, d_n D, d_w D, fun l => if l = d_L D then x else d_k D l, d_r D, d_l D, d_t D)
def d_setr (D : p_D) (n : Nat) (ls : List Nat) : p_D := (d_N D, d_L D, d_n D, d_w D, d_k D, fun m => if m = n then ls else d_r D m, d_l D, d_t D)
def d_setl (D : p_D) (i : Nat) (cs : List Int) : p_D := (d_N D, d_L D, d_n D, d_w D, d_k D, d_r D, fun j => if j = i then some (d_t D, cs) else d_l D j, d_t D + cs.length)
def d_line (D : p_D) : p_D := (d_N D, d_L D, q_add (d_n D) 1, d_w D, d_k D, d_r D, d_l D, d_t D)
def d_setw (D : p_D) (w : Int) : p_D := (d_N D, d_L D, d_n D, w, d_k D, d_r D, d_l D, d_t D)
def d_on (D : p_D) (l n : Nat) : Bool := decide (l < d_L D) && (decide ((d_k D l).1 = n) || decide ((d_k D l).2.1 = n))
abbrev p_Q : Type := p_S × p_D
def p_take (tk : p_T) (hi : Int) (s : p_S) : p_S := if s.2.1 = 0 then (if (tk s.1).1 = 20 then (if (tk s.1).2.2 ≤ hi then p_go s else p_fail tk 3 s) else p_fail tk 2 s) else s
def q_node (tk : p_T) (s : p_S) (D : p_D) : p_Q := if d_N D = 10 then (p_fail tk 4 s, D) else (p_go s, d_addn D)
def q_link3 (tk : p_T) (a b : Nat) (ng : Bool) (s : p_S) (D : p_D) : p_Q := if (p_take tk 99 s).2.1 = 0 then (p_take tk 99 s, d_addl D (a, b, if ng then -(tk s.1).2.2 else (tk s.1).2.2)) else (p_take tk 99 s, D)
def q_link2 (tk : p_T) (a : Nat) (s : p_S) (D : p_D) : p_Q := if (p_take tk ((d_N D : Int) - 1) s).2.1 = 0 then (if (tk (s.1 + 1)).1 = 5 then q_link3 tk a (tk s.1).2.2.toNat true (p_go (p_take tk ((d_N D : Int) - 1) s)) D else if (tk (s.1 + 1)).1 = 4 then q_link3 tk a (tk s.1).2.2.toNat false (p_go (p_take tk ((d_N D : Int) - 1) s)) D else (p_fail tk 2 (p_take tk ((d_N D : Int) - 1) s), D)) else (p_take tk ((d_N D : Int) - 1) s, D)
def q_link1 (tk : p_T) (s : p_S) (D : p_D) : p_Q := if (p_take tk ((d_N D : Int) - 1) s).2.1 = 0 then (if (tk (s.1 + 1)).1 = 20 ∧ (tk (s.1 + 1)).2.2 = (tk s.1).2.2 then (p_fail tk 3 (p_take tk ((d_N D : Int) - 1) s), D) else q_link2 tk (tk s.1).2.2.toNat (p_take tk ((d_N D : Int) - 1) s) D) else (p_take tk ((d_N D : Int) - 1) s, D)
def q_link (tk : p_T) (s : p_S) (D : p_D) : p_Q := if d_L D = 16 then (p_fail tk 4 s, D) else q_link1 tk (p_go s) D
def q_rl (tk : p_T) (n : Nat) : Nat → p_S → p_D → p_Q
  | 0, s, D => (s, D)
  | f + 1, s, D => if (tk s.1).1 = 20 then (if d_on D (tk s.1).2.2.toNat n = true ∧ (tk s.1).2.2.toNat ∉ d_r D n then q_rl tk n f (p_go s) (d_setr D n (d_r D n ++ [(tk s.1).2.2.toNat])) else (p_fail tk 3 s, D)) else (s, D)
def q_round (tk : p_T) (F : Nat) (s : p_S) (D : p_D) : p_Q := if (p_take tk ((d_N D : Int) - 1) (p_go s)).2.1 = 0 then q_rl tk (tk (s.1 + 1)).2.2.toNat F (p_take tk ((d_N D : Int) - 1) (p_go s)) (d_setr D (tk (s.1 + 1)).2.2.toNat []) else (p_take tk ((d_N D : Int) - 1) (p_go s), D)
def q_lsp (tk : p_T) (F i : Nat) : p_S → p_S := if i = 0 then (p_lv tk F 6).1 else (p_lv tk F 6).2.1
def q_law (tk : p_T) (F i : Nat) (s : p_S) (D : p_D) : p_Q := (((q_lsp tk F i (p_want tk 31 (p_go s))).1, (q_lsp tk F i (p_want tk 31 (p_go s))).2.1, (q_lsp tk F i (p_want tk 31 (p_go s))).2.2.1, []), if (q_lsp tk F i (p_want tk 31 (p_go s))).2.1 = 0 then d_setl D i (q_lsp tk F i (p_want tk 31 (p_go s))).2.2.2 else D)
def q_line (tk : p_T) (F : Nat) (s : p_S) (D : p_D) : p_Q := if (tk s.1).1 = 2 then q_node tk s D else if (tk s.1).1 = 3 then q_link tk s D else if (tk s.1).1 = 6 then q_round tk F s D else if (tk s.1).1 = 7 then q_law tk F 0 s D else if (tk s.1).1 = 8 then q_law tk F 1 s D else (p_fail tk 2 s, D)
def q_close (tk : p_T) (Q : p_Q) : p_Q := (p_want tk 30 Q.1, d_line Q.2)
def q_lines (tk : p_T) (F : Nat) : Nat → p_Q → p_Q
  | 0, Q => Q
  | f + 1, Q => if Q.1.2.1 = 0 ∧ (tk Q.1.1).1 ≠ 21 then q_lines tk F f (q_close tk (q_line tk F Q.1 Q.2)) else Q
def p_s0 : p_S := (0, 0, 0, [])
def q_hs (tk : p_T) : p_S := p_want tk 1 (p_want tk 0 p_s0)
def q_head (tk : p_T) : p_Q := q_close tk (p_take tk 9 (q_hs tk), d_setw d_0 (tk (q_hs tk).1).2.2)
def q_net (tk : p_T) (F : Nat) : p_Q := q_lines tk F F (q_head tk)
/-- no twice -/
def l_nd : List Nat → Prop
  | [] => True
  | x :: l => x ∉ l ∧ l_nd l
theorem l_nd_app : ∀ {l : List Nat} {x : Nat}, l_nd l → x ∉ l → l_nd (l ++ [x])
  | [], x, _, _ => ⟨by simp, trivial⟩
  | y :: l, x, h, q => by
    simp at q
    exact ⟨by simp; exact ⟨h.1, fun e => q.1 e.symm⟩, l_nd_app h.2 q.2⟩
/-- what is told holds together -/
def d_ok (n : Nat) (s : p_S) (D : p_D) : Prop := d_N D ≤ 10 ∧ d_L D ≤ 16 ∧ (∀ l, l < d_L D → (d_k D l).1 < d_N D ∧ (d_k D l).2.1 < d_N D ∧ (d_k D l).1 ≠ (d_k D l).2.1 ∧ -99 ≤ (d_k D l).2.2 ∧ (d_k D l).2.2 ≤ 99) ∧ (∀ m, l_nd (d_r D m) ∧ ∀ l ∈ d_r D m, d_on D l m = true) ∧ (∀ i b cs, d_l D i = some (b, cs) → i < 2 ∧ b + cs.length ≤ d_t D ∧ z_tr cs [] = some [decide (i = 1)]) ∧ d_t D + 2 ≤ s.1 ∧ s.1 ≤ n ∧ s.2.2.2 = []
def d_nx (n : Nat) (s : p_S) (Q : p_Q) : Prop := Q.1.2.1 = 0 → d_ok n Q.1 Q.2 ∧ s.1 < Q.1.1
section SNET
variable {n F : Nat} {tk : p_T}
theorem p_take_0 (hT : ∀ t, (tk t).1 ≠ 21 → t < n) {hi : Int} {s : p_S} (h : (p_take tk hi s).2.1 = 0) : s.2.1 = 0 ∧ (tk s.1).1 = 20 ∧ (tk s.1).2.2 ≤ hi ∧ p_take tk hi s = p_go s ∧ s.1 < n := by
  have nf : ∀ {f : Int} {s : p_S}, f ≠ 0 → s.2.1 = 0 → ¬ (p_fail tk f s).2.1 = 0 := fun {f s} hf hs q => by
    unfold p_fail at q
    rw [if_pos hs] at q
    have q : (if (tk s.1).1 = 22 then (1 : Int) else f) = 0 := q
    split at q <;> omega
  unfold p_take at h ⊢
  by_cases w : s.2.1 = 0
  · rw [if_pos w] at h ⊢
    by_cases g : (tk s.1).1 = 20
    · rw [if_pos g] at h ⊢
      by_cases g2 : (tk s.1).2.2 ≤ hi
      · rw [if_pos g2]
        exact ⟨w, g, g2, rfl, hT _ (by rw [g]; decide)⟩
      · rw [if_neg g2] at h
        exact absurd h (nf (by decide) w)
    · rw [if_neg g] at h
      exact absurd h (nf (by decide) w)
  · rw [if_neg w] at h
    exact absurd h w
theorem p_fail_n {f : Int} {s : p_S} (hf : f ≠ 0) : ¬ (p_fail tk f s).2.1 = 0 := fun q => by
  unfold p_fail at q
  by_cases hs : s.2.1 = 0
  · rw [if_pos hs] at q
    have q : (if (tk s.1).1 = 22 then (1 : Int) else f) = 0 := q
    split at q <;> omega
  · rw [if_neg hs] at q
    exact hs q
theorem p_want_0 (hT : ∀ t, (tk t).1 ≠ 21 → t < n) {k : Int} (hk : k ≠ 21) {s : p_S} (h : (p_want tk k s).2.1 = 0) : s.2.1 = 0 ∧ (tk s.1).1 = k ∧ p_want tk k s = p_go s ∧ s.1 < n := by
  unfold p_want at h ⊢
  by_cases g : p_is tk k s = true
  · rw [if_pos g]
    have := p_is_lt hT hk g
    exact ⟨this.1, this.2.1, rfl, this.2.2⟩
  · rw [if_neg g] at h
    exact absurd h (p_fail_n (by decide))
theorem q_node_ok {s : p_S} {D : p_D} (hs : s.1 < n) (hD : d_ok n s D) : d_nx n s (q_node tk s D) := by
  intro h
  obtain ⟨a1, a2, a3, a4, a5, a6, a7, a8⟩ := hD
  unfold q_node at h ⊢
  by_cases g : d_N D = 10
  · rw [if_pos g] at h
    exact absurd h (p_fail_n (by decide))
  · rw [if_neg g]
    refine ⟨⟨by show d_N D + 1 ≤ 10; omega, a2, fun l hl => ?_, a4, a5, by show d_t D + 2 ≤ s.1 + 1; omega, hs, a8⟩, Nat.lt_succ_self _⟩
    have := a3 l hl
    exact ⟨Nat.lt_succ_of_lt this.1, Nat.lt_succ_of_lt this.2.1, this.2.2⟩
theorem q_link_ok (hT : ∀ t, (tk t).1 ≠ 21 → t < n) (hN : ∀ t, (tk t).1 = 20 → 0 ≤ (tk t).2.2 ∧ (tk t).2.2 ≤ 999) {s : p_S} {D : p_D} (hs : s.1 < n) (hw : s.2.1 = 0) (hD : d_ok n s D) : d_nx n s (q_link tk s D) := by
  intro h
  obtain ⟨a1, a2, a3, a4, a5, a6, a7, a8⟩ := hD
  unfold q_link at h ⊢
  by_cases g : d_L D = 16
  · rw [if_pos g] at h
    exact absurd h (p_fail_n (by decide))
  · rw [if_neg g] at h ⊢
    unfold q_link1 at h ⊢
    by_cases g1 : (p_take tk ((d_N D : Int) - 1) (p_go s)).2.1 = 0
    · obtain ⟨_, k1, l1, e1, t1⟩ := p_take_0 hT g1
      rw [if_pos g1] at h ⊢
      by_cases g2 : (tk ((p_go s).1 + 1)).1 = 20 ∧ (tk ((p_go s).1 + 1)).2.2 = (tk (p_go s).1).2.2
      · rw [if_pos g2] at h
        exact absurd h (p_fail_n (by decide))
      · rw [if_neg g2, e1] at h ⊢
        unfold q_link2 at h ⊢
        by_cases g3 : (p_take tk ((d_N D : Int) - 1) (p_go (p_go s))).2.1 = 0
        · obtain ⟨_, k2, l2, e2, t2⟩ := p_take_0 hT g3
          rw [if_pos g3, e2] at h ⊢
          have n1 := hN _ k1
          have n2 := hN _ k2
          have ne : (tk (p_go s).1).2.2 ≠ (tk (p_go (p_go s)).1).2.2 := fun q => g2 ⟨k2, q.symm⟩
          have fin : ∀ ng : Bool, (tk (p_go (p_go (p_go s))).1).1 ≠ 21 → (q_link3 tk (tk (p_go s).1).2.2.toNat (tk (p_go (p_go s)).1).2.2.toNat ng (p_go (p_go (p_go (p_go s)))) D).1.2.1 = 0 → d_ok n (q_link3 tk (tk (p_go s).1).2.2.toNat (tk (p_go (p_go s)).1).2.2.toNat ng (p_go (p_go (p_go (p_go s)))) D).1 (q_link3 tk (tk (p_go s).1).2.2.toNat (tk (p_go (p_go s)).1).2.2.toNat ng (p_go (p_go (p_go (p_go s)))) D).2 ∧ s.1 < (q_link3 tk (tk (p_go s).1).2.2.toNat (tk (p_go (p_go s)).1).2.2.toNat ng (p_go (p_go (p_go (p_go s)))) D).1.1 := by
            intro ng hk h
            unfold q_link3 at h ⊢
            by_cases g4 : (p_take tk 99 (p_go (p_go (p_go (p_go s))))).2.1 = 0
            · obtain ⟨_, k3, l3, e3, t3⟩ := p_take_0 hT g4
              rw [if_pos g4, e3]
              have n3 := hN _ k3
              have t3 : s.1 + 1 + 1 + 1 + 1 < n := t3
              refine ⟨⟨a1, by show d_L D + 1 ≤ 16; omega, fun l hl => ?_, fun m => ⟨(a4 m).1, fun l hl => ?_⟩, a5, by show d_t D + 2 ≤ s.1 + 1 + 1 + 1 + 1 + 1; omega, by show s.1 + 1 + 1 + 1 + 1 + 1 ≤ n; omega, a8⟩, by show s.1 < s.1 + 1 + 1 + 1 + 1 + 1; omega⟩
              · have hl : l < d_L D + 1 := hl
                show ((if l = d_L D then _ else d_k D l) : Nat × Nat × Int).1 < d_N D ∧ ((if l = d_L D then _ else d_k D l) : Nat × Nat × Int).2.1 < d_N D ∧ ((if l = d_L D then _ else d_k D l) : Nat × Nat × Int).1 ≠ ((if l = d_L D then _ else d_k D l) : Nat × Nat × Int).2.1 ∧ -99 ≤ ((if l = d_L D then _ else d_k D l) : Nat × Nat × Int).2.2 ∧ ((if l = d_L D then _ else d_k D l) : Nat × Nat × Int).2.2 ≤ 99
                by_cases c : l = d_L D
                · rw [if_pos c]
                  refine ⟨by show (tk (p_go s).1).2.2.toNat < _; omega, by show (tk (p_go (p_go s)).1).2.2.toNat < _; omega, by show (tk (p_go s).1).2.2.toNat ≠ (tk (p_go (p_go s)).1).2.2.toNat; omega, ?_⟩
                  cases ng
                  · exact ⟨by show -99 ≤ (tk _).2.2; omega, l3⟩
                  · exact ⟨by show -99 ≤ -(tk _).2.2; omega, by show -(tk _).2.2 ≤ 99; omega⟩
                · rw [if_neg c]
                  exact a3 l (by omega)
              · have o := (a4 m).2 l hl
                unfold d_on at o ⊢
                rw [Bool.and_eq_true, decide_eq_true_eq] at o
                show (decide (l < d_L D + 1) && (decide (((if l = d_L D then _ else d_k D l) : Nat × Nat × Int).1 = m) || decide (((if l = d_L D then _ else d_k D l) : Nat × Nat × Int).2.1 = m))) = true
                rw [if_neg (by omega), decide_eq_true (show l < d_L D + 1 by omega), o.2]
                rfl
            · rw [if_neg g4] at h
              exact absurd h g4
          by_cases g5 : (tk ((p_go (p_go s)).1 + 1)).1 = 5
          · rw [if_pos g5] at h ⊢
            exact fin true (by show (tk ((p_go (p_go s)).1 + 1)).1 ≠ 21; rw [g5]; decide) h
          · rw [if_neg g5] at h ⊢
            by_cases g6 : (tk ((p_go (p_go s)).1 + 1)).1 = 4
            · rw [if_pos g6] at h ⊢
              exact fin false (by show (tk ((p_go (p_go s)).1 + 1)).1 ≠ 21; rw [g6]; decide) h
            · rw [if_neg g6] at h
              exact absurd h (p_fail_n (by decide))
        · rw [if_neg g3] at h
          exact absurd h g3
    · rw [if_neg g1] at h
      exact absurd h g1
theorem d_setr_r {D : p_D} {n m : Nat} {ls : List Nat} : d_r (d_setr D n ls) m = if m = n then ls else d_r D m := rfl
theorem q_rl_ok (hT : ∀ t, (tk t).1 ≠ 21 → t < n) {m : Nat} {s0 : p_S} : ∀ (f : Nat) (s : p_S) (D : p_D), d_ok n s D → s0.1 < s.1 → d_nx n s0 (q_rl tk m f s D)
  | 0, s, D, hD, h0 => fun _ => ⟨hD, h0⟩
  | f + 1, s, D, hD, h0 => by
    unfold q_rl
    by_cases g : (tk s.1).1 = 20
    · rw [if_pos g]
      by_cases g2 : d_on D (tk s.1).2.2.toNat m = true ∧ (tk s.1).2.2.toNat ∉ d_r D m
      · rw [if_pos g2]
        refine q_rl_ok hT f _ _ ?_ (Nat.lt_succ_of_lt h0)
        obtain ⟨a1, a2, a3, a4, a5, a6, a7, a8⟩ := hD
        have lt := hT s.1 (by rw [g]; decide)
        refine ⟨a1, a2, a3, fun x => ?_, a5, Nat.le_succ_of_le a6, lt, a8⟩
        rw [d_setr_r]
        by_cases c : x = m
        · subst c
          rw [if_pos rfl]
          refine ⟨l_nd_app (a4 x).1 g2.2, fun l hl => ?_⟩
          simp at hl
          rcases hl with q | q
          · exact (a4 x).2 l q
          · rw [q]; exact g2.1
        · rw [if_neg c]
          exact a4 x
      · rw [if_neg g2]
        exact fun h => absurd h (p_fail_n (by decide))
    · rw [if_neg g]
      exact fun _ => ⟨hD, h0⟩
theorem q_round_ok (hT : ∀ t, (tk t).1 ≠ 21 → t < n) {s : p_S} {D : p_D} (hs : s.1 < n) (hD : d_ok n s D) : d_nx n s (q_round tk F s D) := by
  unfold q_round
  by_cases g : (p_take tk ((d_N D : Int) - 1) (p_go s)).2.1 = 0
  · obtain ⟨_, k1, l1, e1, t1⟩ := p_take_0 hT g
    have t1 : s.1 + 1 < n := t1
    rw [if_pos g, e1]
    refine q_rl_ok hT F _ _ ?_ (by show s.1 < s.1 + 1 + 1; omega)
    obtain ⟨a1, a2, a3, a4, a5, a6, a7, a8⟩ := hD
    refine ⟨a1, a2, a3, fun x => ?_, a5, by show d_t D + 2 ≤ s.1 + 1 + 1; omega, by show s.1 + 1 + 1 ≤ n; omega, a8⟩
    rw [d_setr_r]
    by_cases c : x = (tk (s.1 + 1)).2.2.toNat
    · rw [if_pos c]
      exact ⟨trivial, fun l hl => absurd hl (by simp)⟩
    · rw [if_neg c]
      exact a4 x
  · rw [if_neg g]
    exact fun h => absurd h g
theorem q_lsp_ok (hT : ∀ t, (tk t).1 ≠ 21 → t < n) {i : Nat} : p_ok n (q_lsp tk F i) := by
  unfold q_lsp
  split
  · exact (p_lv_ok hT 6).1
  · exact (p_lv_ok hT 6).2.1
theorem q_law_ok (hT : ∀ t, (tk t).1 ≠ 21 → t < n) (hN : ∀ t, (tk t).1 = 20 → 0 ≤ (tk t).2.2 ∧ (tk t).2.2 ≤ 999) {i : Nat} (hi : i < 2) {s : p_S} {D : p_D} (hs : s.1 < n) (hD : d_ok n s D) : d_nx n s (q_law tk F i s D) := by
  intro h
  have h : (q_lsp tk F i (p_want tk 31 (p_go s))).2.1 = 0 := h
  have ok := q_lsp_ok (F := F) (i := i) hT
  have w1 := p_w0 ok h
  obtain ⟨w0, k0, e0, t0⟩ := p_want_0 hT (by decide) w1
  have t0 : s.1 + 1 < n := t0
  obtain ⟨a1, a2, a3, a4, a5, a6, a7, a8⟩ := hD
  have cs0 : (p_go (p_go s)).2.2.2 = [] := a8
  have ty : z_tr (q_lsp tk F i (p_want tk 31 (p_go s))).2.2.2 [] = some [decide (i = 1)] := by
    rw [e0] at h ⊢
    unfold q_lsp at h ⊢
    by_cases c : i = 0
    · rw [if_pos c] at h ⊢
      rw [p_lv_tr (s := p_go (p_go s)) hT hN w0 cs0 h, c]
      rfl
    · rw [if_neg c] at h ⊢
      rw [p_lv_tr1 (s := p_go (p_go s)) hT hN w0 cs0 h, show i = 1 by omega]
      rfl
  have u := ok.2 (p_want tk 31 (p_go s))
  rw [e0] at u
  have u1 := u.1
  have u2 := u.2.1 (by show s.1 + 1 + 1 ≤ n; omega)
  have u3 := u.2.2.1 (d_t D + 4) (by rw [cs0]; show 0 + (d_t D + 4) ≤ s.1 + 1 + 1; omega)
  unfold q_law
  rw [if_pos h, e0]
  rw [e0] at ty
  refine ⟨⟨a1, a2, a3, a4, fun j b cs q => ?_, ?_, u2, rfl⟩, by show s.1 < (q_lsp tk F i (p_go (p_go s))).1; have : s.1 + 1 + 1 ≤ _ := u1; omega⟩
  · have q : (if j = i then some (d_t D, (q_lsp tk F i (p_go (p_go s))).2.2.2) else d_l D j) = some (b, cs) := q
    show j < 2 ∧ b + cs.length ≤ d_t D + (q_lsp tk F i (p_go (p_go s))).2.2.2.length ∧ _
    by_cases c : j = i
    · rw [if_pos c] at q
      have q := Option.some.inj q
      have q1 : d_t D = b := congrArg Prod.fst q
      have q2 : (q_lsp tk F i (p_go (p_go s))).2.2.2 = cs := congrArg Prod.snd q
      rw [← q1, ← q2, c]
      exact ⟨hi, Nat.le_refl _, ty⟩
    · rw [if_neg c] at q
      have := a5 j b cs q
      exact ⟨this.1, by omega, this.2.2⟩
  · show d_t D + (q_lsp tk F i (p_go (p_go s))).2.2.2.length + 2 ≤ (q_lsp tk F i (p_go (p_go s))).1
    omega
theorem q_line_ok (hT : ∀ t, (tk t).1 ≠ 21 → t < n) (hN : ∀ t, (tk t).1 = 20 → 0 ≤ (tk t).2.2 ∧ (tk t).2.2 ≤ 999) {s : p_S} {D : p_D} (hs : s.1 < n) (hw : s.2.1 = 0) (hD : d_ok n s D) : d_nx n s (q_line tk F s D) := by
  unfold q_line
  split
  · exact q_node_ok hs hD
  · split
    · exact q_link_ok hT hN hs hw hD
    · split
      · exact q_round_ok hT hs hD
      · split
        · exact q_law_ok hT hN (by decide) hs hD
        · split
          · exact q_law_ok hT hN (by decide) hs hD
          · exact fun h => absurd h (p_fail_n (by decide))
theorem q_close_ok (hT : ∀ t, (tk t).1 ≠ 21 → t < n) {s : p_S} {Q : p_Q} (h : d_nx n s Q) : d_nx n s (q_close tk Q) := by
  intro q
  have q : (p_want tk 30 Q.1).2.1 = 0 := q
  obtain ⟨w, k, e, t⟩ := p_want_0 hT (by decide) q
  obtain ⟨⟨a1, a2, a3, a4, a5, a6, a7, a8⟩, b⟩ := h w
  unfold q_close
  rw [e]
  exact ⟨⟨a1, a2, a3, a4, a5, Nat.le_succ_of_le a6, t, a8⟩, Nat.lt_succ_of_lt b⟩
theorem q_head_ok (hT : ∀ t, (tk t).1 ≠ 21 → t < n) : (q_head tk).1.2.1 = 0 → d_ok n (q_head tk).1 (q_head tk).2 ∧ 0 < (q_head tk).1.1 := by
  intro q
  have q : (p_want tk 30 (p_take tk 9 (q_hs tk))).2.1 = 0 := q
  obtain ⟨w, k, e, t⟩ := p_want_0 hT (by decide) q
  obtain ⟨w1, k1, l1, e1, t1⟩ := p_take_0 hT w
  obtain ⟨w2, k2, e2, t2⟩ := p_want_0 hT (by decide) w1
  obtain ⟨w3, k3, e3, t3⟩ := p_want_0 hT (by decide) w2
  rw [e1] at e t
  unfold q_head q_close
  rw [e1, e]
  have eh : q_hs tk = p_go (p_go p_s0) := by
    unfold q_hs
    rw [e2, e3]
  rw [eh] at t ⊢
  exact ⟨⟨Nat.zero_le _, Nat.zero_le _, fun l hl => absurd hl (Nat.not_lt_zero _), fun m => ⟨trivial, fun l hl => absurd hl (by show ¬ l ∈ ([] : List Nat); simp)⟩, fun i b cs g => absurd (show (none : Option (Nat × List Int)) = some (b, cs) from g) (by simp), by show 0 + 2 ≤ 0 + 1 + 1 + 1 + 1; decide, t, rfl⟩, by show 0 < 0 + 1 + 1 + 1 + 1; decide⟩
end SNET
/-- numbers are small -/
theorem z_nv_bd {bt : Nat → Int} {a : Nat} : ∀ k, (∀ j, j < k → 48 ≤ bt (a + j) ∧ bt (a + j) ≤ 57) → 0 ≤ z_nv bt a k ∧ z_nv bt a k ≤ 999 ∧ (k ≤ 2 → z_nv bt a k ≤ 99) ∧ (k ≤ 1 → z_nv bt a k ≤ 9) ∧ (k = 0 → z_nv bt a k = 0)
  | 0, _ => by
    have : z_nv bt a 0 = 0 := rfl
    omega
  | k + 1, h => by
    have ih := z_nv_bd k (fun j hj => h j (by omega))
    have d := h k (by omega)
    have st : z_nv bt a (k + 1) = if k < 3 then 10 * z_nv bt a k + bt (a + k) - 48 else z_nv bt a k := rfl
    rw [st]
    by_cases c : k < 3
    · rw [if_pos c]
      by_cases c0 : k = 0
      · omega
      · by_cases c1 : k = 1
        · omega
        · omega
    · rw [if_neg c]
      omega
theorem z_tks_num {bt : Nat → Int} {n : Nat} : ∀ t, (z_tks bt n t).1 = 20 → 0 ≤ (z_tks bt n t).2.2 ∧ (z_tks bt n t).2.2 ≤ 999 := fun t h => by
  have h : z_tK bt n (z_P bt n t) = 20 := h
  have hp := z_P_le (bt := bt) (n := n) t
  have c : ¬ n ≤ z_tA bt n (z_P bt n t) := fun q => by
    unfold z_tK at h
    rw [if_pos q] at h
    exact absurd h (by decide)
  have s1 : ¬ z_sml (bt (z_tA bt n (z_P bt n t))) = true := fun q => by
    unfold z_tK at h
    rw [if_neg c, if_pos q] at h
    have := c_key (bt := bt) (a := z_tA bt n (z_P bt n t)) (b := z_tB bt n (z_P bt n t))
    omega
  have s2 : z_dgt (bt (z_tA bt n (z_P bt n t))) = true := by
    by_cases q : z_dgt (bt (z_tA bt n (z_P bt n t))) = true
    · exact q
    · unfold z_tK at h
      rw [if_neg c, if_neg s1, if_neg q] at h
      exact absurd h z_sgn_21.2
  have eB : z_tB bt n (z_P bt n t) = z_find (fun j => !z_dgt (bt j)) (n - z_tA bt n (z_P bt n t)) (z_tA bt n (z_P bt n t)) := by
    unfold z_tB
    rw [if_neg c, if_neg s1, if_pos s2]
  have fo := (z_find_ok (p := fun j => !z_dgt (bt j)) (k := n - z_tA bt n (z_P bt n t)) (i := z_tA bt n (z_P bt n t))).2.2.1
  rw [← eB] at fo
  have := z_nv_bd (bt := bt) (a := z_tA bt n (z_P bt n t)) (z_tB bt n (z_P bt n t) - z_tA bt n (z_P bt n t)) (fun j hj => by
    have := fo (z_tA bt n (z_P bt n t) + j) (by omega) (by omega)
    simp [z_dgt] at this
    exact this)
  exact ⟨this.1, this.2.1⟩
