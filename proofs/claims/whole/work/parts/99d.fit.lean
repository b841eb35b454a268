-- what a told net's row is
theorem d_w_line {tk : p_T} {F : Nat} {s : p_S} {D : p_D} : d_w (q_line tk F s D).2 = d_w D := by
  have rl : ∀ (m f : Nat) (s : p_S) (D : p_D), d_w (q_rl tk m f s D).2 = d_w D := fun m f => by
    induction f with
    | zero => intro s D; rfl
    | succ f ih =>
      intro s D
      unfold q_rl
      split
      · split
        · rw [ih]; rfl
        · rfl
      · rfl
  unfold q_line
  split
  · unfold q_node
    split <;> rfl
  · split
    · unfold q_link
      split
      · rfl
      · unfold q_link1
        split
        · split
          · rfl
          · unfold q_link2
            split
            · split
              · unfold q_link3
                split <;> rfl
              · split
                · unfold q_link3
                  split <;> rfl
                · rfl
            · rfl
        · rfl
    · split
      · unfold q_round
        split
        · rw [rl]; rfl
        · rfl
      · split
        · unfold q_law
          show d_w (if _ then _ else _) = _
          split <;> rfl
        · split
          · unfold q_law
            show d_w (if _ then _ else _) = _
            split <;> rfl
          · rfl
theorem d_w_lines {tk : p_T} {F : Nat} : ∀ (f : Nat) (Q : p_Q), d_w (q_lines tk F f Q).2 = d_w Q.2
  | 0, _ => rfl
  | f + 1, Q => by
    unfold q_lines
    split
    · rw [d_w_lines f]
      exact d_w_line
    · rfl
theorem d_w_net {n F : Nat} {tk : p_T} (hT : ∀ t, (tk t).1 ≠ 21 → t < n) (hN : ∀ t, (tk t).1 = 20 → 0 ≤ (tk t).2.2 ∧ (tk t).2.2 ≤ 999) (h : (q_net tk F).1.2.1 = 0) : 0 ≤ d_w (q_net tk F).2 ∧ d_w (q_net tk F).2 ≤ 9 := by
  have e : d_w (q_net tk F).2 = (tk (q_hs tk).1).2.2 := d_w_lines F (q_head tk)
  have w : (q_head tk).1.2.1 = 0 := by
    by_cases c : (q_head tk).1.2.1 = 0
    · exact c
    · have : q_net tk F = q_head tk := q_lines_bad c
      rw [this] at h
      exact h
  have w : (p_want tk 30 (p_take tk 9 (q_hs tk))).2.1 = 0 := w
  obtain ⟨w1, _, _, _⟩ := p_want_0 hT (by decide) w
  obtain ⟨_, k, l, _, _⟩ := p_take_0 hT w1
  rw [e]
  exact ⟨(hN _ k).1, l⟩
section OOK
variable {n : Nat} {s : p_S} {D : p_D} {o : Int → Int}
theorem o_NL (h : o_ok D o) : z_N o = d_N D ∧ z_L o = d_L D := by
  unfold z_N z_L
  rw [h.2.2.2.1, h.2.2.2.2.1]
  exact ⟨Int.toNat_natCast _, Int.toNat_natCast _⟩
theorem o_st (h : o_ok D o) {x : Nat} (hx : x ≤ 10) : z_st o x = (d_fl D x).length := by
  unfold z_st
  rw [h.2.2.2.2.2.2.2.2.1 x hx]
  exact Int.toNat_natCast _
theorem o_dg (hk : d_ok n s D) (h : o_ok D o) {x : Nat} (hx : x < 10) : z_dg o x = (d_rg D x).length ∧ z_dg o x = d_dg (d_k D) x (d_L D) := by
  have e : z_dg o x = (d_rg D x).length := by
    unfold z_dg
    rw [o_st h (show x + 1 ≤ 10 by omega), o_st h (show x ≤ 10 by omega)]
    show (d_fl D x ++ d_rg D x).length - _ = _
    rw [List.length_append]
    omega
  exact ⟨e, e.trans (d_rg_len hk).1⟩
theorem o_net (hk : d_ok n s D) (h : o_ok D o) : z_net o := by
  obtain ⟨a1, a2, a3, a4, a5, a6, a7, a8, a9, a10⟩ := h
  have N := hk.1
  have L := hk.2.1
  refine ⟨by omega, by omega, fun l hl => ?_, ?_, ?_, fun x hx => ?_⟩
  · have hl : l < d_L D := by omega
    have b := hk.2.2.1 l hl
    rw [(a7 l hl).1, (a7 l hl).2.1, a4]
    omega
  · have := a9 0 (by decide)
    exact this
  · have := a9 10 (by decide)
    rw [d_fl_10 hk] at this
    rw [a5]
    have e : (85 : Int) + ((10 : Nat) : Int) = 95 := by decide
    rw [e] at this
    omega
  · have u := a9 x (by omega)
    have v := a9 (x + 1) (by omega)
    have e : (85 : Int) + ((x + 1 : Nat) : Int) = 86 + (x : Int) := by omega
    rw [e] at v
    have g : (d_fl D (x + 1)).length = (d_fl D x).length + (d_rg D x).length := by
      show (d_fl D x ++ d_rg D x).length = _
      rw [List.length_append]
    have := d_rg_len hk (m := x)
    rw [u, v]
    omega
theorem o_code (hk : d_ok n s D) (h : o_ok D o) {i b : Nat} {cs : List Int} (hi : i < 2) (e : d_l D i = some (b, cs)) : z_code o i = cs := by
  have a := (h.2.2.2.2.2.2.2.1 i hi).2 b cs e
  have l : (o (100 + (i : Int))).toNat = cs.length := by rw [a.2.2.1]; exact Int.toNat_natCast _
  apply List.ext_getElem
  · rw [z_code_len, l]
  · intro k h1 h2
    have e1 : (z_code o i)[k] = o (604 + o (98 + (i : Int)) + (k : Int)) := by simp [z_code]
    have e2 := a.2.2.2 k h2
    rw [e1, a.2.1, show (604 : Int) + (b : Int) + (k : Int) = ((604 + b + k : Nat) : Int) by omega, e2, List.getD_eq_getElem?_getD, List.getElem?_eq_getElem h2]
    rfl
theorem o_lawok (hn : n ≤ 900) (hk : d_ok n s D) (h : o_ok D o) {i : Nat} (hi : i < 2) (e : o (96 + (i : Int)) = 1) : ∃ b cs, d_l D i = some (b, cs) ∧ z_lawok o i ∧ 0 < o (100 + (i : Int)) := by
  have a := h.2.2.2.2.2.2.2.1 i hi
  cases q : d_l D i with
  | none => rw [a.1 q] at e; exact absurd e (by decide)
  | some x =>
    obtain ⟨b, cs⟩ := x
    have g := a.2 b cs q
    have t := hk.2.2.2.2.1 i b cs q
    have tt := hk.2.2.2.2.2.1
    have tn := hk.2.2.2.2.2.2.1
    have ne : cs.length ≠ 0 := fun z => by
      have z2 : cs = [] := List.length_eq_zero_iff.mp z
      have t2 := t.2.2
      rw [z2] at t2
      have t2 : (some ([] : List Bool)) = some [decide (i = 1)] := t2
      exact absurd (Option.some.inj t2) (by simp)
    refine ⟨b, cs, rfl, ⟨⟨by rw [g.2.1]; omega, by rw [g.2.2.1]; omega, by rw [g.2.1, g.2.2.1]; omega⟩, ?_⟩, by rw [g.2.2.1]; omega⟩
    rw [o_code hk h hi q]
    exact t.2.2
theorem o_ring (hk : d_ok n s D) (h : o_ok D o) : z_ring o 1 := by
  have hn := o_net hk h
  have NL := o_NL h
  intro x hx
  rw [NL.1] at hx
  have N10 := hk.1
  have x10 : x < 10 := by omega
  have dg := (o_dg hk h x10).1
  have v : ∀ i, i < (d_rg D x).length → o (1 + 18 + (z_st o x : Int) + (i : Int)) = ((d_rg D x).getD i 0 : Int) := fun i hi => by
    have f := d_fl_at x10 hi
    rw [o_st h (by omega), show (1 : Int) + 18 + ((d_fl D x).length : Int) + (i : Int) = 19 + (((d_fl D x).length + i : Nat) : Int) by omega, h.2.2.2.2.2.2.2.2.2 _ f.1, f.2]
  have ri : ∀ i, i < (d_rg D x).length → z_ri o 1 x i = (d_rg D x).getD i 0 := fun i hi => by
    unfold z_ri
    rw [v i hi]
    exact Int.toNat_natCast _
  have ab : ∀ l, l < d_L D → z_a o l = (d_k D l).1 ∧ z_b o l = (d_k D l).2.1 := fun l hl => by
    have a7 := h.2.2.2.2.2.2.1 l hl
    unfold z_a z_b
    rw [a7.1, a7.2.1]
    exact ⟨Int.toNat_natCast _, Int.toNat_natCast _⟩
  have nd := d_rg_nd0 hk (m := x) 16
  rw [dg]
  refine ⟨fun i hi => ?_, fun i j hi hj e => ?_, fun l hl e => ?_⟩
  · have on := (d_rg_on hk (m := x)).mp (l_getD_mem hi)
    have lt := d_on_lt on
    rw [v i hi, ri i hi, NL.2]
    refine ⟨by omega, lt, ?_⟩
    rw [(ab _ lt).1, (ab _ lt).2]
    exact (d_on_w lt).mp on
  · rw [ri i hi, ri j hj] at e
    exact l_nd_i nd hi hj e
  · rw [NL.2] at hl
    rw [(ab l hl).1, (ab l hl).2] at e
    obtain ⟨i, hi, q⟩ := l_mem_getD ((d_rg_on hk (m := x)).mpr ((d_on_w hl).mpr e))
    exact ⟨i, hi, by rw [ri i hi, q]⟩
theorem o_E (hn : n ≤ 900) (hw : 0 ≤ d_w D ∧ d_w D ≤ 9) (hk : d_ok n s D) (h : o_ok D o) : z_E o := by
  have NL := o_NL h
  refine ⟨o_net hk h, ⟨fun e => ?_, fun e => ?_⟩, fun l hl => ?_, by rw [h.2.1]; exact hw, ?_, o_ring hk h⟩
  · obtain ⟨b, cs, q, r, _⟩ := o_lawok hn hk h (i := 0) (by decide) e
    exact r
  · obtain ⟨b, cs, q, r, _⟩ := o_lawok hn hk h (i := 1) (by decide) e
    exact r
  · rw [NL.2] at hl
    rw [(h.2.2.2.2.2.2.1 l hl).2.2]
    exact (hk.2.2.1 l hl).2.2.2
  · rw [h.2.2.1]
    exact ⟨Int.le_refl 0, Int.natCast_pos.mpr (Nat.two_pow_pos _)⟩
theorem o_lw (hn : n ≤ 900) (hk : d_ok n s D) (h : o_ok D o) {M : q_Mem} {x : Int} {i : Nat} (hi : i < 2) (hl : z_lr M x (d_cs D i)) : z_lw M x o i := by
  by_cases e : o (96 + (i : Int)) = 1
  · obtain ⟨b, cs, q, r, p⟩ := o_lawok hn hk h hi e
    have c : d_cs D i = cs := by
      unfold d_cs
      rw [q]
    rw [c] at hl
    exact Or.inl ⟨e, by rw [o_code hk h hi q]; exact hl, p⟩
  · refine Or.inr ⟨e, ?_⟩
    have c : d_cs D i = [] := by
      unfold d_cs
      cases q : d_l D i with
      | none => rfl
      | some y =>
        obtain ⟨b, cs⟩ := y
        exact absurd ((h.2.2.2.2.2.2.2.1 i hi).2 b cs q).1 e
    rw [c] at hl
    exact hl.1
theorem o_pl (hn : n ≤ 900) (hk : d_ok n s D) (h : o_ok D o) {M : q_Mem} {p : Int} (hc : c_D p D M) : z_pl M p o := by
  have NL := o_NL h
  obtain ⟨b0, b1, b2, b3, b4, b5, b6, b7, b8, b9⟩ := hc
  refine ⟨c_kp b0, by rw [b1, h.2.2.2.1], by rw [b2, h.2.2.2.2.1], by rw [b3, h.1], fun l hl => ?_, fun x hx => ?_, o_lw hn hk h (by decide) b8, o_lw hn hk h (by decide) b9⟩
  · rw [NL.2] at hl
    rw [(b5 l hl).1, (b5 l hl).2.1, (h.2.2.2.2.2.2.1 l hl).1, (h.2.2.2.2.2.2.1 l hl).2.1]
    exact ⟨rfl, rfl⟩
  · rw [NL.1] at hx
    have := hk.1
    rw [b6 x (by omega), (o_dg hk h (show x < 10 by omega)).2]
end OOK
