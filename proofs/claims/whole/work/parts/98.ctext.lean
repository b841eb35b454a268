-- the class reads a law, lines, a text
def c_fl (x : Int) (M M' : q_Mem) : Prop := (∀ a, a ≠ 33 → a ≠ x → a ≠ x + 1 → M' a = M a) ∧ ∀ k, k ≠ 0 → k ≠ 1 → k ≠ 4 → k ≠ 5 → k ≠ 6 → k ≠ 7 → k ≠ 9 → M' 33 k = M 33 k
theorem c_fl_tr {x : Int} {M M' M'' : q_Mem} (h : c_fl x M M') (h2 : c_fl x M' M'') : c_fl x M M'' := ⟨fun a g g2 g3 => (h2.1 a g g2 g3).trans (h.1 a g g2 g3), fun k a b c d e f g => (h2.2 k a b c d e f g).trans (h.2 k a b c d e f g)⟩
theorem c_fl_0 {x : Int} {M M' : q_Mem} (h : g_f0 M M') : c_fl x M M' := ⟨fun a g _ _ => h.1 a g, fun k a b c d e f _ => h.2 k a b c d e f⟩
theorem c_fl_r {x : Int} {M M' : q_Mem} (h : c_fr x M M') : c_fl x M M' := ⟨h.1, fun k a b c d e f _ => h.2.1 k a b c d e f⟩
theorem g_fp_l {p x : Int} (hx : p ≤ x ∧ x + 1 ≤ p + 14) {M M' : q_Mem} (h : c_fl x M M') : g_fp p M M' := ⟨fun a g g2 => h.1 a g (by omega) (by omega), h.2⟩
theorem c_a0_9 {bt : Nat → Int} {n : Nat} {s : p_S} {M M' : q_Mem} (h : c_a0 bt n s M) (e : ∀ k, k ≠ 9 → M' 33 k = M 33 k) (e2 : M' 2 = M 2) : c_a0 bt n s M' := by
  unfold c_a0 z_rd z_ctk at *
  rw [e 0 (by decide), e 1 (by decide), e 2 (by decide), e 3 (by decide), e 4 (by decide), e 5 (by decide), e 6 (by decide), e 7 (by decide), e2]
  exact h
theorem c_clear {d : Nat} {M : q_Mem} {K : q_Mem → Prop} {x : Int} (hd : 0 < d) (kx : q_kd x = 2) (h : ∀ M', M' = q_up M x 0 0 → K M') : q_kU yX2_clear mX2_clear d [qR x] M K :=
  q_goU hd rfl (plainFor_of_name (by decide +kernel)) rfl (fun h => nomatch h) (Nat.le_of_ble_eq_true rfl) (fun d hd => bX2_clear_0 _ kx h)
theorem cq_start {d : Nat} {M : q_Mem} {K : Int → q_Mem → Prop} {bt : Nat → Int} {n : Nat} {x : Int} {s : p_S} (hd : 7 < d) (kx : q_kd x = 2) (hs : c_a0 bt n s M) (hw : s.2.1 = 0) (hcs : s.2.2.2 = []) (h1 : ∀ M', c_fl x M M' → p_want (z_tks bt n) 31 (p_go s) = p_go (p_go s) → c_at bt n x (p_go (p_go s)) M' → K 1 M') (h0 : ∀ M', c_fl x M M' → c_bad (p_want (z_tks bt n) 31 (p_go s)) M' → K 0 M') : q_kI yX5_startLaw mX5_startLaw d [qR 33, qR x] M K := by
  have kk := c_kx kx
  refine q_goI hd rfl (plainFor_of_name (by decide +kernel)) rfl (fun h => nomatch h) (Nat.le_of_ble_eq_true rfl) (fun d hd => bX5_startLaw_0 _ kx (c0_adv (by omega) hs (fun M1 f1 r1 M2 e2 => ?_)))
  have e9 : M2 33 9 = x := by rw [e2, q_up_s]
  rw [e9]
  refine ⟨kx, c_clear (by omega) kx (fun M4 e4 => ?_)⟩
  have r4 : c_a0 bt n (p_go s) M4 := c_a0_9 r1 (fun k hk => by rw [e4, q_up_o (by omega), e2, q_up_n hk]) (by rw [e4, q_up_o (by omega), e2, q_up_o (by decide)])
  have f4 : c_fl x M M4 := c_fl_tr (c_fl_0 f1) ⟨fun a g g2 _ => by rw [e4, q_up_o g2, e2, q_up_o g], fun k _ _ _ _ _ _ hk => by rw [e4, q_up_o (by omega), e2, q_up_n hk]⟩
  refine c0_takeSign (by omega) r4 hw (j := 1) (k := 31) (by decide) (by decide +kernel) rfl (fun M5 f5 eg r5 => ⟨Or.inr rfl, h1 M5 (c_fl_tr f4 (c_fl_0 f5)) eg ⟨r5.1, r5.2.1, ?_, kx, ?_, ?_, r5.2.2⟩⟩) (fun M5 f5 r5 => ⟨Or.inl rfl, h0 M5 (c_fl_tr f4 (c_fl_0 f5)) r5⟩)
  · rw [f5.2 9 (by decide) (by decide) (by decide) (by decide) (by decide) (by decide), e4, q_up_o (by omega)]
    exact e9
  · rw [f5.1 x kk.1, e4, q_up_s]
    show 0 = ((s.2.2.2.length : Nat) : Int)
    rw [hcs]
    rfl
  · intro k hk
    have hk : k < s.2.2.2.length := hk
    rw [hcs] at hk
    exact absurd hk (Nat.not_lt_zero k)
theorem c_D_setl {p x : Int} {D : p_D} {M M' : q_Mem} {i : Nat} {cs : List Int} (hx : (i = 0 ∧ x = p + 7) ∨ (i = 1 ∧ x = p + 11)) (h : c_D p D M) (f : c_fl x M M') (hl : z_lr M' x cs) : c_D p (d_setl D i cs) M' := by
  obtain ⟨b0, b1, b2, b3, b4, b5, b6, b7, b8, b9⟩ := h
  have o : ∀ a, p ≤ a → a ≤ p + 14 → a ≠ x → a ≠ x + 1 → M' a = M a := fun a g g2 g3 g4 => f.1 a (by omega) g3 g4
  have cs0 : ∀ j, j ≠ i → d_cs (d_setl D i cs) j = d_cs D j := fun j hj => by
    unfold d_cs
    show (match (if j = i then some (d_t D, cs) else d_l D j) with
      | some (_, cs) => cs
      | none => []) = _
    rw [if_neg hj]
    rfl
  have cs1 : d_cs (d_setl D i cs) i = cs := by
    unfold d_cs
    show (match (if i = i then some (d_t D, cs) else d_l D i) with
      | some (_, cs) => cs
      | none => []) = _
    rw [if_pos rfl]
  refine ⟨b0, by rw [o p (by omega) (by omega) (by omega) (by omega)]; exact b1, by rw [o p (by omega) (by omega) (by omega) (by omega)]; exact b2, by rw [o p (by omega) (by omega) (by omega) (by omega)]; exact b3, by rw [o p (by omega) (by omega) (by omega) (by omega)]; exact b4, by rw [o (p + 1) (by omega) (by omega) (by omega) (by omega), o (p + 2) (by omega) (by omega) (by omega) (by omega), o (p + 3) (by omega) (by omega) (by omega) (by omega)]; exact b5, by rw [o (p + 4) (by omega) (by omega) (by omega) (by omega)]; exact b6, by rw [o (p + 6) (by omega) (by omega) (by omega) (by omega), o (p + 5) (by omega) (by omega) (by omega) (by omega)]; exact b7, ?_, ?_⟩
  · rcases hx with ⟨e1, e2⟩ | ⟨e1, e2⟩
    · subst e1; subst e2
      rw [cs1]; exact hl
    · subst e1; subst e2
      rw [cs0 0 (by decide)]
      unfold z_lr
      rw [o (p + 7) (by omega) (by omega) (by omega) (by omega), o (p + 7 + 1) (by omega) (by omega) (by omega) (by omega)]
      exact b8
  · rcases hx with ⟨e1, e2⟩ | ⟨e1, e2⟩
    · subst e1; subst e2
      rw [cs0 1 (by decide)]
      unfold z_lr
      rw [o (p + 11) (by omega) (by omega) (by omega) (by omega), o (p + 11 + 1) (by omega) (by omega) (by omega) (by omega)]
      exact b9
    · subst e1; subst e2
      rw [cs1]; exact hl
theorem cq_line {d : Nat} {M : q_Mem} {K : Int → q_Mem → Prop} {bt : Nat → Int} {n F : Nat} {p : Int} {s : p_S} {D : p_D} (hd : 63 < d) (hF : n < F) (hs : c_q bt n p (s, D) M) (hw : s.2.1 = 0) (hlt : s.1 < n) (hok : d_ok n s D) (h1 : ∀ M', g_fp p M M' → (q_line (z_tks bt n) F s D).1.2.1 = 0 → c_q bt n p (q_line (z_tks bt n) F s D) M' → K 1 M') (h0 : ∀ M', g_fp p M M' → c_bad (q_line (z_tks bt n) F s D).1 M' → K 0 M') : q_kI yX5_readLine mX5_readLine d [qR 33] M K := by
  have a0 : c_a0 bt n s M := hs.1
  have e8 : M 33 8 = p := hs.2.1
  have cD : c_D p D M := hs.2.2
  have hp := cD.1
  have kp := c_kp hp
  have lay := z_k4 kp
  have kw := z_k4w kp
  have N10 := hok.1
  have L16 := hok.2.1
  have hcs := hok.2.2.2.2.2.2.2
  have lv := c_lv (bt := bt) (n := n) (F := F) (x := p + 7) hF 6 0 (by decide)
  have lv1 := c_lv (bt := bt) (n := n) (F := F) (x := p + 11) hF 6 0 (by decide)
  have pok := p_lv_ok (n := n) (F := F) (z_tks_lt (bt := bt)) 6
  unfold q_line at h1 h0
  refine q_goI hd rfl (plainFor_of_name (by decide +kernel)) rfl (fun h => nomatch h) (Nat.le_of_ble_eq_true rfl) (fun d hd => bX5_readLine_0 (c0_isWord (by omega) a0 (by decide) (k := 2) rfl (fun k => ⟨fun q => absurd q (by decide), fun _ => ?_⟩) (fun k => ⟨fun _ => c0_isWord (by omega) a0 (by decide) (k := 3) rfl (fun k3 => ⟨fun q => absurd q (by decide), fun _ => ?_⟩) (fun k3 => ⟨fun _ => c0_isWord (by omega) a0 (by decide) (k := 6) rfl (fun k6 => ⟨fun q => absurd q (by decide), fun _ => ?_⟩) (fun k6 => ⟨fun _ => c0_isWord (by omega) a0 (by decide) (k := 7) rfl (fun k7 => ⟨fun q => absurd q (by decide), fun _ => ?_⟩) (fun k7 => ⟨fun _ => c0_isWord (by omega) a0 (by decide) (k := 8) rfl (fun k8 => ⟨fun q => absurd q (by decide), fun _ => ?_⟩) (fun k8 => ⟨fun _ => c0_ref (by omega) a0 hw (by decide) (fun M' f r => ⟨Or.inl rfl, h0 M' (g_fp_0 f) ?_⟩), fun q => absurd rfl q⟩), fun q => absurd rfl q⟩), fun q => absurd rfl q⟩), fun q => absurd rfl q⟩), fun q => absurd rfl q⟩)))
  · rw [if_pos k] at h1 h0
    exact cq_node (by omega) hs hw N10 (fun M' f w r => ⟨Or.inr rfl, h1 M' f w r⟩) (fun M' f r => ⟨Or.inl rfl, h0 M' f r⟩)
  · rw [if_neg k, if_pos k3] at h1 h0
    exact cq_link (by omega) hs hw N10 L16 (fun M' f w r => ⟨Or.inr rfl, h1 M' f w r⟩) (fun M' f r => ⟨Or.inl rfl, h0 M' f r⟩)
  · rw [if_neg k, if_neg k3, if_pos k6] at h1 h0
    exact cq_round (by omega) hF hs hw hlt hok (fun M' f w r => ⟨Or.inr rfl, h1 M' f w r⟩) (fun M' f r => ⟨Or.inl rfl, h0 M' f r⟩)
  · rw [if_neg k, if_neg k3, if_neg k6, if_pos k7] at h1 h0
    unfold q_law q_lsp at h1 h0
    rw [if_pos rfl] at h1 h0
    rw [e8, lay.2.2.2.2.2.2.1]
    refine ⟨kp, cq_start (by omega) kw.1 a0 hw hcs (fun M1 f1 eg r1 => ⟨fun q => absurd q (by decide), fun _ => ?_⟩) (fun M1 f1 r1 => ⟨fun _ => h0 M1 (g_fp_l (by omega) f1) ?_, fun q => absurd rfl q⟩)⟩
    · rw [eg] at h1 h0
      have t1 : s.1 + 1 < n := (p_want_0 (n := n) z_tks_lt (by decide) (show (p_want (z_tks bt n) 31 (p_go s)).2.1 = 0 by rw [eg]; exact hw)).2.2.2
      have bd : p_bd 0 n (p_go (p_go s)) := ⟨by show 0 + s.2.2.2.length + 2 ≤ s.1 + 1 + 1; rw [hcs]; show 0 + 0 + 2 ≤ s.1 + 1 + 1; omega, t1⟩
      refine lv.1 (by omega) r1 hw bd (fun M2 f2 w2 r2 => ⟨fun q => absurd q (by decide), fun _ => ?_⟩) (fun M2 f2 r2 => ⟨fun _ => h0 M2 (g_fp_l (x := p + 7) (by omega) (c_fl_tr f1 (c_fl_r f2))) r2, fun q => absurd rfl q⟩)
      rw [if_pos w2] at h1
      have F2 := c_fl_tr f1 (c_fl_r f2)
      refine h1 M2 (g_fp_l (by omega) F2) w2 ⟨⟨r2.1, r2.2.1, r2.2.2.2.2.2.2⟩, by rw [F2.2 8 (by decide) (by decide) (by decide) (by decide) (by decide) (by decide) (by decide)]; exact e8, c_D_setl (Or.inl ⟨rfl, rfl⟩) cD F2 ⟨r2.2.2.2.2.1, r2.2.2.2.2.2.1⟩⟩
    · have := pok.1.1 _ r1.1
      unfold c_bad
      show ¬ ((p_lv (z_tks bt n) F 6).1 (p_want (z_tks bt n) 31 (p_go s))).2.1 = 0 ∧ _ = ((p_lv (z_tks bt n) F 6).1 (p_want (z_tks bt n) 31 (p_go s))).2.1 ∧ _ = ((p_lv (z_tks bt n) F 6).1 (p_want (z_tks bt n) 31 (p_go s))).2.2.1
      rw [this]
      exact r1
  · rw [if_neg k, if_neg k3, if_neg k6, if_neg k7, if_pos k8] at h1 h0
    unfold q_law q_lsp at h1 h0
    rw [if_neg (show ¬ (1 = 0) by decide)] at h1 h0
    rw [e8, lay.2.2.2.2.2.2.2.1]
    refine ⟨kp, cq_start (by omega) kw.2 a0 hw hcs (fun M1 f1 eg r1 => ⟨fun q => absurd q (by decide), fun _ => ?_⟩) (fun M1 f1 r1 => ⟨fun _ => h0 M1 (g_fp_l (by omega) f1) ?_, fun q => absurd rfl q⟩)⟩
    · rw [eg] at h1 h0
      have t1 : s.1 + 1 < n := (p_want_0 (n := n) z_tks_lt (by decide) (show (p_want (z_tks bt n) 31 (p_go s)).2.1 = 0 by rw [eg]; exact hw)).2.2.2
      have bd : p_bd 0 n (p_go (p_go s)) := ⟨by show 0 + s.2.2.2.length + 2 ≤ s.1 + 1 + 1; rw [hcs]; show 0 + 0 + 2 ≤ s.1 + 1 + 1; omega, t1⟩
      refine lv1.2.1 (by omega) r1 hw bd (fun M2 f2 w2 r2 => ⟨fun q => absurd q (by decide), fun _ => ?_⟩) (fun M2 f2 r2 => ⟨fun _ => h0 M2 (g_fp_l (x := p + 11) (by omega) (c_fl_tr f1 (c_fl_r f2))) r2, fun q => absurd rfl q⟩)
      rw [if_pos w2] at h1
      have F2 := c_fl_tr f1 (c_fl_r f2)
      refine h1 M2 (g_fp_l (by omega) F2) w2 ⟨⟨r2.1, r2.2.1, r2.2.2.2.2.2.2⟩, by rw [F2.2 8 (by decide) (by decide) (by decide) (by decide) (by decide) (by decide) (by decide)]; exact e8, c_D_setl (Or.inr ⟨rfl, rfl⟩) cD F2 ⟨r2.2.2.2.2.1, r2.2.2.2.2.2.1⟩⟩
    · have := pok.2.1.1 _ r1.1
      unfold c_bad
      show ¬ ((p_lv (z_tks bt n) F 6).2.1 (p_want (z_tks bt n) 31 (p_go s))).2.1 = 0 ∧ _ = ((p_lv (z_tks bt n) F 6).2.1 (p_want (z_tks bt n) 31 (p_go s))).2.1 ∧ _ = ((p_lv (z_tks bt n) F 6).2.1 (p_want (z_tks bt n) 31 (p_go s))).2.2.1
      rw [this]
      exact r1
  · rw [if_neg k, if_neg k3, if_neg k6, if_neg k7, if_neg k8]
    exact r
theorem q_lines_bad {tk : p_T} {F : Nat} : ∀ {f : Nat} {Q : p_Q}, ¬ Q.1.2.1 = 0 → q_lines tk F f Q = Q
  | 0, _, _ => rfl
  | f + 1, Q, h => by
    unfold q_lines
    rw [if_neg (fun q => h q.1)]
theorem p_want_w {tk : p_T} {k : Int} {s : p_S} (h : ¬ s.2.1 = 0) : p_want tk k s = s := by
  unfold p_want
  rw [if_neg (by rw [p_is_w h]; decide), p_fail_w h]
theorem c_D_line {p : Int} {D : p_D} {M M' : q_Mem} (h : c_D p D M) (e : M' = q_up M p 2 (q_add (M p 2) 1)) : c_D p (d_line D) M' := by
  obtain ⟨b0, b1, b2, b3, b4, b5, b6, b7, b8, b9⟩ := h
  have o : ∀ a, a ≠ p → M' a = M a := fun a g => by rw [e, q_up_o g]
  refine ⟨b0, by rw [e, q_up_n (by decide)]; exact b1, by rw [e, q_up_n (by decide)]; exact b2, by rw [e, q_up_s, b3]; rfl, by rw [e, q_up_n (by decide)]; exact b4, by rw [o (p + 1) (by omega), o (p + 2) (by omega), o (p + 3) (by omega)]; exact b5, by rw [o (p + 4) (by omega)]; exact b6, by rw [o (p + 6) (by omega), o (p + 5) (by omega)]; exact b7, ?_, ?_⟩
  · unfold z_lr; rw [o (p + 7) (by omega), o (p + 7 + 1) (by omega)]; exact b8
  · unfold z_lr; rw [o (p + 11) (by omega), o (p + 11 + 1) (by omega)]; exact b9
theorem l_ct58 {bt : Nat → Int} {n d F : Nat} {p : Int} {M0 : q_Mem} {K : Int → q_Mem → Prop} (hd : 64 ≤ d) (hF : n < F) :
    ∀ (f : Nat) (Q : p_Q) (M : q_Mem) (i : Nat), Q.1.2.1 = 0 → d_ok n Q.1 Q.2 → n < f + Q.1.1 → i < Q.1.1 → c_q bt n p Q M → g_fp p M0 M → (∀ M', g_fp p M0 M' → (q_lines (z_tks bt n) F f Q).1.2.1 = 0 → c_q bt n p (q_lines (z_tks bt n) F f Q) M' → K 1 M') → (∀ M', g_fp p M0 M' → c_bad (q_lines (z_tks bt n) F f Q).1 M' → K 0 M') → q_v mX5_readText d (qPI K) M 58 [some (qR 33), none, none, none, some (qI (i : Int))] []
  | 0, Q, M, i, hw, hok, hn, hi, hs, f0, h1, h0 => by have := hok.2.2.2.2.2.2.1; omega
  | f + 1, Q, M, i, hw, hok, hn, hi, hs, f0, h1, h0 => by
    have tn := hok.2.2.2.2.2.2.1
    have a0 : c_a0 bt n Q.1 M := hs.1
    have n9 := a0.1.2.2.1
    have s6 := c_s6 a0.2.1
    unfold q_lines at h1 h0
    refine bX5_readText_58 _ ?_
    rw [a0.1.2.1]
    refine ⟨fun q => absurd q (by omega), fun _ => ⟨fun g => ?_, fun g => ?_⟩⟩
    · rw [if_neg (fun q => q.2 (s6.2.2.1.mp g))] at h1
      exact h1 M f0 hw hs
    · have k21 : (z_tks bt n Q.1.1).1 ≠ 21 := fun q => g (s6.2.2.1.mpr q)
      have lt := z_tks_lt (bt := bt) (n := n) _ k21
      rw [if_pos ⟨hw, k21⟩] at h1 h0
      have ok1 := q_line_ok (F := F) (z_tks_lt (bt := bt) (n := n)) z_tks_num lt hw hok
      have ok := q_close_ok (z_tks_lt (bt := bt) (n := n)) ok1
      refine cq_line (by omega) hF hs hw lt hok (fun M1 f1 w1 r1 => ⟨fun q => absurd q (by decide), fun _ => ?_⟩) (fun M1 f1 r1 => ⟨fun _ => h0 M1 (g_fp_tr f0 f1) ?_, fun q => absurd rfl q⟩)
      · refine c0_takeSign (by omega) r1.1 w1 (j := 0) (k := 30) (by decide) (by decide +kernel) rfl (fun M2 f2 eg r2 => ⟨fun _ => ?_, fun q => absurd q (by decide)⟩) (fun M2 f2 r2 => ⟨fun q => absurd rfl q, fun _ => h0 M2 (g_fp_tr f0 (g_fp_tr f1 (g_fp_0 f2))) ?_⟩)
        · have hs2 : c_q bt n p (p_go (q_line (z_tks bt n) F Q.1 Q.2).1, (q_line (z_tks bt n) F Q.1 Q.2).2) M2 := c_q_f (s := (q_line (z_tks bt n) F Q.1 Q.2).1) (D := (q_line (z_tks bt n) F Q.1 Q.2).2) r1 f2 r2
          have cD2 : c_D p (q_line (z_tks bt n) F Q.1 Q.2).2 M2 := hs2.2.2
          rw [show M2 33 8 = p from hs2.2.1]
          refine ⟨c_kp cD2.1, fun M3 e3 => ?_⟩
          have hp := cD2.1
          have o : ∀ a, ¬ (p ≤ a ∧ a ≤ p + 14) → M3 a = M2 a := fun a g => by rw [e3, q_up_o (by omega)]
          have ec : q_close (z_tks bt n) (q_line (z_tks bt n) F Q.1 Q.2) = (p_go (q_line (z_tks bt n) F Q.1 Q.2).1, d_line (q_line (z_tks bt n) F Q.1 Q.2).2) := by
            unfold q_close
            rw [eg]
          rw [ec] at h1 h0 ok
          have okk := ok w1
          have := l_ct58 (d := d) (M0 := M0) (K := K) hd hF f (p_go (q_line (z_tks bt n) F Q.1 Q.2).1, d_line (q_line (z_tks bt n) F Q.1 Q.2).2) M3 (i + 1) w1 okk.1 (by have := okk.2; omega) (by have := okk.2; omega) ⟨c_a0_p hp r2 o, by rw [o 33 (by omega)]; exact hs2.2.1, c_D_line cD2 e3⟩ (g_fp_tr f0 (g_fp_tr f1 (g_fp_tr (g_fp_0 f2) (g_fp_p hp o)))) h1 h0
          rw [q_add_eq (by omega), show (i : Int) + 1 = ((i + 1 : Nat) : Int) by omega]
          exact this
        · rw [q_lines_bad (Q := q_close (z_tks bt n) (q_line (z_tks bt n) F Q.1 Q.2)) r2.1]
          exact r2
      · have e : (q_close (z_tks bt n) (q_line (z_tks bt n) F Q.1 Q.2)).1 = (q_line (z_tks bt n) F Q.1 Q.2).1 := p_want_w r1.1
        rw [q_lines_bad (Q := q_close (z_tks bt n) (q_line (z_tks bt n) F Q.1 Q.2)) (by rw [e]; exact r1.1), e]
        exact r1
theorem cq_head {d : Nat} {M : q_Mem} {K : Int → q_Mem → Prop} {bt : Nat → Int} {n : Nat} {p : Int} (hd : 7 < d) (hs : c_q bt n p (p_s0, d_0) M) (h1 : ∀ M', g_fp p M M' → (q_head (z_tks bt n)).1.2.1 = 0 → c_q bt n p (q_head (z_tks bt n)) M' → K 1 M') (h0 : ∀ M', g_fp p M M' → c_bad (q_head (z_tks bt n)).1 M' → K 0 M') : q_kI yX5_readHead mX5_readHead d [qR 33] M K := by
  have cD : c_D p d_0 M := hs.2.2
  have hp := cD.1
  have kp := c_kp hp
  have eh : (q_head (z_tks bt n)).1 = p_want (z_tks bt n) 30 (p_take (z_tks bt n) 9 (p_want (z_tks bt n) 1 (p_want (z_tks bt n) 0 p_s0))) := rfl
  have ed : (q_head (z_tks bt n)).2 = d_line (d_setw d_0 (z_tks bt n (p_want (z_tks bt n) 1 (p_want (z_tks bt n) 0 p_s0)).1).2.2) := rfl
  refine q_goI hd rfl (plainFor_of_name (by decide +kernel)) rfl (fun h => nomatch h) (Nat.le_of_ble_eq_true rfl) (fun d hd => bX5_readHead_0 (c0_takeWord (by omega) hs.1 rfl (by decide) (k := 0) rfl (fun M1 f1 g1 r1 => ⟨fun q => absurd q (by decide), fun _ => ?_⟩) (fun M1 f1 r1 => ⟨fun _ => h0 M1 (g_fp_0 f1) (by rw [eh, p_want_w (k := 1) r1.1, p_take_w r1.1, p_want_w r1.1]; exact r1), fun q => absurd rfl q⟩)))
  rw [g1] at eh ed
  refine c0_takeWord (by omega) r1 rfl (by decide) (k := 1) rfl (fun M2 f2 g2 r2 => ⟨fun _ => ?_, fun q => absurd q (by decide)⟩) (fun M2 f2 r2 => ⟨fun q => absurd rfl q, fun _ => h0 M2 (g_fp_tr (g_fp_0 f1) (g_fp_0 f2)) (by rw [eh, p_take_w r2.1, p_want_w r2.1]; exact r2)⟩)
  rw [g2] at eh ed
  refine c0_takeNum (by omega) r2 rfl (fun M3 f3 k20 l9 g3 r3 => ⟨fun q => ?_, fun _ => ?_⟩) (fun M3 f3 r3 => ⟨fun _ => h0 M3 (g_fp_tr (g_fp_0 f1) (g_fp_tr (g_fp_0 f2) (g_fp_0 f3))) (by rw [eh, p_want_w r3.1]; exact r3), fun q => absurd (by decide) q⟩)
  · have := z_tks_num _ k20
    omega
  rw [g3] at eh
  refine c0_takeSign (by omega) r3 rfl (j := 0) (k := 30) (by decide) (by decide +kernel) rfl (fun M4 f4 g4 r4 => ⟨fun _ => ?_, fun q => absurd q (by decide)⟩) (fun M4 f4 r4 => ⟨fun q => absurd rfl q, fun _ => h0 M4 (g_fp_tr (g_fp_0 f1) (g_fp_tr (g_fp_0 f2) (g_fp_tr (g_fp_0 f3) (g_fp_0 f4)))) (by rw [eh]; exact r4)⟩)
  rw [g4] at eh
  have f04 : g_f0 M M4 := g_f0_tr f1 (g_f0_tr f2 (g_f0_tr f3 f4))
  have e84 : M4 33 8 = p := by rw [f04.2 8 (by decide) (by decide) (by decide) (by decide) (by decide) (by decide)]; exact hs.2.1
  rw [e84]
  refine ⟨kp, fun M5 e5 => ?_⟩
  have e85 : M5 33 8 = p := by rw [e5, q_up_o (by omega)]; exact e84
  rw [e85]
  refine ⟨kp, fun M6 e6 => ?_⟩
  have o : ∀ a, a ≠ p → M6 a = M4 a := fun a g => by rw [e6, q_up_o g, e5, q_up_o g]
  have oo : ∀ a, ¬ (p ≤ a ∧ a ≤ p + 14) → M6 a = M4 a := fun a g => o a (by omega)
  refine h1 M6 (g_fp_tr (g_fp_0 f04) (g_fp_p hp oo)) (by rw [eh]; rfl) ⟨?_, by rw [o 33 (by omega)]; exact e84, ?_⟩
  · rw [eh]
    exact c_a0_p hp r4 oo
  · rw [ed]
    obtain ⟨b0, b1, b2, b3, b4, b5, b6, b7, b8, b9⟩ := c_D_f cD f04
    refine ⟨b0, by rw [e6, q_up_n (by decide), e5, q_up_n (by decide)]; exact b1, by rw [e6, q_up_n (by decide), e5, q_up_n (by decide)]; exact b2, by rw [e6, q_up_s]; show (1 : Int) = q_add (0 : Int) 1; decide, by rw [e6, q_up_n (by decide), e5, q_up_s]; rfl, by rw [o (p + 1) (by omega), o (p + 2) (by omega), o (p + 3) (by omega)]; exact b5, by rw [o (p + 4) (by omega)]; exact b6, by rw [o (p + 6) (by omega), o (p + 5) (by omega)]; exact b7, ?_, ?_⟩
    · unfold z_lr; rw [o (p + 7) (by omega), o (p + 7 + 1) (by omega)]; exact b8
    · unfold z_lr; rw [o (p + 11) (by omega), o (p + 11 + 1) (by omega)]; exact b9
