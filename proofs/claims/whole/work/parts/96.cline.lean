-- the class reads lines: node, link
def g_f0 (M M' : q_Mem) : Prop := (∀ a, a ≠ 33 → M' a = M a) ∧ ∀ k, k ≠ 0 → k ≠ 1 → k ≠ 4 → k ≠ 5 → k ≠ 6 → k ≠ 7 → M' 33 k = M 33 k
theorem g_f0_rf {M : q_Mem} : g_f0 M M := ⟨fun _ _ => rfl, fun _ _ _ _ _ _ _ => rfl⟩
theorem g_f0_tr {M M' M'' : q_Mem} (h : g_f0 M M') (h2 : g_f0 M' M'') : g_f0 M M'' := ⟨fun a g => (h2.1 a g).trans (h.1 a g), fun k a b c d e f => (h2.2 k a b c d e f).trans (h.2 k a b c d e f)⟩
theorem g_f0_33 {M M' : q_Mem} (h : z_f33 M M') : g_f0 M M' := ⟨h.1, fun k _ _ a b c d => h.2 k a b c d⟩
def c_a0 (bt : Nat → Int) (n : Nat) (s : p_S) (M : q_Mem) : Prop := z_rd M bt n ∧ z_ctk M bt (z_tA bt n (z_P bt n s.1)) (z_tB bt n (z_P bt n s.1)) (z_tK bt n (z_P bt n s.1)) (z_tN bt n (z_P bt n s.1)) ∧ M 33 0 = 0 ∧ M 33 1 = -1
theorem c0_isSign {d : Nat} {M : q_Mem} {K : Int → q_Mem → Prop} {bt : Nat → Int} {n j : Nat} {c k : Int} {s : p_S} (hd : 0 < d) (hs : c_a0 bt n s M) (hj : j < 12) (hc : c = (q_sb 19).getD j 0) (hk : k = 30 + (j : Int)) (h1 : (z_tks bt n s.1).1 = k → K 1 M) (h0 : ¬ (z_tks bt n s.1).1 = k → K 0 M) : q_kI yX5_isSign mX5_isSign d [qR 33, qI c] M K :=
  k_isSign hd hj hc hs.2.1 (fun g => h1 (hk ▸ g)) (fun g => h0 (hk ▸ g))
theorem c0_isWord {d : Nat} {M : q_Mem} {K : Int → q_Mem → Prop} {bt : Nat → Int} {n i : Nat} {k : Int} {s : p_S} (hd : 4 < d) (hs : c_a0 bt n s M) (hi : i < 19) (hk : k = (z_kk i : Int)) (h1 : (z_tks bt n s.1).1 = k → K 1 M) (h0 : ¬ (z_tks bt n s.1).1 = k → K 0 M) : q_kI yX5_isWord mX5_isWord d [qR 33, qR (-(i : Int) - 1)] M K :=
  k_isWord hd hs.1 hi hs.2.1 c_tn (fun g => h1 (hk ▸ g)) (fun g => h0 (hk ▸ g))
theorem c0_adv {d : Nat} {M : q_Mem} {K : q_Mem → Prop} {bt : Nat → Int} {n : Nat} {s : p_S} (hd : 5 < d) (hs : c_a0 bt n s M) (h : ∀ M', g_f0 M M' → c_a0 bt n (p_go s) M' → K M') : q_kU yX5_advance mX5_advance d [qR 33] M K := by
  refine k_advance hd hs.1 c_tn hs.2.1.2.1 (fun M' f t => h M' (g_f0_33 f) ⟨z_rd_f hs.1 f, t, ?_, ?_⟩)
  · rw [f.2 0 (by decide) (by decide) (by decide) (by decide)]; exact hs.2.2.1
  · rw [f.2 1 (by decide) (by decide) (by decide) (by decide)]; exact hs.2.2.2
theorem c0_ref {d : Nat} {M : q_Mem} {K : Int → q_Mem → Prop} {bt : Nat → Int} {n : Nat} {f : Int} {s : p_S} (hd : 0 < d) (hs : c_a0 bt n s M) (hw : s.2.1 = 0) (hf : f ≠ 0) (h : ∀ M', g_f0 M M' → c_bad (p_fail (z_tks bt n) f s) M' → K 0 M') : q_kI yX5_refuse mX5_refuse d [qR 33, qI f] M K := by
  have s6 := c_s6 hs.2.1
  have go : ∀ (v : Int) (M1 M2 : q_Mem), v ≠ 0 → M1 = q_up M 33 0 v → M2 = q_up M1 33 1 (M1 33 4) → v = (if (z_tks bt n s.1).1 = 22 then 1 else f) → K 0 M2 := by
    intro v M1 M2 v0 e1 e2 ev
    refine h M2 ⟨fun a g => by rw [e2, q_up_o g, e1, q_up_o g], fun k a b _ _ _ _ => by rw [e2, q_up_n b, e1, q_up_n a]⟩ ?_
    unfold p_fail
    rw [if_pos hw]
    refine ⟨?_, ?_, ?_⟩
    · show ¬ (if (z_tks bt n s.1).1 = 22 then (1 : Int) else f) = 0
      rw [← ev]; exact v0
    · rw [e2, q_up_n (by decide), e1, q_up_s]; exact ev
    · rw [e2, q_up_s, e1, q_up_n (by decide)]; exact hs.2.1.1
  refine q_goI hd rfl (plainFor_of_name (by decide +kernel)) rfl (fun h => nomatch h) (Nat.le_of_ble_eq_true rfl) (fun d hd => bX5_refuse_0 _ ⟨fun g M1 e1 M2 e2 => go f M1 M2 hf e1 e2 ?_, fun g M1 e1 M2 e2 => go 1 M1 M2 (by decide) e1 e2 ?_⟩)
  · rw [if_neg (show ¬ (z_tks bt n s.1).1 = 22 from fun q => g (s6.1.mpr q))]
  · rw [if_pos (show (z_tks bt n s.1).1 = 22 from s6.1.mp g)]
theorem p_want_y {tk : p_T} {k : Int} {s : p_S} (hw : s.2.1 = 0) (h : (tk s.1).1 = k) : p_want tk k s = p_go s := by
  unfold p_want
  rw [if_pos (c_is1 hw h)]
theorem p_want_n {tk : p_T} {k : Int} {s : p_S} (h : ¬ (tk s.1).1 = k) : p_want tk k s = p_fail tk 2 s := by
  unfold p_want
  rw [if_neg (by rw [c_is0 h]; decide)]
theorem c0_takeSign {d : Nat} {M : q_Mem} {K : Int → q_Mem → Prop} {bt : Nat → Int} {n j : Nat} {c k : Int} {s : p_S} (hd : 6 < d) (hs : c_a0 bt n s M) (hw : s.2.1 = 0) (hj : j < 12) (hc : c = (q_sb 19).getD j 0) (hk : k = 30 + (j : Int)) (h1 : ∀ M', g_f0 M M' → p_want (z_tks bt n) k s = p_go s → c_a0 bt n (p_go s) M' → K 1 M') (h0 : ∀ M', g_f0 M M' → c_bad (p_want (z_tks bt n) k s) M' → K 0 M') : q_kI yX5_takeSign mX5_takeSign d [qR 33, qI c] M K :=
  q_goI hd rfl (plainFor_of_name (by decide +kernel)) rfl (fun h => nomatch h) (Nat.le_of_ble_eq_true rfl) (fun d hd => bX5_takeSign_0 _ (c0_isSign (by omega) hs hj hc hk (fun g => ⟨fun _ => c0_adv (by omega) hs (fun M' f r => h1 M' f (p_want_y hw g) r), fun q => absurd q (by decide)⟩) (fun g => ⟨fun q => absurd rfl q, fun _ => c0_ref (by omega) hs hw (by decide) (fun M' f r => ⟨Or.inl rfl, h0 M' f (by rw [p_want_n g]; exact r)⟩)⟩)))
theorem c0_takeWord {d : Nat} {M : q_Mem} {K : Int → q_Mem → Prop} {bt : Nat → Int} {n i : Nat} {k : Int} {s : p_S} (hd : 6 < d) (hs : c_a0 bt n s M) (hw : s.2.1 = 0) (hi : i < 19) (hk : k = (z_kk i : Int)) (h1 : ∀ M', g_f0 M M' → p_want (z_tks bt n) k s = p_go s → c_a0 bt n (p_go s) M' → K 1 M') (h0 : ∀ M', g_f0 M M' → c_bad (p_want (z_tks bt n) k s) M' → K 0 M') : q_kI yX5_takeWord mX5_takeWord d [qR 33, qR (-(i : Int) - 1)] M K :=
  q_goI hd rfl (plainFor_of_name (by decide +kernel)) rfl (fun h => nomatch h) (Nat.le_of_ble_eq_true rfl) (fun d hd => bX5_takeWord_0 i (by omega) (c0_isWord (by omega) hs hi hk (fun g => ⟨fun _ => c0_adv (by omega) hs (fun M' f r => h1 M' f (p_want_y hw g) r), fun q => absurd q (by decide)⟩) (fun g => ⟨fun q => absurd rfl q, fun _ => c0_ref (by omega) hs hw (by decide) (fun M' f r => ⟨Or.inl rfl, h0 M' f (by rw [p_want_n g]; exact r)⟩)⟩)))
theorem c0_takeNum {d : Nat} {M : q_Mem} {K : Int → q_Mem → Prop} {bt : Nat → Int} {n : Nat} {hi : Int} {s : p_S} (hd : 6 < d) (hs : c_a0 bt n s M) (hw : s.2.1 = 0) (h1 : ∀ M', g_f0 M M' → (z_tks bt n s.1).1 = 20 → (z_tks bt n s.1).2.2 ≤ hi → p_take (z_tks bt n) hi s = p_go s → c_a0 bt n (p_go s) M' → K (z_tks bt n s.1).2.2 M') (h0 : ∀ M', g_f0 M M' → c_bad (p_take (z_tks bt n) hi s) M' → K (-1) M') : q_kI yX5_takeNumber mX5_takeNumber d [qR 33, qI hi] M K := by
  have s6 := c_s6 hs.2.1
  unfold p_take at h1 h0
  rw [if_pos hw] at h1 h0
  refine q_goI hd rfl (plainFor_of_name (by decide +kernel)) rfl (fun h => nomatch h) (Nat.le_of_ble_eq_true rfl) (fun d hd => bX5_takeNumber_0 _ ⟨fun g x2 e2 => ?_, fun g => ?_⟩)
  · have k20 : (z_tks bt n s.1).1 = 20 := s6.2.1.mp g
    have ev : x2 = (z_tks bt n s.1).2.2 := by rw [e2]; exact (s6.2.2.2 k20).1
    subst ev
    rw [if_pos k20] at h1 h0
    refine ⟨fun q => c0_adv (by omega) hs (fun M' f r => h1 M' f k20 q (by rw [if_pos q]) r), fun q => c0_ref (by omega) hs hw (by decide) (fun M' f r => h0 M' f ?_)⟩
    rw [if_neg q]
    exact r
  · have k20 : ¬ (z_tks bt n s.1).1 = 20 := fun q => g (s6.2.1.mpr q)
    rw [if_neg k20] at h0
    exact c0_ref (by omega) hs hw (by decide) (fun M' f r => h0 M' f r)
def d_dg (k : Nat → Nat × Nat × Int) (m : Nat) : Nat → Nat
  | 0 => 0
  | l + 1 => d_dg k m l + (if (k l).1 = m then 1 else 0) + (if (k l).2.1 = m then 1 else 0)
def d_cs (D : p_D) (i : Nat) : List Int := match d_l D i with
  | some (_, cs) => cs
  | none => []
def c_D (p : Int) (D : p_D) (M : q_Mem) : Prop := (p = 3 ∨ p = 18) ∧ M p 0 = (d_N D : Int) ∧ M p 1 = (d_L D : Int) ∧ M p 2 = d_n D ∧ M p 3 = d_w D ∧ (∀ l : Nat, l < d_L D → M (p + 1) l = ((d_k D l).1 : Int) ∧ M (p + 2) l = ((d_k D l).2.1 : Int) ∧ M (p + 3) l = (d_k D l).2.2) ∧ (∀ m : Nat, m < 10 → M (p + 4) m = (d_dg (d_k D) m (d_L D) : Int)) ∧ (∀ m : Nat, m < 10 → M (p + 6) m = ((d_r D m).length : Int) ∧ ∀ i : Nat, i < (d_r D m).length → M (p + 5) (16 * (m : Int) + (i : Int)) = ((d_r D m).getD i 0 : Int)) ∧ z_lr M (p + 7) (d_cs D 0) ∧ z_lr M (p + 11) (d_cs D 1)
theorem c_D_eq {p : Int} {D : p_D} {M M' : q_Mem} (h : c_D p D M) (e : ∀ a, p ≤ a → a ≤ p + 14 → M' a = M a) : c_D p D M' := by
  unfold c_D z_lr at *
  rw [e p (by omega) (by omega), e (p + 1) (by omega) (by omega), e (p + 2) (by omega) (by omega), e (p + 3) (by omega) (by omega), e (p + 4) (by omega) (by omega), e (p + 5) (by omega) (by omega), e (p + 6) (by omega) (by omega), e (p + 7) (by omega) (by omega), e (p + 7 + 1) (by omega) (by omega), e (p + 11) (by omega) (by omega), e (p + 11 + 1) (by omega) (by omega)]
  exact h
theorem c_D_f {p : Int} {D : p_D} {M M' : q_Mem} (h : c_D p D M) (f : g_f0 M M') : c_D p D M' := c_D_eq h (fun a h1 h2 => f.1 a (by have := h.1; omega))
theorem c_kp {p : Int} (h : p = 3 ∨ p = 18) : q_kd p = 4 := by
  rcases h with e | e <;> (rw [e]; decide +kernel)
/-- what reading changes -/
def g_fp (p : Int) (M M' : q_Mem) : Prop := (∀ a, a ≠ 33 → ¬ (p ≤ a ∧ a ≤ p + 14) → M' a = M a) ∧ ∀ k, k ≠ 0 → k ≠ 1 → k ≠ 4 → k ≠ 5 → k ≠ 6 → k ≠ 7 → k ≠ 9 → M' 33 k = M 33 k
theorem g_fp_rf {p : Int} {M : q_Mem} : g_fp p M M := ⟨fun _ _ _ => rfl, fun _ _ _ _ _ _ _ _ => rfl⟩
theorem g_fp_tr {p : Int} {M M' M'' : q_Mem} (h : g_fp p M M') (h2 : g_fp p M' M'') : g_fp p M M'' := ⟨fun a g g2 => (h2.1 a g g2).trans (h.1 a g g2), fun k a b c d e f g => (h2.2 k a b c d e f g).trans (h.2 k a b c d e f g)⟩
theorem g_fp_0 {p : Int} {M M' : q_Mem} (h : g_f0 M M') : g_fp p M M' := ⟨fun a g _ => h.1 a g, fun k a b c d e f _ => h.2 k a b c d e f⟩
theorem g_fp_p {p : Int} (hp : p = 3 ∨ p = 18) {M M' : q_Mem} (h : ∀ a, ¬ (p ≤ a ∧ a ≤ p + 14) → M' a = M a) : g_fp p M M' := ⟨fun a _ g => h a g, fun k _ _ _ _ _ _ _ => by rw [h 33 (by omega)]⟩
theorem c_a0_p {bt : Nat → Int} {n : Nat} {s : p_S} {p : Int} (hp : p = 3 ∨ p = 18) {M M' : q_Mem} (h : c_a0 bt n s M) (e : ∀ a, ¬ (p ≤ a ∧ a ≤ p + 14) → M' a = M a) : c_a0 bt n s M' := by
  unfold c_a0 z_rd z_ctk at *
  rw [e 33 (by omega), e 2 (by omega)]
  exact h
def c_q (bt : Nat → Int) (n : Nat) (p : Int) (Q : p_Q) (M : q_Mem) : Prop := c_a0 bt n Q.1 M ∧ M 33 8 = p ∧ c_D p Q.2 M
theorem c_q_f {bt : Nat → Int} {n : Nat} {p : Int} {s s' : p_S} {D : p_D} {M M' : q_Mem} (h : c_q bt n p (s, D) M) (f : g_f0 M M') (r : c_a0 bt n s' M') : c_q bt n p (s', D) M' := ⟨r, by rw [f.2 8 (by decide) (by decide) (by decide) (by decide) (by decide) (by decide)]; exact h.2.1, c_D_f h.2.2 f⟩
theorem cq_node {d : Nat} {M : q_Mem} {K : Int → q_Mem → Prop} {bt : Nat → Int} {n : Nat} {p : Int} {s : p_S} {D : p_D} (hd : 6 < d) (hs : c_q bt n p (s, D) M) (hw : s.2.1 = 0) (hN : d_N D ≤ 10) (h1 : ∀ M', g_fp p M M' → (q_node (z_tks bt n) s D).1.2.1 = 0 → c_q bt n p (q_node (z_tks bt n) s D) M' → K 1 M') (h0 : ∀ M', g_fp p M M' → c_bad (q_node (z_tks bt n) s D).1 M' → K 0 M') : q_kI yX5_readNode mX5_readNode d [qR 33] M K := by
  obtain ⟨a0, e8, cD⟩ := hs
  have kp := c_kp cD.1
  have a0 : c_a0 bt n s M := a0
  have cD : c_D p D M := cD
  unfold q_node at h1 h0
  refine q_goI hd rfl (plainFor_of_name (by decide +kernel)) rfl (fun h => nomatch h) (Nat.le_of_ble_eq_true rfl) (fun d hd => bX5_readNode_0 ?_)
  rw [e8, cD.2.1]
  refine ⟨kp, fun g M2 e2 => ?_, fun g => c0_ref (by omega) a0 hw (by decide) (fun M' f r => ⟨Or.inl rfl, h0 M' (g_fp_0 f) (by rw [if_pos (by omega)]; exact r)⟩)⟩
  rw [if_neg (by omega)] at h1
  rw [q_add_eq (by omega)] at e2
  have o : ∀ a, a ≠ p → M2 a = M a := fun a g => by rw [e2, q_up_o g]
  have hp := cD.1
  refine c0_adv (by omega) (c_a0_p hp a0 (fun a g => o a (by omega))) (fun M' f r => h1 M' (g_fp_tr (g_fp_p hp (fun a g => o a (by omega))) (g_fp_0 f)) hw ?_)
  have cD2 : c_D p (d_addn D) M2 := by
    obtain ⟨b0, b1, b2, b3, b4, b5, b6, b7, b8, b9⟩ := cD
    refine ⟨b0, by rw [e2, q_up_s]; rfl, by rw [e2, q_up_n (by decide)]; exact b2, by rw [e2, q_up_n (by decide)]; exact b3, by rw [e2, q_up_n (by decide)]; exact b4, ?_, ?_, ?_, ?_, ?_⟩
    · rw [o (p + 1) (by omega), o (p + 2) (by omega), o (p + 3) (by omega)]; exact b5
    · rw [o (p + 4) (by omega)]; exact b6
    · rw [o (p + 6) (by omega), o (p + 5) (by omega)]; exact b7
    · unfold z_lr; rw [o (p + 7) (by omega), o (p + 7 + 1) (by omega)]; exact b8
    · unfold z_lr; rw [o (p + 11) (by omega), o (p + 11 + 1) (by omega)]; exact b9
  exact c_q_f (s := s) (D := d_addn D) ⟨c_a0_p hp a0 (fun a g => o a (by omega)), by rw [o 33 (by omega)]; exact e8, cD2⟩ f r
theorem c0_addLink {d : Nat} {M : q_Mem} {K : q_Mem → Prop} {p : Int} {D : p_D} {a b : Nat} {g : Int} (hd : 0 < d) (cD : c_D p D M) (hL : d_L D < 16) (ha : a < 10) (hb : b < 10) (hdg : ∀ m, d_dg (d_k D) m (d_L D) ≤ 1000) (h : ∀ M', (∀ x, ¬ (p ≤ x ∧ x ≤ p + 14) → M' x = M x) → c_D p (d_addl D (a, b, g)) M' → K M') : q_kU yX4_addLink mX4_addLink d [qR p, qI (a : Int), qI (b : Int), qI g] M K := by
  have hp := cD.1
  have kp := c_kp hp
  have lay := z_k4 kp
  obtain ⟨b0, b1, b2, b3, b4, b5, b6, b7, b8, b9⟩ := cD
  refine q_goU hd rfl (plainFor_of_name (by decide +kernel)) rfl (fun h => nomatch h) (Nat.le_of_ble_eq_true rfl) (fun d hd => bX4_addLink_0 _ _ _ _ kp ?_)
  rw [b2, lay.1, lay.2.1, lay.2.2.1, lay.2.2.2.1]
  refine ⟨fun q => absurd q (by omega), fun _ => ⟨by omega, fun M2 e2 => ?_⟩⟩
  rw [show M2 p 1 = (d_L D : Int) by rw [e2, q_up_o (by omega)]; exact b2]
  refine ⟨by omega, fun M4 e4 => ?_⟩
  rw [show M4 p 1 = (d_L D : Int) by rw [e4, q_up_o (by omega), e2, q_up_o (by omega)]; exact b2]
  refine ⟨by omega, fun M6 e6 => ⟨by omega, by omega, fun M9 e9 => ⟨by omega, by omega, fun M12 e12 M13 e13 => ?_⟩⟩⟩
  have d6 : M6 (p + 4) = M (p + 4) := by rw [e6, q_up_o (by omega), e4, q_up_o (by omega), e2, q_up_o (by omega)]
  have l12 : M12 p 1 = (d_L D : Int) := by rw [e12, q_up_o (by omega), e9, q_up_o (by omega), e6, q_up_o (by omega), e4, q_up_o (by omega), e2, q_up_o (by omega)]; exact b2
  rw [l12, q_add_eq (by omega)] at e13
  have da := hdg a
  have db := hdg b
  rw [d6, b6 a ha, q_add_eq (by omega)] at e9
  have d9 : M9 (p + 4) b = (d_dg (d_k D) b (d_L D) : Int) + (if a = b then 1 else 0) := by
    rw [e9]
    by_cases c : a = b
    · subst c
      rw [q_up_s, if_pos rfl]
    · rw [q_up_n (by omega), d6, b6 b hb, if_neg c, Int.add_zero]
  rw [d9, q_add_eq (by split <;> omega)] at e12
  have d13 : ∀ m : Nat, m < 10 → M13 (p + 4) m = (d_dg (d_k D) m (d_L D) : Int) + (if a = m then 1 else 0) + (if b = m then 1 else 0) := fun m hm => by
    rw [e13, q_up_o (by omega), e12]
    by_cases c : b = m
    · subst c
      rw [q_up_s, if_pos rfl]
    · rw [q_up_n (by omega), if_neg c, Int.add_zero, e9]
      by_cases c2 : a = m
      · subst c2
        rw [q_up_s, if_pos rfl]
      · rw [q_up_n (by omega), d6, b6 m hm, if_neg c2, Int.add_zero]
  have o : ∀ x, x ≠ p → x ≠ p + 1 → x ≠ p + 2 → x ≠ p + 3 → x ≠ p + 4 → M13 x = M x := fun x g g1 g2 g3 g4 => by rw [e13, q_up_o g, e12, q_up_o g4, e9, q_up_o g4, e6, q_up_o g3, e4, q_up_o g2, e2, q_up_o g1]
  have op : ∀ k, k ≠ 1 → M13 p k = M p k := fun k hk => by rw [e13, q_up_n hk, e12, q_up_o (by omega), e9, q_up_o (by omega), e6, q_up_o (by omega), e4, q_up_o (by omega), e2, q_up_o (by omega)]
  have o1 : ∀ k, k ≠ (d_L D : Int) → M13 (p + 1) k = M (p + 1) k ∧ M13 (p + 2) k = M (p + 2) k ∧ M13 (p + 3) k = M (p + 3) k := fun k hk => by
    refine ⟨?_, ?_, ?_⟩
    · rw [e13, q_up_o (by omega), e12, q_up_o (by omega), e9, q_up_o (by omega), e6, q_up_o (by omega), e4, q_up_o (by omega), e2, q_up_n hk]
    · rw [e13, q_up_o (by omega), e12, q_up_o (by omega), e9, q_up_o (by omega), e6, q_up_o (by omega), e4, q_up_n hk, e2, q_up_o (by omega)]
    · rw [e13, q_up_o (by omega), e12, q_up_o (by omega), e9, q_up_o (by omega), e6, q_up_n hk, e4, q_up_o (by omega), e2, q_up_o (by omega)]
  have n1 : M13 (p + 1) (d_L D) = (a : Int) := by rw [e13, q_up_o (by omega), e12, q_up_o (by omega), e9, q_up_o (by omega), e6, q_up_o (by omega), e4, q_up_o (by omega), e2, q_up_s]
  have n2 : M13 (p + 2) (d_L D) = (b : Int) := by rw [e13, q_up_o (by omega), e12, q_up_o (by omega), e9, q_up_o (by omega), e6, q_up_o (by omega), e4, q_up_s]
  have n3 : M13 (p + 3) (d_L D) = g := by rw [e13, q_up_o (by omega), e12, q_up_o (by omega), e9, q_up_o (by omega), e6, q_up_s]
  have n0 : M13 p 1 = (d_L D : Int) + 1 := by rw [e13, q_up_s]
  clear e2 e4 e6 e9 e12 e13
  have dge : ∀ m L, L ≤ d_L D → d_dg (fun l => if l = d_L D then (a, b, g) else d_k D l) m L = d_dg (d_k D) m L := fun m L => by
    induction L with
    | zero => intro _; rfl
    | succ L ih =>
      intro hL
      show d_dg _ m L + (if ((if L = d_L D then (a, b, g) else d_k D L) : Nat × Nat × Int).1 = m then 1 else 0) + (if ((if L = d_L D then (a, b, g) else d_k D L) : Nat × Nat × Int).2.1 = m then 1 else 0) = _
      rw [if_neg (show ¬ L = d_L D by omega), ih (by omega)]
      rfl
  refine h M13 (fun x g => o x (by omega) (by omega) (by omega) (by omega) (by omega)) ⟨b0, by rw [op _ (by decide)]; exact b1, by rw [n0]; rfl, by rw [op _ (by decide)]; exact b3, by rw [op _ (by decide)]; exact b4, fun l hl => ?_, fun m hm => ?_, ?_, ?_, ?_⟩
  · have hl : l < d_L D + 1 := hl
    show _ = (((if l = d_L D then (a, b, g) else d_k D l) : Nat × Nat × Int).1 : Int) ∧ _ = (((if l = d_L D then (a, b, g) else d_k D l) : Nat × Nat × Int).2.1 : Int) ∧ _ = ((if l = d_L D then (a, b, g) else d_k D l) : Nat × Nat × Int).2.2
    by_cases c : l = d_L D
    · rw [if_pos c, c]
      exact ⟨n1, n2, n3⟩
    · rw [if_neg c, (o1 l (by omega)).1, (o1 l (by omega)).2.1, (o1 l (by omega)).2.2]
      exact b5 l (by omega)
  · rw [d13 m hm]
    show _ = ((d_dg (fun l => if l = d_L D then (a, b, g) else d_k D l) m (d_L D) + (if ((if d_L D = d_L D then (a, b, g) else d_k D (d_L D)) : Nat × Nat × Int).1 = m then 1 else 0) + (if ((if d_L D = d_L D then (a, b, g) else d_k D (d_L D)) : Nat × Nat × Int).2.1 = m then 1 else 0) : Nat) : Int)
    rw [if_pos rfl, dge m _ (Nat.le_refl _)]
    show _ = ((d_dg (d_k D) m (d_L D) + (if a = m then 1 else 0) + (if b = m then 1 else 0) : Nat) : Int)
    by_cases c : a = m
    · by_cases c2 : b = m
      · simp only [if_pos c, if_pos c2]; omega
      · simp only [if_pos c, if_neg c2]; omega
    · by_cases c2 : b = m
      · simp only [if_neg c, if_pos c2]; omega
      · simp only [if_neg c, if_neg c2]; omega
  · rw [o (p + 6) (by omega) (by omega) (by omega) (by omega) (by omega), o (p + 5) (by omega) (by omega) (by omega) (by omega) (by omega)]; exact b7
  · unfold z_lr; rw [o (p + 7) (by omega) (by omega) (by omega) (by omega) (by omega), o (p + 7 + 1) (by omega) (by omega) (by omega) (by omega) (by omega)]; exact b8
  · unfold z_lr; rw [o (p + 11) (by omega) (by omega) (by omega) (by omega) (by omega), o (p + 11 + 1) (by omega) (by omega) (by omega) (by omega) (by omega)]; exact b9
