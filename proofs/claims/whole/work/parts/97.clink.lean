-- the class reads a link, a round, a law
theorem d_dg_le {k : Nat → Nat × Nat × Int} {m : Nat} : ∀ L, d_dg k m L ≤ 2 * L
  | 0 => Nat.le_refl 0
  | L + 1 => by
    have := d_dg_le (k := k) (m := m) L
    show d_dg k m L + (if (k L).1 = m then 1 else 0) + (if (k L).2.1 = m then 1 else 0) ≤ 2 * (L + 1)
    split <;> split <;> omega
section CL
variable {bt : Nat → Int} {n d : Nat} {p : Int} {K : Int → q_Mem → Prop}
theorem cq_110 {M0 M : q_Mem} {s : p_S} {D : p_D} {a b : Nat} {ng : Bool} (hd : 7 ≤ d) (hs : c_q bt n p (s, D) M) (hw : s.2.1 = 0) (hL : d_L D < 16) (ha : a < 10) (hb : b < 10) (f0 : g_fp p M0 M) (h1 : ∀ M', g_fp p M0 M' → (q_link3 (z_tks bt n) a b ng (p_go s) D).1.2.1 = 0 → c_q bt n p (q_link3 (z_tks bt n) a b ng (p_go s) D) M' → K 1 M') (h0 : ∀ M', g_fp p M0 M' → c_bad (q_link3 (z_tks bt n) a b ng (p_go s) D).1 M' → K 0 M') : q_v mX5_readLink d (qPI K) M 110 [some (qR 33), some (qI (a : Int)), some (qI (b : Int)), some (qI (if ng then 1 else 0)), none] [] := by
  unfold q_link3 at h1 h0
  refine bX5_readLink_110 _ _ _ (c0_adv (by omega) hs.1 (fun M1 f1 r1 => ?_))
  have hs1 : c_q bt n p (p_go s, D) M1 := c_q_f hs f1 r1
  refine c0_takeNum (by omega) r1 hw (fun M2 f2 k20 l99 eg r2 => ⟨fun _ => ?_, fun q => ?_⟩) (fun M2 f2 r2 => ⟨fun q => absurd q (by decide), fun _ => h0 M2 (g_fp_tr f0 (g_fp_tr (g_fp_0 f1) (g_fp_0 f2))) (by rw [if_neg r2.1]; exact r2)⟩)
  · have hs2 : c_q bt n p (p_go (p_go s), D) M2 := c_q_f hs1 f2 r2
    have kp := c_kp hs2.2.2.1
    have nn := z_tks_num _ k20
    rw [if_pos (show (p_take (z_tks bt n) 99 (p_go s)).2.1 = 0 by rw [eg]; exact hw), eg] at h1
    have F2 : g_fp p M0 M2 := g_fp_tr f0 (g_fp_tr (g_fp_0 f1) (g_fp_0 f2))
    have fin : ∀ v, v = (if ng then -(z_tks bt n (p_go s).1).2.2 else (z_tks bt n (p_go s).1).2.2) → q_kU yX4_addLink mX4_addLink d [qR p, qI (a : Int), qI (b : Int), qI v] M2 (fun M5 => K 1 M5) := fun v hv => by
      subst hv
      exact c0_addLink (D := D) (by omega) hs2.2.2 hL ha hb (fun m => by have := d_dg_le (k := d_k D) (m := m) (d_L D); omega) (fun M3 o cD => h1 M3 (g_fp_tr F2 (g_fp_p hs2.2.2.1 o)) hw ⟨c_a0_p hs2.2.2.1 r2 o, by rw [o 33 (by have := hs2.2.2.1; omega)]; exact hs2.2.1, cD⟩)
    rw [show M2 33 8 = p from hs2.2.1]
    cases ng with
    | true => exact ⟨fun q => absurd q (by decide), fun _ => ⟨kp, by rw [q_neg_eq (by omega)]; exact fin _ rfl⟩⟩
    | false => exact ⟨fun _ => ⟨kp, fin _ rfl⟩, fun q => absurd rfl q⟩
  · have := z_tks_num _ k20
    exact absurd this.1 q
theorem cq_64 {M0 M : q_Mem} {s : p_S} {D : p_D} {a : Nat} (hd : 7 ≤ d) (hs : c_q bt n p (s, D) M) (hw : s.2.1 = 0) (hN : d_N D ≤ 10) (hL : d_L D < 16) (ha : a < 10) (f0 : g_fp p M0 M) (h1 : ∀ M', g_fp p M0 M' → (q_link2 (z_tks bt n) a s D).1.2.1 = 0 → c_q bt n p (q_link2 (z_tks bt n) a s D) M' → K 1 M') (h0 : ∀ M', g_fp p M0 M' → c_bad (q_link2 (z_tks bt n) a s D).1 M' → K 0 M') : q_v mX5_readLink d (qPI K) M 64 [some (qR 33), some (qI (a : Int)), none, none, none] [] := by
  have a0 : c_a0 bt n s M := hs.1
  have e8 : M 33 8 = p := hs.2.1
  have cD : c_D p D M := hs.2.2
  unfold q_link2 at h1 h0
  refine bX5_readLink_64 _ ?_
  rw [e8, cD.2.1, q_sub_eq (by omega)]
  refine ⟨c_kp cD.1, c0_takeNum (by omega) a0 hw (fun M2 f2 k20 lN eg r2 => ⟨fun _ => ?_, fun q => ?_⟩) (fun M2 f2 r2 => ⟨fun q => absurd q (by decide), fun _ => h0 M2 (g_fp_tr f0 (g_fp_0 f2)) (by rw [if_neg r2.1]; exact r2)⟩)⟩
  · have hs2 : c_q bt n p (p_go s, D) M2 := c_q_f hs f2 r2
    have nn := z_tks_num _ k20
    rw [if_pos (show (p_take (z_tks bt n) ((d_N D : Int) - 1) s).2.1 = 0 by rw [eg]; exact hw), eg] at h1 h0
    have F2 : g_fp p M0 M2 := g_fp_tr f0 (g_fp_0 f2)
    rw [show (z_tks bt n s.1).2.2 = ((z_tks bt n s.1).2.2.toNat : Int) by omega]
    refine c0_isWord (by omega) r2 (by decide) (k := 5) rfl (fun k5 => ⟨fun _ => ?_, fun q => absurd q (by decide)⟩) (fun k5 => ⟨fun q => absurd rfl q, fun _ => c0_isWord (by omega) r2 (by decide) (k := 4) rfl (fun k4 => ⟨fun _ => ?_, fun q => absurd q (by decide)⟩) (fun k4 => ⟨fun q => absurd rfl q, fun _ => c0_ref (by omega) r2 hw (by decide) (fun M3 f3 r3 => ⟨Or.inl rfl, h0 M3 (g_fp_tr F2 (g_fp_0 f3)) ?_⟩)⟩)⟩)
    · rw [if_pos (show (z_tks bt n (s.1 + 1)).1 = 5 from k5)] at h1 h0
      exact cq_110 (ng := true) hd hs2 hw hL ha (by omega) F2 h1 h0
    · rw [if_neg (show ¬ (z_tks bt n (s.1 + 1)).1 = 5 from k5), if_pos (show (z_tks bt n (s.1 + 1)).1 = 4 from k4)] at h1 h0
      exact cq_110 (ng := false) hd hs2 hw hL ha (by omega) F2 h1 h0
    · rw [if_neg (show ¬ (z_tks bt n (s.1 + 1)).1 = 5 from k5), if_neg (show ¬ (z_tks bt n (s.1 + 1)).1 = 4 from k4)]
      exact r3
  · have := z_tks_num _ k20
    exact absurd this.1 q
end CL
theorem cq_link {d : Nat} {M : q_Mem} {K : Int → q_Mem → Prop} {bt : Nat → Int} {n : Nat} {p : Int} {s : p_S} {D : p_D} (hd : 7 < d) (hs : c_q bt n p (s, D) M) (hw : s.2.1 = 0) (hN : d_N D ≤ 10) (hL : d_L D ≤ 16) (h1 : ∀ M', g_fp p M M' → (q_link (z_tks bt n) s D).1.2.1 = 0 → c_q bt n p (q_link (z_tks bt n) s D) M' → K 1 M') (h0 : ∀ M', g_fp p M M' → c_bad (q_link (z_tks bt n) s D).1 M' → K 0 M') : q_kI yX5_readLink mX5_readLink d [qR 33] M K := by
  have a0 : c_a0 bt n s M := hs.1
  have e8 : M 33 8 = p := hs.2.1
  have cD : c_D p D M := hs.2.2
  have kp := c_kp cD.1
  unfold q_link at h1 h0
  refine q_goI hd rfl (plainFor_of_name (by decide +kernel)) rfl (fun h => nomatch h) (Nat.le_of_ble_eq_true rfl) (fun d hd => bX5_readLink_0 ?_)
  rw [e8, cD.2.2.1]
  refine ⟨kp, fun g => c0_adv (by omega) a0 (fun M1 f1 r1 => ?_), fun g => c0_ref (by omega) a0 hw (by decide) (fun M' f r => ⟨Or.inl rfl, h0 M' (g_fp_0 f) (by rw [if_pos (by omega)]; exact r)⟩)⟩
  have hs1 : c_q bt n p (p_go s, D) M1 := c_q_f hs f1 r1
  have cD1 : c_D p D M1 := hs1.2.2
  have hL : d_L D < 16 := by omega
  rw [if_neg (by omega)] at h1 h0
  unfold q_link1 at h1 h0
  rw [show M1 33 8 = p from hs1.2.1, cD1.2.1, q_sub_eq (by omega)]
  refine ⟨kp, c0_takeNum (by omega) r1 hw (fun M2 f2 k20 lN eg r2 => ⟨fun _ => ?_, fun q => ?_⟩) (fun M2 f2 r2 => ⟨fun q => absurd q (by decide), fun _ => h0 M2 (g_fp_tr (g_fp_0 f1) (g_fp_0 f2)) (by rw [if_neg r2.1]; exact r2)⟩)⟩
  · have hs2 : c_q bt n p (p_go (p_go s), D) M2 := c_q_f hs1 f2 r2
    have nn := z_tks_num _ k20
    rw [if_pos (show (p_take (z_tks bt n) ((d_N D : Int) - 1) (p_go s)).2.1 = 0 by rw [eg]; exact hw), eg] at h1 h0
    have F2 : g_fp p M M2 := g_fp_tr (g_fp_0 f1) (g_fp_0 f2)
    have s6 := c_s6 r2.2.1
    rw [show (z_tks bt n (p_go s).1).2.2 = ((z_tks bt n (p_go s).1).2.2.toNat : Int) by omega]
    refine ⟨fun g2 => ?_, fun g2 => ⟨fun g3 => ?_, fun g3 => c0_ref (by omega) r2 hw (by decide) (fun M3 f3 r3 => ⟨Or.inl rfl, h0 M3 (g_fp_tr F2 (g_fp_0 f3)) ?_⟩)⟩⟩
    · rw [if_neg (fun q => g2 (s6.2.1.mpr q.1))] at h1 h0
      exact cq_64 hd hs2 hw hN hL (by omega) F2 h1 h0
    · have k2 := s6.2.1.mp g2
      have v2 : M2 33 7 = (z_tks bt n ((p_go s).1 + 1)).2.2 := (s6.2.2.2 k2).1
      rw [if_neg (fun q => g3 (by rw [v2, q.2]; omega))] at h1 h0
      exact cq_64 hd hs2 hw hN hL (by omega) F2 h1 h0
    · have k2 := s6.2.1.mp g2
      have v2 : M2 33 7 = (z_tks bt n ((p_go s).1 + 1)).2.2 := (s6.2.2.2 k2).1
      rw [if_pos ⟨k2, by rw [← v2, g3]; omega⟩]
      exact r3
  · have := z_tks_num _ k20
    exact absurd this.1 q
theorem cq_touches {d : Nat} {M : q_Mem} {K : Int → q_Mem → Prop} {p : Int} {D : p_D} {l m : Nat} (hd : 0 < d) (cD : c_D p D M) (hl : l < d_L D) (hL : d_L D ≤ 16) (h1 : d_on D l m = true → K 1 M) (h0 : ¬ d_on D l m = true → K 0 M) : q_kI yX4_touches mX4_touches d [qR p, qI (l : Int), qI (m : Int)] M K := by
  have kp := c_kp cD.1
  have lay := z_k4 kp
  have b5 := cD.2.2.2.2.2.1 l hl
  refine q_goI hd rfl (plainFor_of_name (by decide +kernel)) rfl (fun h => nomatch h) (Nat.le_of_ble_eq_true rfl) (fun d hd => bX4_touches_0 _ _ _ kp ?_)
  rw [lay.1, lay.2.1, b5.1, b5.2.1]
  refine ⟨by omega, fun g1 => h1 ((d_on_w hl).mpr (Or.inl (by omega))), fun g1 => ⟨by omega, fun g2 => h0 (fun q => ?_), fun g2 => h1 ((d_on_w hl).mpr (Or.inr (by omega)))⟩⟩
  rcases (d_on_w hl).mp q with q | q <;> omega
theorem l_clf {d : Nat} {M : q_Mem} {K : Int → q_Mem → Prop} {p : Int} {D : p_D} {m l : Nat} (hm : m < 10) (cD : c_D p D M) (h16 : (d_r D m).length ≤ 16) (h1 : l ∈ d_r D m → K 1 M) (h0 : l ∉ d_r D m → K 0 M) :
    ∀ (j i : Nat), i + j = (d_r D m).length → (∀ x, x < i → (d_r D m).getD x 0 ≠ l) → q_v mX4_liesFirst d (qPI K) M 2 [some (qR p), some (qI (l : Int)), some (qI (m : Int)), some (qI (i : Int))] [] := by
  have kp := c_kp cD.1
  have lay := z_k4 kp
  have R := cD.2.2.2.2.2.2.2.1 m hm
  intro j
  induction j with
  | zero =>
    intro i e q
    refine bX4_liesFirst_2 _ _ _ _ kp ?_
    rw [lay.2.2.2.2.2.1, R.1]
    refine ⟨by omega, fun _ => h0 (fun g => ?_), fun g => absurd (by omega) g⟩
    obtain ⟨x, hx, ex⟩ := List.getElem_of_mem g
    exact q x (by omega) (by rw [List.getD_eq_getElem?_getD, List.getElem?_eq_getElem hx]; exact ex)
  | succ j ih =>
    intro i e q
    refine bX4_liesFirst_2 _ _ _ _ kp ?_
    rw [lay.2.2.2.2.2.1, lay.2.2.2.2.1, R.1]
    refine ⟨by omega, fun g => absurd g (by omega), fun _ => ?_⟩
    rw [q_mul_eq (by omega), q_add_eq (by omega), show (m : Int) * 16 = 16 * (m : Int) by omega, R.2 i (by omega), q_add_eq (a := (i : Int)) (by omega), show (i : Int) + 1 = ((i + 1 : Nat) : Int) by omega]
    refine ⟨by omega, fun g => ih (i + 1) (by omega) (fun x hx => ?_), fun g => h1 ?_⟩
    · by_cases c : x = i
      · rw [c]; omega
      · exact q x (by omega)
    · have hx : i < (d_r D m).length := by omega
      have : (d_r D m)[i] = l := by
        have g : ((d_r D m).getD i 0 : Int) = (l : Int) := g
        rw [List.getD_eq_getElem?_getD, List.getElem?_eq_getElem hx] at g
        have g : (((d_r D m)[i] : Nat) : Int) = (l : Int) := g
        omega
      rw [← this]
      exact List.getElem_mem hx
theorem cq_lies {d : Nat} {M : q_Mem} {K : Int → q_Mem → Prop} {p : Int} {D : p_D} {m l : Nat} (hd : 0 < d) (hm : m < 10) (cD : c_D p D M) (h16 : (d_r D m).length ≤ 16) (h1 : l ∈ d_r D m → K 1 M) (h0 : l ∉ d_r D m → K 0 M) : q_kI yX4_liesFirst mX4_liesFirst d [qR p, qI (l : Int), qI (m : Int)] M K :=
  q_goI hd rfl (plainFor_of_name (by decide +kernel)) rfl (fun h => nomatch h) (Nat.le_of_ble_eq_true rfl) (fun d hd => bX4_liesFirst_0 _ _ _ (c_kp cD.1) (l_clf hm cD h16 h1 h0 (d_r D m).length 0 (Nat.zero_add _) (fun x hx => absurd hx (Nat.not_lt_zero x))))
theorem c_D_setr {p : Int} {D : p_D} {M M' : q_Mem} {m : Nat} {ls : List Nat} (h : c_D p D M) (o : ∀ a, a ≠ p + 5 → a ≠ p + 6 → M' a = M a) (e3 : ∀ x : Int, x ≠ (m : Int) → M' (p + 6) x = M (p + 6) x) (e4 : ∀ x : Int, (x < 16 * (m : Int) ∨ 16 * (m : Int) + 16 ≤ x) → M' (p + 5) x = M (p + 5) x) (h16 : ∀ x, (d_r D x).length ≤ 16) (hl : M' (p + 6) m = (ls.length : Int)) (hx : ∀ i : Nat, i < ls.length → M' (p + 5) (16 * (m : Int) + (i : Int)) = (ls.getD i 0 : Int)) : c_D p (d_setr D m ls) M' := by
  obtain ⟨b0, b1, b2, b3, b4, b5, b6, b7, b8, b9⟩ := h
  refine ⟨b0, by rw [o p (by omega) (by omega)]; exact b1, by rw [o p (by omega) (by omega)]; exact b2, by rw [o p (by omega) (by omega)]; exact b3, by rw [o p (by omega) (by omega)]; exact b4, by rw [o (p + 1) (by omega) (by omega), o (p + 2) (by omega) (by omega), o (p + 3) (by omega) (by omega)]; exact b5, by rw [o (p + 4) (by omega) (by omega)]; exact b6, fun x hx9 => ?_, by unfold z_lr; rw [o (p + 7) (by omega) (by omega), o (p + 7 + 1) (by omega) (by omega)]; exact b8, by unfold z_lr; rw [o (p + 11) (by omega) (by omega), o (p + 11 + 1) (by omega) (by omega)]; exact b9⟩
  rw [d_setr_r]
  by_cases c : x = m
  · subst c
    rw [if_pos rfl]
    exact ⟨hl, hx⟩
  · rw [if_neg c, e3 _ (by omega)]
    refine ⟨(b7 x hx9).1, fun i hi => ?_⟩
    have := h16 x
    rw [e4 _ (by omega)]
    exact (b7 x hx9).2 i hi
theorem cq_addFirst {d : Nat} {M : q_Mem} {K : q_Mem → Prop} {p : Int} {D : p_D} {l m : Nat} (hd : 0 < d) (hm : m < 10) (cD : c_D p D M) (h16 : ∀ x, (d_r D x).length ≤ 16) (h15 : (d_r D m).length < 16) (h : ∀ M', (∀ a, ¬ (p ≤ a ∧ a ≤ p + 14) → M' a = M a) → c_D p (d_setr D m (d_r D m ++ [l])) M' → K M') : q_kU yX4_addFirst mX4_addFirst d [qR p, qI (l : Int), qI (m : Int)] M K := by
  have kp := c_kp cD.1
  have lay := z_k4 kp
  have R := cD.2.2.2.2.2.2.2.1 m hm
  refine q_goU hd rfl (plainFor_of_name (by decide +kernel)) rfl (fun h => nomatch h) (Nat.le_of_ble_eq_true rfl) (fun d hd => bX4_addFirst_0 _ _ _ kp ?_)
  rw [lay.2.2.2.2.2.1, lay.2.2.2.2.1, R.1, q_mul_eq (by omega), q_add_eq (by omega)]
  refine ⟨by omega, fun q => absurd q (by omega), fun _ => ⟨by omega, by omega, fun M4 e4 => ⟨by omega, by omega, fun M7 e7 => ?_⟩⟩⟩
  have l4 : M4 (p + 6) m = ((d_r D m).length : Int) := by rw [e4, q_up_o (by omega)]; exact R.1
  rw [l4, q_add_eq (by omega)] at e7
  have o : ∀ a, a ≠ p + 5 → a ≠ p + 6 → M7 a = M a := fun a g g2 => by rw [e7, q_up_o g2, e4, q_up_o g]
  refine h M7 (fun a g => o a (by omega) (by omega)) (c_D_setr cD o (fun x hx => by rw [e7, q_up_n hx, e4, q_up_o (by omega)]) (fun x hx => by rw [e7, q_up_o (by omega), e4, q_up_n (by omega)]) h16 ?_ (fun i hi => ?_))
  · rw [e7, q_up_s, List.length_append, List.length_singleton]; omega
  · rw [List.length_append, List.length_singleton] at hi
    rw [e7, q_up_o (by omega), e4]
    by_cases c : i = (d_r D m).length
    · subst c
      rw [show 16 * (m : Int) + ((d_r D m).length : Int) = (m : Int) * 16 + ((d_r D m).length : Int) by omega, q_up_s, List.getD_eq_getElem?_getD, List.getElem?_append_right (Nat.le_refl _), Nat.sub_self]
      rfl
    · rw [q_up_n (by omega), R.2 i (by omega), List.getD_eq_getElem?_getD, List.getD_eq_getElem?_getD, List.getElem?_append_left (by omega)]
theorem l_crr {bt : Nat → Int} {n d m : Nat} {p : Int} {M0 : q_Mem} {K : Int → q_Mem → Prop} (hd : 7 ≤ d) (hm : m < 10) :
    ∀ (f : Nat) (s : p_S) (D : p_D) (M : q_Mem), n < f + s.1 → s.2.1 = 0 → d_ok n s D → c_q bt n p (s, D) M → g_fp p M0 M → (∀ M', g_fp p M0 M' → (q_rl (z_tks bt n) m f s D).1.2.1 = 0 → c_q bt n p (q_rl (z_tks bt n) m f s D) M' → K 1 M') → (∀ M', g_fp p M0 M' → c_bad (q_rl (z_tks bt n) m f s D).1 M' → K 0 M') → q_v mX5_readRound d (qPI K) M 36 [some (qR 33), some (qI (m : Int)), some (qI ((d_r D m).length : Int)), none] []
  | 0, s, D, M, hn, hw, hok, _, _, _, _ => by have := hok.2.2.2.2.2.2.1; omega
  | f + 1, s, D, M, hn, hw, hok, hs, f0, h1, h0 => by
    have a0 : c_a0 bt n s M := hs.1
    have e8 : M 33 8 = p := hs.2.1
    have cD : c_D p D M := hs.2.2
    have kp := c_kp cD.1
    have L16 := hok.2.1
    have r16 : ∀ x, (d_r D x).length ≤ 16 := fun x => Nat.le_trans (d_r_16 hok) L16
    have rm := r16 m
    have s6 := c_s6 a0.2.1
    unfold q_rl at h1 h0
    refine bX5_readRound_36 _ _ ⟨fun g => absurd g (by omega), fun _ => ⟨fun g => ?_, fun g x3 e3 => ?_⟩⟩
    · rw [if_neg (show ¬ (z_tks bt n s.1).1 = 20 from fun q => g (s6.2.1.mpr q))] at h1
      exact h1 M f0 hw hs
    · have k20 : (z_tks bt n s.1).1 = 20 := s6.2.1.mp g
      have lt : s.1 < n := z_tks_lt (bt := bt) _ (by rw [k20]; decide)
      have nn := z_tks_num s.1 k20
      have ev : M 33 7 = (z_tks bt n s.1).2.2 := (s6.2.2.2 k20).1
      rw [ev, show (z_tks bt n s.1).2.2 = ((z_tks bt n s.1).2.2.toNat : Int) by omega] at e3
      subst e3
      rw [if_pos k20] at h1 h0
      rw [e8, cD.2.2.1]
      have bad : ¬ (d_on D (z_tks bt n s.1).2.2.toNat m = true ∧ (z_tks bt n s.1).2.2.toNat ∉ d_r D m) → q_kI yX5_refuse mX5_refuse d [qR 33, qI 3] M (fun v4 M3 => (v4 = 0 ∨ v4 = 1) ∧ K v4 M3) := fun q => by
        rw [if_neg q] at h0
        exact c0_ref (by omega) a0 hw (by decide) (fun M' f r => ⟨Or.inl rfl, h0 M' (g_fp_tr f0 (g_fp_0 f)) r⟩)
      refine ⟨kp, fun g1 => bad (fun q => by have := d_on_lt q.1; omega), fun g1 => ?_⟩
      have hl : (z_tks bt n s.1).2.2.toNat < d_L D := by omega
      refine cq_touches (by omega) cD hl L16 (fun on => ⟨fun q => absurd q (by decide), fun _ => ?_⟩) (fun on => ⟨fun _ => bad (fun q => on q.1), fun q => absurd rfl q⟩)
      rw [e8]
      refine ⟨kp, cq_lies (by omega) hm cD rm (fun mem => ⟨fun q => absurd q (by decide), fun _ => bad (fun q => q.2 mem)⟩) (fun mem => ⟨fun _ => ?_, fun q => absurd rfl q⟩)⟩
      rw [if_pos ⟨on, mem⟩] at h1 h0
      rw [e8]
      have nd := hok.2.2.2.1 m
      have l15 : (d_r D m).length + 1 ≤ d_L D := by
        have := l_nd_len (l := d_r D m ++ [(z_tks bt n s.1).2.2.toNat]) (k := d_L D) (l_nd_app nd.1 mem) (fun x hx => by
          simp at hx
          rcases hx with q | q
          · exact d_on_lt (nd.2 x q)
          · rw [q]; exact d_on_lt on)
        rw [List.length_append, List.length_singleton] at this
        exact this
      refine ⟨kp, cq_addFirst (by omega) hm cD r16 (by omega) (fun M1 o cD1 => c0_adv (by omega) (c_a0_p cD.1 a0 o) (fun M2 f2 r2 => ?_))⟩
      have okn := (q_rl_ok (n := n) (z_tks_lt (bt := bt)) (m := m) (s0 := (0, 0, 0, [])) 1 s D hok (by have := hok.2.2.2.2.2.1; show 0 < s.1; omega))
      have okn2 : d_nx n (0, 0, 0, []) (q_rl (z_tks bt n) m 0 (p_go s) (d_setr D m (d_r D m ++ [(z_tks bt n s.1).2.2.toNat]))) := by
        unfold q_rl at okn
        rw [if_pos k20, if_pos ⟨on, mem⟩] at okn
        exact okn
      have hs2 : c_q bt n p (p_go s, d_setr D m (d_r D m ++ [(z_tks bt n s.1).2.2.toNat])) M2 := c_q_f (s := s) (D := d_setr D m (d_r D m ++ [(z_tks bt n s.1).2.2.toNat])) ⟨c_a0_p cD.1 a0 o, by rw [o 33 (by have := cD.1; omega)]; exact e8, cD1⟩ f2 r2
      have := l_crr hd hm f (p_go s) (d_setr D m (d_r D m ++ [(z_tks bt n s.1).2.2.toNat])) M2 (by show n < f + (s.1 + 1); omega) hw (okn2 hw).1 hs2 (g_fp_tr f0 (g_fp_tr (g_fp_p cD.1 o) (g_fp_0 f2))) h1 h0
      rw [d_setr_r, if_pos rfl, List.length_append, List.length_singleton] at this
      rw [q_add_eq (by omega), show ((d_r D m).length : Int) + 1 = (((d_r D m).length + 1 : Nat) : Int) by omega]
      exact this
theorem cq_round {d : Nat} {M : q_Mem} {K : Int → q_Mem → Prop} {bt : Nat → Int} {n F : Nat} {p : Int} {s : p_S} {D : p_D} (hd : 7 < d) (hF : n < F) (hs : c_q bt n p (s, D) M) (hw : s.2.1 = 0) (hlt : s.1 < n) (hok : d_ok n s D) (h1 : ∀ M', g_fp p M M' → (q_round (z_tks bt n) F s D).1.2.1 = 0 → c_q bt n p (q_round (z_tks bt n) F s D) M' → K 1 M') (h0 : ∀ M', g_fp p M M' → c_bad (q_round (z_tks bt n) F s D).1 M' → K 0 M') : q_kI yX5_readRound mX5_readRound d [qR 33] M K := by
  have cD0 : c_D p D M := hs.2.2
  have kp := c_kp cD0.1
  have lay := z_k4 kp
  have N10 := hok.1
  have L16 := hok.2.1
  have r16 : ∀ x, (d_r D x).length ≤ 16 := fun x => Nat.le_trans (d_r_16 hok) L16
  unfold q_round at h1 h0
  refine q_goI hd rfl (plainFor_of_name (by decide +kernel)) rfl (fun h => nomatch h) (Nat.le_of_ble_eq_true rfl) (fun d hd => bX5_readRound_0 (c0_adv (by omega) hs.1 (fun M1 f1 r1 => ?_)))
  have hs1 : c_q bt n p (p_go s, D) M1 := c_q_f hs f1 r1
  have cD1 : c_D p D M1 := hs1.2.2
  rw [show M1 33 8 = p from hs1.2.1, cD1.2.1, q_sub_eq (by omega)]
  refine ⟨kp, c0_takeNum (by omega) r1 hw (fun M2 f2 k20 lN eg r2 => ⟨fun _ => ?_, fun q => ?_⟩) (fun M2 f2 r2 => ⟨fun q => absurd q (by decide), fun _ => h0 M2 (g_fp_tr (g_fp_0 f1) (g_fp_0 f2)) (by rw [if_neg r2.1]; exact r2)⟩)⟩
  · have hs2 : c_q bt n p (p_go (p_go s), D) M2 := c_q_f hs1 f2 r2
    have cD2 : c_D p D M2 := hs2.2.2
    have k20 : (z_tks bt n (s.1 + 1)).1 = 20 := k20
    have lN : (z_tks bt n (s.1 + 1)).2.2 ≤ (d_N D : Int) - 1 := lN
    have lt1 : s.1 + 1 < n := z_tks_lt (bt := bt) _ (by rw [k20]; decide)
    have nn := z_tks_num _ k20
    rw [if_pos (show (p_take (z_tks bt n) ((d_N D : Int) - 1) (p_go s)).2.1 = 0 by rw [eg]; exact hw), eg] at h1 h0
    rw [show M2 33 8 = p from hs2.2.1, lay.2.2.2.2.2.1, show (z_tks bt n (p_go s).1).2.2 = ((z_tks bt n (s.1 + 1)).2.2.toNat : Int) by show (z_tks bt n (s.1 + 1)).2.2 = _; omega]
    refine ⟨kp, by omega, fun M7 e7 => ?_⟩
    have o : ∀ a, a ≠ p + 5 → a ≠ p + 6 → M7 a = M2 a := fun a _ g2 => by rw [e7, q_up_o g2]
    have oo : ∀ a, ¬ (p ≤ a ∧ a ≤ p + 14) → M7 a = M2 a := fun a g => o a (by omega) (by omega)
    have cD7 : c_D p (d_setr D (z_tks bt n (s.1 + 1)).2.2.toNat []) M7 := c_D_setr cD2 o (fun x hx => by rw [e7, q_up_n hx]) (fun x _ => by rw [e7, q_up_o (by omega)]) r16 (by rw [e7, q_up_s]; rfl) (fun i hi => absurd hi (Nat.not_lt_zero i))
    have ok5 : d_ok n (p_go (p_go s)) (d_setr D (z_tks bt n (s.1 + 1)).2.2.toNat []) := by
      obtain ⟨a1, a2, a3, a4, a5, a6, a7, a8⟩ := hok
      refine ⟨a1, a2, a3, fun x => ?_, a5, by show d_t D + 2 ≤ s.1 + 1 + 1; omega, by show s.1 + 1 + 1 ≤ n; omega, a8⟩
      rw [d_setr_r]
      by_cases c : x = (z_tks bt n (s.1 + 1)).2.2.toNat
      · rw [if_pos c]
        exact ⟨trivial, fun l hl => absurd hl (by simp)⟩
      · rw [if_neg c]
        exact a4 x
    have := l_crr (d := d) (M0 := M) (K := K) hd (m := (z_tks bt n (s.1 + 1)).2.2.toNat) (by omega) F (p_go (p_go s)) _ M7 (by show n < F + (s.1 + 1 + 1); omega) hw ok5 ⟨c_a0_p cD0.1 r2 oo, by rw [oo 33 (by have := cD0.1; omega)]; exact hs2.2.1, cD7⟩ (g_fp_tr (g_fp_0 f1) (g_fp_tr (g_fp_0 f2) (g_fp_p cD0.1 oo))) h1 h0
    rw [d_setr_r, if_pos rfl] at this
    exact this
  · have := z_tks_num _ k20
    exact absurd this.1 q
