-- the reference reads lines: node, link
def r_a0 (bt : Nat → Int) (n : Nat) (s : p_S) (M : q_Mem) : Prop := z_rt M bt n ∧ z_rtk M (z_tA bt n (z_P bt n s.1)) (z_tB bt n (z_P bt n s.1)) (z_tK bt n (z_P bt n s.1)) (z_tN bt n (z_P bt n s.1)) ∧ M 178 13 = s.2.1 ∧ (s.2.1 ≠ 0 → M 178 14 = s.2.2.1)
abbrev r_f0 (M M' : q_Mem) : Prop := z_fr [] z_XF M M'
theorem r_f0_x {M M' : q_Mem} (h : z_fr [] z_KF M M') : r_f0 M M' := z_fr_mono h (by decide) (by decide)
theorem r_a0_11 {bt : Nat → Int} {n : Nat} {s : p_S} {M : q_Mem} (h : r_a0 bt n s M) : M 178 11 = (z_tks bt n s.1).1 := h.2.1.2.2.1
theorem r_a0_8 {bt : Nat → Int} {n : Nat} {s : p_S} {M : q_Mem} (h : r_a0 bt n s M) : M 178 8 = (z_tks bt n s.1).2.1 := h.2.1.1
theorem r_at_a0 {bt : Nat → Int} {n b : Nat} {s : p_S} {M : q_Mem} (h : r_at bt n b s M) : r_a0 bt n s M := ⟨h.1, h.2.1, h.2.2.1, h.2.2.2.1⟩
theorem r0_is {d : Nat} {M : q_Mem} {K : Int → q_Mem → Prop} {bt : Nat → Int} {n : Nat} {s : p_S} {x : Int} (hd : 0 < d) (hs : r_a0 bt n s M) (h1 : p_is (z_tks bt n) x s = true → K 1 M) (h0 : p_is (z_tks bt n) x s = false → K 0 M) : q_kI yX12_is mX12_is d [qR 178, qI x] M K := by
  refine q_goI hd rfl (plainFor_of_name (by decide +kernel)) rfl (fun h => nomatch h) (Nat.le_of_ble_eq_true rfl) (fun d hd => bX12_is_0 _ ?_)
  rw [hs.2.2.1, r_a0_11 hs]
  unfold p_is at h1 h0
  refine ⟨fun g => h0 (by rw [decide_eq_false g, Bool.false_and]), fun g => ⟨fun g2 => h0 (by rw [decide_eq_false g2, Bool.and_false]), fun g2 => h1 (by rw [decide_eq_true g, decide_eq_true g2]; rfl)⟩⟩
theorem r0_goes {d : Nat} {M : q_Mem} {K : q_Mem → Prop} {bt : Nat → Int} {n : Nat} {s : p_S} (hd : 5 < d) (hs : r_a0 bt n s M) (h : ∀ M', r_f0 M M' → r_a0 bt n (p_go s) M' → K M') : q_kU yX12_goes mX12_goes d [qR 178] M K := by
  have b2 := z_tB_ok (bt := bt) (z_P_le (bt := bt) (n := n) s.1)
  refine k_goes hd hs.1 b2.2.1 hs.2.1.2.1 (fun M' f t => h M' (r_f0_x f) ⟨z_rt_f hs.1 f (by decide) (by decide), t, ?_, ?_⟩)
  · rw [f.2 13 (by decide)]; exact hs.2.2.1
  · rw [f.2 14 (by decide)]; exact hs.2.2.2
theorem r0_eats {d : Nat} {M : q_Mem} {K : Int → q_Mem → Prop} {bt : Nat → Int} {n : Nat} {s : p_S} {x : Int} (hd : 6 < d) (hs : r_a0 bt n s M) (h1 : p_is (z_tks bt n) x s = true → ∀ M', r_f0 M M' → r_a0 bt n (p_go s) M' → K 1 M') (h0 : p_is (z_tks bt n) x s = false → K 0 M) : q_kI yX12_eats mX12_eats d [qR 178, qI x] M K :=
  q_goI hd rfl (plainFor_of_name (by decide +kernel)) rfl (fun h => nomatch h) (Nat.le_of_ble_eq_true rfl) (fun d hd => bX12_eats_0 _ (r0_is (by omega) hs (fun g => ⟨fun _ => r0_goes (by omega) hs (h1 g), fun q => absurd q (by decide)⟩) (fun g => ⟨fun q => absurd rfl q, fun _ => h0 g⟩)))
theorem r0_fails {d : Nat} {M : q_Mem} {K : q_Mem → Prop} {bt : Nat → Int} {n : Nat} {s : p_S} {x : Int} (hd : 0 < d) (hs : r_a0 bt n s M) (h : ∀ M', r_f0 M M' → r_a0 bt n (p_fail (z_tks bt n) x s) M' → K M') : q_kU yX12_fails mX12_fails d [qR 178, qI x] M K := by
  refine q_goU hd rfl (plainFor_of_name (by decide +kernel)) rfl (fun h => nomatch h) (Nat.le_of_ble_eq_true rfl) (fun d hd => bX12_fails_0 _ ⟨fun g => ?_, fun g => ?_⟩)
  · have g2 : s.2.1 = 0 := by rw [← hs.2.2.1]; exact g
    have go : ∀ (v : Int) (M1 M2 : q_Mem), M1 = q_up M 178 13 v → M2 = q_up M1 178 14 (M1 178 8) → v = (if (z_tks bt n s.1).1 = 22 then 1 else x) → K M2 := by
      intro v M1 M2 e1 e2 ev
      have f : z_fr [] [13, 14] M M2 := z_fr_uf (z_fr_uf z_fr_rf e1 (by decide)) e2 (by decide)
      refine h M2 (z_fr_mono f (by decide) (by decide)) ?_
      unfold p_fail
      rw [if_pos g2]
      refine ⟨z_rt_f hs.1 f (by decide) (by decide), ?_, ?_, fun _ => ?_⟩
      · unfold z_rtk
        rw [f.2 8 (by decide), f.2 9 (by decide), f.2 11 (by decide), f.2 12 (by decide)]
        exact hs.2.1
      · rw [e2, q_up_n (by decide), e1, q_up_s]; exact ev
      · rw [e2, q_up_s, e1, q_up_n (by decide)]; exact r_a0_8 hs
    rw [r_a0_11 hs]
    exact ⟨fun g3 M1 e1 M2 e2 => go x M1 M2 e1 e2 (by rw [if_neg g3]), fun g3 M1 e1 M2 e2 => go 1 M1 M2 e1 e2 (by rw [if_pos g3])⟩
  · have g2 : ¬ s.2.1 = 0 := by rw [← hs.2.2.1]; exact g
    rw [p_fail_w g2] at h
    exact h M z_fr_rf hs
theorem r0_wants {d : Nat} {M : q_Mem} {K : q_Mem → Prop} {bt : Nat → Int} {n : Nat} {s : p_S} {x : Int} (hd : 7 < d) (hs : r_a0 bt n s M) (h : ∀ M', r_f0 M M' → r_a0 bt n (p_want (z_tks bt n) x s) M' → K M') : q_kU yX12_wants mX12_wants d [qR 178, qI x] M K :=
  q_goU hd rfl (plainFor_of_name (by decide +kernel)) rfl (fun h => nomatch h) (Nat.le_of_ble_eq_true rfl) (fun d hd => bX12_wants_0 _ (r0_eats (by omega) hs (fun g M' f r => ⟨fun _ => h M' f (by unfold p_want; rw [if_pos g]; exact r), fun q => absurd q (by decide)⟩) (fun g => ⟨fun q => absurd rfl q, fun _ => r0_fails (by omega) hs (fun M' f r => h M' f (by unfold p_want; rw [if_neg (by rw [g]; decide)]; exact r))⟩)))
theorem r0_takes {d : Nat} {M : q_Mem} {K : Int → q_Mem → Prop} {bt : Nat → Int} {n : Nat} {s : p_S} {hi : Int} (hd : 7 < d) (hs : r_a0 bt n s M) (h : ∀ v M', r_f0 M M' → r_a0 bt n (p_take (z_tks bt n) hi s) M' → ((p_take (z_tks bt n) hi s).2.1 = 0 → v = (z_tks bt n s.1).2.2 ∧ (z_tks bt n s.1).1 = 20) → K v M') : q_kI yX12_takes mX12_takes d [qR 178, qI 0, qI hi] M K := by
  have bad : ∀ (M1 : q_Mem), r_f0 M M1 → r_a0 bt n (p_take (z_tks bt n) hi s) M1 → ¬ (p_take (z_tks bt n) hi s).2.1 = 0 → ∀ d, q_v mX12_takes d (qPI K) M1 37 [some (qR 178), none, none, none] [] := fun M1 f1 r1 w d => by
    refine bX12_takes_37 (fun x3 e3 => ⟨fun _ => h _ M1 f1 r1 (fun q => absurd q w), fun q => absurd (by rw [← r1.2.2.1]; exact q) w⟩)
  refine q_goI hd rfl (plainFor_of_name (by decide +kernel)) rfl (fun h => nomatch h) (Nat.le_of_ble_eq_true rfl) (fun d hd => bX12_takes_0 _ _ (r0_is (by omega) hs (fun g => ⟨fun _ => ?_, fun q => absurd q (by decide)⟩) (fun g => ⟨fun q => absurd rfl q, fun _ => r0_fails (by omega) hs (fun M1 f1 r1 => ?_)⟩)))
  · obtain ⟨w, k, lt⟩ := p_is_n (by decide) g
    have nm := hs.2.1.2.2.2.1 k
    have nm1 : M 178 12 = (z_tks bt n s.1).2.2 := nm.1
    rw [nm1]
    refine k_within (by omega) (fun _ q => ⟨fun _ => ?_, fun q => absurd q (by decide)⟩) (fun q => ⟨fun q => absurd rfl q, fun _ => r0_fails (by omega) hs (fun M1 f1 r1 => ?_)⟩)
    · have e : p_take (z_tks bt n) hi s = p_go s := by unfold p_take; rw [if_pos w, if_pos k, if_pos q]
      rw [e] at h
      refine bX12_takes_37 (fun x3 e3 => ⟨fun q => absurd (by rw [hs.2.2.1]; exact w) q, fun _ => r0_goes (by omega) hs (fun M1 f1 r1 => h _ M1 f1 r1 (fun _ => ⟨by rw [e3]; exact nm1, k⟩))⟩)
    · have e : p_take (z_tks bt n) hi s = p_fail (z_tks bt n) 3 s := by
        unfold p_take
        rw [if_pos w, if_pos k, if_neg (fun g2 => q ⟨by have : 0 ≤ (z_tks bt n s.1).2.2 := nm.2.1; exact this, g2⟩)]
      rw [← e] at r1
      exact bad M1 f1 r1 (by rw [e]; exact p_fail_n (by decide)) _
  · by_cases w : s.2.1 = 0
    · have e : p_take (z_tks bt n) hi s = p_fail (z_tks bt n) 2 s := by
        unfold p_take
        rw [if_pos w, if_neg (c_nf w g)]
      rw [← e] at r1
      exact bad M1 f1 r1 (by rw [e]; exact p_fail_n (by decide)) _
    · have e : p_take (z_tks bt n) hi s = s := by
        unfold p_take
        rw [if_neg w]
      rw [p_fail_w w] at r1
      have r2 := r1
      rw [← e] at r2
      exact bad M1 f1 r2 (by rw [e]; exact w) _
def r_D (D : p_D) (M : q_Mem) : Prop := M 182 0 = d_n D ∧ M 182 1 = d_w D ∧ M 182 2 = 0 ∧ M 182 51 = (d_N D : Int) ∧ M 182 52 = (d_L D : Int) ∧ M 182 102 = 0 ∧ M 182 603 = (d_t D : Int) ∧ (∀ l : Nat, l < d_L D → M 182 (53 + (l : Int)) = ((d_k D l).1 : Int) ∧ M 182 (69 + (l : Int)) = ((d_k D l).2.1 : Int) ∧ M 182 (3 + (l : Int)) = (d_k D l).2.2) ∧ (∀ m : Nat, m < 10 → M 183 m = ((d_r D m).length : Int) ∧ ∀ i : Nat, i < (d_r D m).length → M 184 (16 * (m : Int) + (i : Int)) = ((d_r D m).getD i 0 : Int)) ∧ ∀ i : Nat, i < 2 → (d_l D i = none → M 182 (96 + (i : Int)) = 0) ∧ ∀ b cs, d_l D i = some (b, cs) → M 182 (96 + (i : Int)) = 1 ∧ M 182 (98 + (i : Int)) = (b : Int) ∧ M 182 (100 + (i : Int)) = (cs.length : Int) ∧ ∀ k : Nat, k < cs.length → M 182 ((604 + b + k : Nat) : Int) = cs.getD k 0
theorem r_D_eq {D : p_D} {M M' : q_Mem} (h : r_D D M) (e1 : M' 182 = M 182) (e2 : M' 183 = M 183) (e3 : M' 184 = M 184) : r_D D M' := by
  unfold r_D
  rw [e1, e2, e3]
  exact h
theorem r_D_f {D : p_D} {M M' : q_Mem} (h : r_D D M) (f : r_f0 M M') : r_D D M' := r_D_eq h (f.1 182 (by decide) (by decide)) (f.1 183 (by decide) (by decide)) (f.1 184 (by decide) (by decide))
abbrev z_ZS : List Int := [182, 183, 184]
abbrev r_fz (M M' : q_Mem) : Prop := z_fr z_ZS z_XF M M'
theorem r_fz_0 {M M' : q_Mem} (h : r_f0 M M') : r_fz M M' := z_fr_mono h (by decide) (by decide)
def r_q (bt : Nat → Int) (n : Nat) (Q : p_Q) (M : q_Mem) : Prop := r_a0 bt n Q.1 M ∧ (Q.1.2.1 = 0 → r_D Q.2 M)
theorem r_a0_z {bt : Nat → Int} {n : Nat} {s : p_S} {M M' : q_Mem} (h : r_a0 bt n s M) (f : z_fr z_ZS [] M M') : r_a0 bt n s M' := by
  refine ⟨z_rt_f h.1 f (by decide) (by decide), ?_, ?_, ?_⟩
  · unfold z_rtk
    rw [f.2 8 (by decide), f.2 9 (by decide), f.2 11 (by decide), f.2 12 (by decide)]
    exact h.2.1
  · rw [f.2 13 (by decide)]; exact h.2.2.1
  · rw [f.2 14 (by decide)]; exact h.2.2.2
theorem rq_node {d : Nat} {M : q_Mem} {K : q_Mem → Prop} {bt : Nat → Int} {n : Nat} {s : p_S} {D : p_D} (hd : 6 < d) (hs : r_q bt n (s, D) M) (hw : s.2.1 = 0) (hN : d_N D ≤ 10) (hL : d_L D ≤ 16) (h : ∀ M', r_fz M M' → r_q bt n (q_node (z_tks bt n) s D) M' → K M') : q_kU yX12_readNode mX12_readNode d [qR 178] M K := by
  have D1 : r_D D M := hs.2 hw
  have N1 := D1.2.2.2.1
  unfold q_node at h
  refine q_goU hd rfl (plainFor_of_name (by decide +kernel)) rfl (fun h => nomatch h) (Nat.le_of_ble_eq_true rfl) (fun d hd => bX12_readNode_0 ⟨fun g => ?_, fun g => r0_fails (by omega) hs.1 (fun M1 f1 r1 => ?_)⟩)
  · rw [if_neg (by omega)] at h
    refine bX12_readNode_17 ⟨fun _ => r0_goes (by omega) hs.1 (fun M1 f1 r1 M2 e2 => ?_), fun q => absurd (by rw [hs.1.2.2.1]; exact hw) q⟩
    have D2 : r_D D M1 := r_D_f D1 f1
    have f2 : z_fr z_ZS [] M1 M2 := z_fr_u z_fr_rf e2 (by decide) (by decide)
    rw [D2.2.2.2.1, q_add_eq (by omega)] at e2
    refine h M2 (z_fr_tr (r_fz_0 f1) (z_fr_mono f2 (by decide) (by decide))) ⟨r_a0_z r1 f2, fun _ => ?_⟩
    obtain ⟨a1, a2, a3, a4, a5, a6, a7, a8, a9, a10⟩ := D2
    have e : ∀ j, j ≠ 51 → M2 182 j = M1 182 j := fun j hj => by rw [e2, q_up_n hj]
    have e3 : M2 183 = M1 183 := by rw [e2, q_up_o (by decide)]
    have e4 : M2 184 = M1 184 := by rw [e2, q_up_o (by decide)]
    have up : M2 182 51 = (d_N D : Int) + 1 := by rw [e2, q_up_s]
    clear e2
    refine ⟨by rw [e _ (by decide)]; exact a1, by rw [e _ (by decide)]; exact a2, by rw [e _ (by decide)]; exact a3, by rw [up]; rfl, by rw [e _ (by decide)]; exact a5, by rw [e _ (by decide)]; exact a6, by rw [e _ (by decide)]; exact a7, fun l hl => ?_, by rw [e3, e4]; exact a9, fun i hi => ?_⟩
    · have hl2 : l < d_L D := hl
      rw [e _ (by omega), e _ (by omega), e _ (by omega)]
      exact a8 l hl
    · rw [e _ (by omega), e _ (by omega), e _ (by omega)]
      refine ⟨(a10 i hi).1, fun b cs q => ?_⟩
      have := (a10 i hi).2 b cs q
      exact ⟨this.1, this.2.1, this.2.2.1, fun k hk => by rw [e _ (by omega)]; exact this.2.2.2 k hk⟩
  · rw [if_pos (by omega)] at h
    refine bX12_readNode_17 ⟨fun q => absurd (by rw [← r1.2.2.1]; exact q) (p_fail_n (by decide)), fun _ => h M1 (r_fz_0 f1) ⟨r1, fun q => absurd q (p_fail_n (by decide))⟩⟩
