-- weigh, warm, turn, fall
theorem c_weigh {d : Nat} {M : q_Mem} {K : Int → q_Mem → Prop} {l t : Int} (hd : 5 < d) (hR : z_IV M) (h1 : (0 ≤ l ∧ l < z_L (M 179)) → (-99 ≤ t ∧ t ≤ 99) → ∀ M', (∀ a, 178 ≤ a → M' a = M a) → z_K M' (z_ro M (z_note (z_wg (M 179) l.toNat t) (fun k => M 179 (1 + k)))) → K (M 179 (3 + l)) M') (h0 : ¬ ((0 ≤ l ∧ l < z_L (M 179)) ∧ -99 ≤ t ∧ t ≤ 99) → K (-99000011) M) : q_kI yX11_weigh mX11_weigh d [qR 1, qI l, qI t] M K := by
  have hL := z_net_L16 hR.1.1
  refine q_goI hd rfl (plainFor_of_name (by decide +kernel)) rfl (fun h => nomatch h) (Nat.le_of_ble_eq_true rfl) (fun d hd => bX11_weigh_0 _ _ (k_canWeigh (by omega) hR.1.1 hR.2.1.1 (fun g1 g2 => ⟨fun _ => R_keep (by omega) hR (fun M3 d3 r3 s3 => ⟨by omega, fun x3 e3 => ?_⟩), fun q => absurd q (by decide)⟩) (fun g => ⟨fun q => absurd rfl q, fun _ => h0 g⟩)))
  obtain ⟨m, rfl⟩ : ∃ m : Nat, l = (m : Int) := ⟨l.toNat, by omega⟩
  rw [Int.toNat_natCast] at h1
  have ho : z_ost (M 179) (z_wg (M 179) m t) := z_ost_put (by omega)
  refine k_setGain (by omega) hR.1 r3 (by omega) (fun M6 f6 c6 => ?_)
  rw [e3, z_cst_g r3.1 (by omega)]
  exact h1 g1 g2 M6 (fun a ha => (z_dq_hi (z_dq_df f6) ha).trans (z_dq_hi d3 ha)) (z_K_note hR (z_dq_tr d3 (z_dq_df f6)) ho (z_E_wg hR.1 (by omega) g2) c6 (s3 _ ho) (fun a q1 q2 => f6.1 a (by omega) (by omega)))
theorem r_weigh {d : Nat} {M : q_Mem} {K : Int → q_Mem → Prop} {l t : Int} (hd : 3 < d) (hE : z_E (M 179)) (hb : 0 ≤ M 179 102 ∧ M 179 102 ≤ 10) (h1 : (0 ≤ l ∧ l < z_L (M 179)) → (-99 ≤ t ∧ t ≤ 99) → ∀ M', z_fr [179, 185, 186, 187, 193] [0] M M' → M' 179 = z_note (z_wg (M 179) l.toNat t) (fun k => M 179 (1 + k)) → K (M 179 (3 + l)) M') (h0 : ¬ ((0 ≤ l ∧ l < z_L (M 179)) ∧ -99 ≤ t ∧ t ≤ 99) → ∀ M', z_fr [] [0] M M' → K (-99000011) M') : q_kI yX12_weigh mX12_weigh d [qR 178, qI l, qI t] M K := by
  have hL := z_net_L16 hE.1
  refine q_goI hd rfl (plainFor_of_name (by decide +kernel)) rfl (fun h => nomatch h) (Nat.le_of_ble_eq_true rfl) (fun d hd => bX12_weigh_0 _ _ (fun M1 e1 => ?_))
  have f1 : z_fr [] [0] M M1 := by rw [e1]; exact z_fr_f (by decide)
  have o1 : M1 179 = M 179 := f1.1 179 (by decide) (by decide)
  refine k_isLink (by omega) (by rw [o1]; exact hE.1) (fun g1 g2 => ⟨fun q => absurd q (by decide), fun _ => k_within (by omega) (fun g3 g4 => ⟨fun _ => k_stores (by omega) (fun M4 f4 w4 => ?_), fun q => absurd q (by decide)⟩) (fun g => ⟨fun q => absurd rfl q, fun _ => h0 (fun q => g q.2) M1 f1⟩)⟩) (fun g => ⟨fun _ => ?_, fun q => absurd rfl q⟩)
  · rw [o1] at g2
    have o4 : M4 179 = M 179 := (f4.1 179 (by decide) (by decide)).trans o1
    obtain ⟨m, rfl⟩ : ∃ m : Nat, l = (m : Int) := ⟨l.toNat, by omega⟩
    rw [Int.toNat_natCast] at h1
    rw [q_add_eq (by omega)]
    refine ⟨by omega, fun M5 e5 => ?_⟩
    have o5 : M5 179 = z_wg (M 179) m t := by rw [e5, z_upP, o4]; rfl
    have b1 : 0 ≤ z_wg (M 179) m t 102 ∧ z_wg (M 179) m t 102 ≤ 10 := by
      unfold z_wg
      rw [z_put_n (by omega)]; exact hb
    refine k_notes (by omega) (by rw [o5]; exact b1) (fun M6 f6 e6 => ?_)
    have o6 : M6 179 = z_note (z_wg (M 179) m t) (fun k => M 179 (1 + k)) := by
      rw [e6, o5]
      exact z_note_c (fun k hk => by rw [e5, q_up_o (by decide), w4 k hk, o1])
    have v6 : M6 193 (2 + (m : Int)) = M 179 (3 + (m : Int)) := by
      rw [f6.1 193 (by decide) (by decide), e5, q_up_o (by decide), show (2 : Int) + (m : Int) = ((2 + m : Nat) : Int) by omega, w4 (2 + m) (by omega), o1]
      congr 1 <;> omega
    rw [q_sub_eq (by omega), show (3 : Int) + (m : Int) - 1 = 2 + (m : Int) by omega, v6]
    refine ⟨by omega, h1 ⟨g1, g2⟩ ⟨g3, g4⟩ M6 (z_fr_tr (z_fr_tr (z_fr_tr (z_fr_mono f1 (by decide) (by decide)) (z_fr_mono f4 (by decide) (by decide))) (z_fr_u z_fr_rf e5 (by decide) (by decide))) (z_fr_mono f6 (by decide) (by decide))) o6⟩
  · rw [o1] at g
    exact h0 (fun q => g q.1) M1 f1
theorem tt_weigh {d : Nat} {M : q_Mem} {K : Int → Int → q_Mem → Prop} {l t : Int} (hd : 60 < d) (hR : z_IV M) (h : ∀ v M', z_IV M' → K v v M') : q_kI yX11_weigh mX11_weigh d [qR 1, qI l, qI t] M (fun v M1 => q_kI yX12_weigh mX12_weigh d [qR 178, qI l, qI t] M1 (fun v2 M2 => K v v2 M2)) :=
  c_weigh (by omega) hR (fun g1 g2 M1 hi k1 => r_weigh (by omega) (z_hiE hR hi).1 (z_hiE hR hi).2 (fun q1 q2 M2 f2 e2 => by
    rw [hi 179 (by decide)] at e2 ⊢
    exact h _ M2 (z_IV_d k1 hi f2 (by decide) (by decide) e2)) (fun g => by rw [hi 179 (by decide)] at g; exact absurd ⟨g1, g2⟩ g)) (fun g => r_weigh (by omega) hR.1 (z_hs_n hR.2.2.2.1) (fun q1 q2 => absurd ⟨q1, q2⟩ g) (fun _ M2 f2 => h _ M2 (z_IV_r hR f2 (by decide) (by decide))))
/-- warm -/
theorem c_warm {d : Nat} {M : q_Mem} {K : Int → q_Mem → Prop} {t : Int} (hd : 5 < d) (hR : z_IV M) (h1 : (0 ≤ t ∧ t ≤ 9) → ∀ M', (∀ a, 178 ≤ a → M' a = M a) → z_K M' (z_ro M (z_note (z_wm (M 179) t) (fun k => M 179 (1 + k)))) → K (M 179 1) M') (h0 : ¬ (0 ≤ t ∧ t ≤ 9) → K (-11) M) : q_kI yX11_warm mX11_warm d [qR 1, qI t] M K := by
  refine q_goI hd rfl (plainFor_of_name (by decide +kernel)) rfl (fun h => nomatch h) (Nat.le_of_ble_eq_true rfl) (fun d hd => bX11_warm_0 _ (k_canWarm (by omega) (fun g1 g2 => ⟨fun _ => R_keep (by omega) hR (fun M3 d3 r3 s3 x3 e3 => ?_), fun q => absurd q (by decide)⟩) (fun g => ⟨fun q => absurd rfl q, fun _ => h0 (by omega)⟩)))
  have ho : z_ost (M 179) (z_wm (M 179) t) := z_ost_put (by omega)
  refine k_setWarmth (by omega) hR.1 r3 (fun M6 f6 c6 => ?_)
  rw [e3, r3.1.2.2.1]
  exact h1 ⟨g1, by omega⟩ M6 (fun a ha => (z_dq_hi (z_dq_df f6) ha).trans (z_dq_hi d3 ha)) (z_K_note hR (z_dq_tr d3 (z_dq_df f6)) ho (z_E_wm hR.1 ⟨g1, by omega⟩) c6 (s3 _ ho) (fun a q1 q2 => f6.1 a (by omega) (by omega)))
theorem r_warm {d : Nat} {M : q_Mem} {K : Int → q_Mem → Prop} {t : Int} (hd : 3 < d) (hb : 0 ≤ M 179 102 ∧ M 179 102 ≤ 10) (h1 : (0 ≤ t ∧ t ≤ 9) → ∀ M', z_fr [179, 185, 186, 187, 193] [0] M M' → M' 179 = z_note (z_wm (M 179) t) (fun k => M 179 (1 + k)) → K (M 179 1) M') (h0 : ¬ (0 ≤ t ∧ t ≤ 9) → ∀ M', z_fr [] [0] M M' → K (-11) M') : q_kI yX12_warm mX12_warm d [qR 178, qI t] M K := by
  refine q_goI hd rfl (plainFor_of_name (by decide +kernel)) rfl (fun h => nomatch h) (Nat.le_of_ble_eq_true rfl) (fun d hd => bX12_warm_0 _ (fun M1 e1 => ?_))
  have f1 : z_fr [] [0] M M1 := by rw [e1]; exact z_fr_f (by decide)
  have o1 : M1 179 = M 179 := f1.1 179 (by decide) (by decide)
  refine k_within (by omega) (fun g3 g4 => ⟨fun _ => k_stores (by omega) (fun M4 f4 w4 M5 e5 => ?_), fun q => absurd q (by decide)⟩) (fun g => ⟨fun q => absurd rfl q, fun _ => h0 g M1 f1⟩)
  have o4 : M4 179 = M 179 := (f4.1 179 (by decide) (by decide)).trans o1
  have o5 : M5 179 = z_wm (M 179) t := by rw [e5, z_upP, o4]; rfl
  have b1 : 0 ≤ z_wm (M 179) t 102 ∧ z_wm (M 179) t 102 ≤ 10 := by
    unfold z_wm
    rw [z_put_n (by omega)]; exact hb
  refine k_notes (by omega) (by rw [o5]; exact b1) (fun M6 f6 e6 => ?_)
  have o6 : M6 179 = z_note (z_wm (M 179) t) (fun k => M 179 (1 + k)) := by
    rw [e6, o5]
    exact z_note_c (fun k hk => by rw [e5, q_up_o (by decide), w4 k hk, o1])
  have v6 : M6 193 0 = M 179 1 := by
    rw [f6.1 193 (by decide) (by decide), e5, q_up_o (by decide)]
    have := w4 0 (by omega)
    rw [o1] at this
    exact this
  rw [v6]
  exact h1 ⟨g3, g4⟩ M6 (z_fr_tr (z_fr_tr (z_fr_tr (z_fr_mono f1 (by decide) (by decide)) (z_fr_mono f4 (by decide) (by decide))) (z_fr_u z_fr_rf e5 (by decide) (by decide))) (z_fr_mono f6 (by decide) (by decide))) o6
theorem tt_warm {d : Nat} {M : q_Mem} {K : Int → Int → q_Mem → Prop} {t : Int} (hd : 60 < d) (hR : z_IV M) (h : ∀ v M', z_IV M' → K v v M') : q_kI yX11_warm mX11_warm d [qR 1, qI t] M (fun v M1 => q_kI yX12_warm mX12_warm d [qR 178, qI t] M1 (fun v2 M2 => K v v2 M2)) :=
  c_warm (by omega) hR (fun g1 M1 hi k1 => r_warm (by omega) (z_hiE hR hi).2 (fun q1 M2 f2 e2 => by
    rw [hi 179 (by decide)] at e2 ⊢
    exact h _ M2 (z_IV_d k1 hi f2 (by decide) (by decide) e2)) (fun g => absurd g1 g)) (fun g => r_warm (by omega) (z_hs_n hR.2.2.2.1) (fun q1 => absurd q1 g) (fun _ M2 f2 => h _ M2 (z_IV_r hR f2 (by decide) (by decide))))
/-- turn -/
theorem c_turn {d : Nat} {M : q_Mem} {K : Int → q_Mem → Prop} {n i : Int} (hd : 5 < d) (hR : z_IV M) (h1 : (0 ≤ n ∧ n < z_N (M 179)) → (0 ≤ i ∧ i + 1 < z_dg (M 179) n.toNat) → ∀ M', (∀ a, 178 ≤ a → M' a = M a) → z_K M' (z_ro M (z_note (z_tn (M 179) n.toNat i.toNat) (fun k => M 179 (1 + k)))) → K (z_tw (z_tn (M 179) n.toNat i.toNat)) M') (h0 : ¬ ((0 ≤ n ∧ n < z_N (M 179)) ∧ 0 ≤ i ∧ i + 1 < z_dg (M 179) n.toNat) → K (-11) M) : q_kI yX11_turn mX11_turn d [qR 1, qI n, qI i] M K := by
  have hN := z_net_N10 hR.1.1
  have hL := z_net_L16 hR.1.1
  refine q_goI hd rfl (plainFor_of_name (by decide +kernel)) rfl (fun h => nomatch h) (Nat.le_of_ble_eq_true rfl) (fun d hd => bX11_turn_0 _ _ (k_canTurn (by omega) hR.1.1 hR.2.1.1 (fun g1 g2 => ⟨fun _ => R_keep (by omega) hR (fun M3 d3 r3 s3 => ?_), fun q => absurd q (by decide)⟩) (fun g => ⟨fun q => absurd rfl q, fun _ => h0 g⟩)))
  obtain ⟨m, rfl⟩ : ∃ m : Nat, n = (m : Int) := ⟨n.toNat, by omega⟩
  obtain ⟨j, rfl⟩ : ∃ m : Nat, i = (m : Int) := ⟨i.toNat, by omega⟩
  rw [Int.toNat_natCast] at h1 g2
  rw [Int.toNat_natCast] at h1
  have dg := z_net_dg hR.1.1 (n := m) (by omega)
  have sL := z_net_stL hR.1.1 (n := m + 1) (by omega)
  have ho : z_ost (M 179) (z_tn (M 179) m j) := z_ost_tn (by omega)
  have E1 := z_E_tn hR.1 (n := m) (i := j) (by omega) (by omega)
  refine k_swap (by omega) hR.1 r3 (by omega) (by omega) (fun M6 f6 c6 => ?_)
  obtain ⟨cc, fr, ca⟩ := c6
  refine q_goI hd rfl (plainFor_of_name (by decide +kernel)) rfl (fun h => nomatch h) (Nat.le_of_ble_eq_true rfl) (fun d hd => bX11_twists_0 (k_needShape (by omega) E1 cc ca (fun M7 f7 c7 a7 => ?_)))
  have s7 : z_sh (z_tn (M 179) m j) M7 := (z_has (k := 0) a7 (by decide) (by decide) : z_hv _ M7 0)
  rw [s7.2.2.2.2.2]
  exact h1 g1 g2 M7 (fun a ha => (z_qf_hi f7 ha).trans ((z_dq_hi (z_dq_df f6) ha).trans (z_dq_hi d3 ha))) (z_K_note hR (z_dq_tr (z_dq_tr d3 (z_dq_df f6)) (z_dq_qf f7)) ho E1 ⟨c7, _, a7⟩ (s3 _ ho) (fun a q1 q2 => (f7.1 a (by omega) (by unfold z_QP; omega)).trans (f6.1 a (by omega) (by omega))))
theorem r_turn {d : Nat} {M : q_Mem} {K : Int → q_Mem → Prop} {n i : Int} (hd : 4 < d) (hE : z_E (M 179)) (hb : 0 ≤ M 179 102 ∧ M 179 102 ≤ 10) (h1 : (0 ≤ n ∧ n < z_N (M 179)) → (0 ≤ i ∧ i + 1 < z_dg (M 179) n.toNat) → ∀ M', z_fr [179, 185, 186, 187, 188, 189, 190, 191, 193] [0, 25, 26] M M' → M' 179 = z_note (z_tn (M 179) n.toNat i.toNat) (fun k => M 179 (1 + k)) → K (z_tw (z_tn (M 179) n.toNat i.toNat)) M') (h0 : ¬ ((0 ≤ n ∧ n < z_N (M 179)) ∧ 0 ≤ i ∧ i + 1 < z_dg (M 179) n.toNat) → ∀ M', z_fr [] [0] M M' → K (-11) M') : q_kI yX12_turn mX12_turn d [qR 178, qI n, qI i] M K := by
  have hN := z_net_N10 hE.1
  have hL := z_net_L16 hE.1
  refine q_goI hd rfl (plainFor_of_name (by decide +kernel)) rfl (fun h => nomatch h) (Nat.le_of_ble_eq_true rfl) (fun d hd => bX12_turn_0 _ _ (fun M1 e1 => ?_))
  have f1 : z_fr [] [0] M M1 := by rw [e1]; exact z_fr_f (by decide)
  have o1 : M1 179 = M 179 := f1.1 179 (by decide) (by decide)
  refine k_rcanTurn (by omega) (by rw [o1]; exact hE.1) (fun g1 g2 => ⟨fun _ => k_stores (by omega) (fun M4 f4 w4 => ?_), fun q => absurd q (by decide)⟩) (fun g => ⟨fun q => absurd rfl q, fun _ => by rw [o1] at g; exact h0 g M1 f1⟩)
  rw [o1] at g1 g2
  have o4 : M4 179 = M 179 := (f4.1 179 (by decide) (by decide)).trans o1
  obtain ⟨m, rfl⟩ : ∃ m : Nat, n = (m : Int) := ⟨n.toNat, by omega⟩
  obtain ⟨j, rfl⟩ : ∃ m : Nat, i = (m : Int) := ⟨i.toNat, by omega⟩
  rw [Int.toNat_natCast] at h1 g2
  rw [Int.toNat_natCast] at h1
  have dg := z_net_dg hE.1 (n := m) (by omega)
  have sL := z_net_stL hE.1 (n := m + 1) (by omega)
  have ho : z_ost (M 179) (z_tn (M 179) m j) := z_ost_tn (by omega)
  have E1 := z_E_tn hE (n := m) (i := j) (by omega) (by omega)
  refine k_turns (by omega) (by rw [o4]; exact hE.1) (by rw [o4]; omega) (by rw [o4]; omega) (fun M5 f5 e5 => ?_)
  rw [o4] at e5
  have b1 : 0 ≤ z_tn (M 179) m j 102 ∧ z_tn (M 179) m j 102 ≤ 10 := by rw [ho 102 (by omega)]; exact hb
  refine k_notes (by omega) (by rw [e5]; exact b1) (fun M6 f6 e6 => ?_)
  have o6 : M6 179 = z_note (z_tn (M 179) m j) (fun k => M 179 (1 + k)) := by
    rw [e6, e5]
    exact z_note_c (fun k hk => by rw [f5.1 193 (by decide) (by decide), w4 k hk, o1])
  have on := z_onh_note (w := fun k => M 179 (1 + k)) b1
  have E6 := z_E_h on E1
  refine k_twistsNow (by omega) (by rw [o6]; exact E6.1) (by rw [o6]; exact E6.2.2.2.2.2) (fun M7 f7 _ _ _ => ?_)
  rw [o6, e_tw (z_onh_n on) (z_onh_r on) E1.1 E1.2.2.2.2.2]
  exact h1 g1 g2 M7 (z_fr_tr (z_fr_tr (z_fr_tr (z_fr_tr (z_fr_mono f1 (by decide) (by decide)) (z_fr_mono f4 (by decide) (by decide))) (z_fr_mono f5 (by decide) (by decide))) (z_fr_mono f6 (by decide) (by decide))) (z_fr_mono f7 (by decide) (by decide))) ((f7.1 179 (by decide) (by decide)).trans o6)
theorem tt_turn {d : Nat} {M : q_Mem} {K : Int → Int → q_Mem → Prop} {n i : Int} (hd : 60 < d) (hR : z_IV M) (h : ∀ v M', z_IV M' → K v v M') : q_kI yX11_turn mX11_turn d [qR 1, qI n, qI i] M (fun v M1 => q_kI yX12_turn mX12_turn d [qR 178, qI n, qI i] M1 (fun v2 M2 => K v v2 M2)) :=
  c_turn (by omega) hR (fun g1 g2 M1 hi k1 => r_turn (by omega) (z_hiE hR hi).1 (z_hiE hR hi).2 (fun q1 q2 M2 f2 e2 => by
    rw [hi 179 (by decide)] at e2 ⊢
    exact h _ M2 (z_IV_d k1 hi f2 (by decide) (by decide) e2)) (fun g => by rw [hi 179 (by decide)] at g; exact absurd ⟨g1, g2⟩ g)) (fun g => r_turn (by omega) hR.1 (z_hs_n hR.2.2.2.1) (fun q1 q2 => absurd ⟨q1, q2⟩ g) (fun _ M2 f2 => h _ M2 (z_IV_r hR f2 (by decide) (by decide))))
/-- fall -/
theorem l_cfall {d : Nat} {M0 : q_Mem} {K : Int → q_Mem → Prop} {o : Int → Int} {e : Nat} (hd : 24 ≤ d) (hE : z_E o) (h : ∀ M', z_dq M0 M' → (∀ a, 53 ≤ a → a ≤ 87 → M' a = M0 a) → z_RC M' (z_put o 2 (e : Int)) → K (z_V2 o e) M') :
    ∀ (k : Nat) (M : q_Mem) (s i fr : Nat), i + k = 1024 → z_dq M0 M → (∀ a, 53 ≤ a → a ≤ 87 → M a = M0 a) → s < 2 ^ z_N o → z_cst M (z_put o 2 (s : Int)) → z_ca M (z_put o 2 (s : Int)) (fr ||| 2) → z_rk (z_V2 o) (z_N o) s < k → z_fa2 (z_V2 o) (z_N o) k s = e → q_v mX11_fall d (qPI K) M 18 [some (qR 1), some (qI (i : Int)), none] [] := by
  have hN := z_net_N10 hE.1
  intro k
  induction k with
  | zero => intro M s i fr _ _ _ _ _ _ r; omega
  | succ k ih =>
    intro M s i fr ik dq kp hs hc ca r eq
    have vp := z_V2_put hE (s := s)
    have E1 := z_E_put2 hE hs
    have hv1 : z_hv (z_put o 2 (s : Int)) M 1 := z_has (k := 1) (t := 2) ca (by decide) (by decide)
    refine bX11_fall_18 _ ⟨fun g => absurd g (by omega), fun _ => k_cmost (by omega) E1 hc hv1 ?_⟩
    rw [vp.1, vp.2.1, z_s_put]
    rcases (z_bf_ok (V := z_V2 o) (s := s) (n := z_N o)).2 with g | ⟨m, a, b, lt⟩
    · rw [g]
      refine ⟨fun q => absurd rfl q, fun _ => k_cworth (by omega) E1 hc ca (fun M5 f5 c5 a5 => ?_)⟩
      have es2 : s = e := by
        unfold z_fa2 at eq
        rw [if_pos g] at eq
        exact eq
      subst es2
      rw [vp.1, z_s_put]
      exact h M5 (z_dq_tr dq (z_dq_qf f5)) (fun a q1 q2 => (f5.1 a (by omega) (by unfold z_QP; omega)).trans (kp a q1 q2)) ⟨c5, _, a5⟩
    · rw [b]
      refine ⟨fun _ M5 e5 => ?_, fun q => absurd q (by omega)⟩
      have sM : M 50 1 = (s : Int) := by rw [z_E_sM E1 hc, z_s_put]
      rw [sM, q_xor1 (by have := z_p10 hs hN; omega) (by omega)] at e5
      have fl := z_flip_lt hs a
      have rc := z_rc_fl E1 ⟨hc, _, ca⟩ (s := s ^^^ 2 ^ m) (by rw [vp.2.1]; exact fl) e5
      rw [z_put_put] at rc
      have rk := z_rk_lt (N := z_N o) fl lt
      rw [q_add_eq (by omega), show (i : Int) + 1 = ((i + 1 : Nat) : Int) by omega]
      have ca5 : z_ca M5 (z_put o 2 ((s ^^^ 2 ^ m : Nat) : Int)) (fr ||| 2) := by
        have ho := z_ost_put (o := z_put o 2 (s : Int)) (k := 2) (v := ((s ^^^ 2 ^ m : Nat) : Int)) (by omega)
        have := z_ca_do E1 ca ho rc.1 (f1 := fr ||| 2) (by rw [e5, q_up_o (by decide)]; exact ca.1) ca.2.1 (fun k hk hb => ⟨hb, fun _ j g1 g2 => z_put_n (by omega), fun _ => ⟨z_put_n (by omega), fun l _ => z_put_n (by omega)⟩⟩)
        rw [z_put_put] at this
        exact this
      refine ih M5 (s ^^^ 2 ^ m) (i + 1) fr (by omega) (z_dq_tr dq (z_dq_df rc.1)) (fun a q1 q2 => (rc.1.1 a (by omega) (by omega)).trans (kp a q1 q2)) fl rc.2.1 ca5 (by omega) ?_
      unfold z_fa2 at eq
      rw [if_neg (by omega), b, Int.toNat_natCast] at eq
      exact eq
theorem c_fall {d : Nat} {M : q_Mem} {K : Int → q_Mem → Prop}  (hd : 25 < d) (hR : z_IV M) (h : ∀ M', (∀ a, 178 ≤ a → M' a = M a) → z_K M' (z_ro M (z_note (z_put (M 179) 2 (z_fall (M 179) : Int)) (fun k => M 179 (1 + k)))) → K (z_V2 (M 179) (z_fall (M 179))) M') : q_kI yX11_fall mX11_fall d [qR 1] M K := by
  have hN := z_net_N10 hR.1.1
  have s := z_E_s hR.1
  refine q_goI hd rfl (plainFor_of_name (by decide +kernel)) rfl (fun h => nomatch h) (Nat.le_of_ble_eq_true rfl) (fun d hd => bX11_fall_0 (R_keep (by omega) hR (fun M3 d3 r3 s3 => ?_)))
  obtain ⟨c3, fr, a3⟩ := r3
  have el := z_fa2_lt (V := z_V2 (M 179)) (k := 1024) s.2.1
  have ho : z_ost (M 179) (z_put (M 179) 2 (z_fall (M 179) : Int)) := z_ost_put (by omega)
  refine k_need (t := 2) (by omega) hR.1 c3 a3 z_cl_2 (fun M4 f4 c4 a4 => ?_)
  refine l_cfall (M0 := M4) (o := M 179) (e := z_fall (M 179)) (by omega) hR.1 (fun M5 d5 k5 r5 => ?_) 1024 M4 (z_s (M 179)) 0 fr (by omega) z_dq_rf (fun _ _ _ => rfl) s.2.1 (by rw [z_put_id s.1]; exact c4) (by rw [z_put_id s.1]; exact a4) (z_rk_1024 hN s.2.1) rfl
  exact h M5 (fun a ha => (z_dq_hi d5 ha).trans ((z_qf_hi f4 ha).trans (z_dq_hi d3 ha))) (z_K_note hR (z_dq_tr (z_dq_tr d3 (z_dq_qf f4)) d5) ho (z_E_put2 hR.1 el) r5 (s3 _ ho) (fun a q1 q2 => (k5 a (by omega) q2).trans (f4.1 a (by omega) (by unfold z_QP; omega))))
theorem tt_fall {d : Nat} {M : q_Mem} {K : Int → Int → q_Mem → Prop} (hd : 60 < d) (hR : z_IV M) (h : ∀ v M', z_IV M' → K v v M') : q_kI yX11_fall mX11_fall d [qR 1] M (fun v M1 => q_kI yX12_fall mX12_fall d [qR 178] M1 (fun v2 M2 => K v v2 M2)) :=
  c_fall (by omega) hR (fun M1 hi k1 => k_rfall (by omega) (z_hiE hR hi).1 (z_hiE hR hi).2 (fun M2 f2 e2 => by
    rw [hi 179 (by decide)] at e2 ⊢
    exact h _ M2 (z_IV_d k1 hi f2 (by decide) (by decide) e2)))
