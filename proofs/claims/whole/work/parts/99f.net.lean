-- the call net, both
theorem cq_net {d : Nat} {M : q_Mem} {K : Int → q_Mem → Prop} {bt : Nat → Int} {T : Nat} {v p : Int} (hd : 66 < d) (hp : p = 3 ∨ p = 18) (h5 : M 1 5 = p) (h4 : M 1 4 = 21 - p) (ht : M 1 1 = (T : Int)) (hT : T ≤ 900) (hb : ∀ j : Nat, j < T → q_and (M 2 j) 255 = bt j ∧ 0 ≤ bt j ∧ bt j ≤ 255) (hneg : ¬ (0 ≤ v ∧ v ≤ (T : Int)) → K (-3) M) (h1 : ∀ (n : Nat) (M' : q_Mem), v = (n : Int) → n ≤ T → (∀ a, a ≠ 1 → a ≠ 33 → a ≠ 50 → a ≠ 51 → a ≠ 52 → a ≠ 56 → ¬ (p ≤ a ∧ a ≤ p + 14) → M' a = M a) → (∀ k, k ≠ 0 → M' 56 k = M 56 k) → M' 56 0 = 0 → M' 1 1 = 0 → M' 1 2 = 0 → M' 1 3 = -1 → M' 1 4 = p → M' 1 5 = 21 - p → M' 1 18 = 0 → (q_net (z_tks bt n) (n + 1)).1.2.1 = 0 → d_ok n (q_net (z_tks bt n) (n + 1)).1 (q_net (z_tks bt n) (n + 1)).2 → c_D p (q_net (z_tks bt n) (n + 1)).2 M' → M' 50 0 = d_w (q_net (z_tks bt n) (n + 1)).2 → M' 50 1 = 0 → (∀ l : Nat, l < d_L (q_net (z_tks bt n) (n + 1)).2 → M' 51 l = (d_k (q_net (z_tks bt n) (n + 1)).2 l).2.2) → (∀ x, x < d_N (q_net (z_tks bt n) (n + 1)).2 → z_ent M' x (d_rg (q_net (z_tks bt n) (n + 1)).2 x)) → K (d_n (q_net (z_tks bt n) (n + 1)).2) M') (h0 : ∀ (n : Nat) (M' : q_Mem), v = (n : Int) → n ≤ T → (∀ a, a ≠ 1 → a ≠ 33 → ¬ (p ≤ a ∧ a ≤ p + 14) → M' a = M a) → (∀ k, k ≠ 1 → k ≠ 2 → k ≠ 3 → M' 1 k = M 1 k) → M' 1 1 = 0 → M' 1 2 = (q_net (z_tks bt n) (n + 1)).1.2.1 → M' 1 3 = (q_net (z_tks bt n) (n + 1)).1.2.2.1 → ¬ (q_net (z_tks bt n) (n + 1)).1.2.1 = 0 → K (q_sub (-30) (q_net (z_tks bt n) (n + 1)).1.2.1) M') : q_kI yX11_net mX11_net d [qR 1, qI v] M K := by
  refine q_goI hd rfl (plainFor_of_name (by decide +kernel)) rfl (fun h => nomatch h) (Nat.le_of_ble_eq_true rfl) (fun d hd => bX11_net_0 _ ⟨fun g => hneg (by omega), fun g => ⟨fun g2 M1 e1 => ?_, fun g2 => hneg (by omega)⟩⟩)
  obtain ⟨n, en⟩ : ∃ n : Nat, v = (n : Int) := ⟨v.toNat, by omega⟩
  have nT : n ≤ T := by omega
  have hN := h1 n
  have hZ := h0 n
  rw [en]
  have kp := c_kp hp
  have o1 : ∀ a, a ≠ 1 → M1 a = M a := fun a g => by rw [e1, q_up_o g]
  rw [show M1 1 5 = p by rw [e1, q_up_n (by decide)]; exact h5]
  have fin := q_lines_ok (n := n) (F := n + 1) (z_tks_lt (bt := bt)) z_tks_num (n + 1) (q_head (z_tks bt n)) (fun w => (q_head_ok (n := n) (z_tks_lt (bt := bt)) w).1) (Or.inl (by omega))
  have fin : (q_net (z_tks bt n) (n + 1)).1.2.1 = 0 → d_ok n (q_net (z_tks bt n) (n + 1)).1 (q_net (z_tks bt n) (n + 1)).2 := fun w => (fin w).1
  refine cq_text (F := n + 1) (bt := bt) (by omega) (by omega) hp (by omega) (fun j hj => by rw [o1 2 (by decide)]; exact hb j (by omega)) (fun M2 f2 w2 r2 M4 e4 M5 e5 => ⟨fun _ x3 e3 M7 e7 M8 e8 => ?_, fun q => absurd q (by decide)⟩) (fun M2 f2 r2 M4 e4 M5 e5 => ⟨fun q => absurd rfl q, fun _ => ?_⟩)
  · have cD2 : c_D p (q_net (z_tks bt n) (n + 1)).2 M2 := r2.2.2
    have z0 : M2 33 0 = 0 := r2.1.2.2.1
    have z1 : M2 33 1 = -1 := r2.1.2.2.2
    have ok := fin w2
    rw [z0] at e4
    rw [show M4 33 1 = -1 by rw [e4, q_up_o (by decide)]; exact z1] at e5
    have r1 : M2 1 = M1 1 := f2 1 (by decide) (by omega)
    have o25 : ∀ a, a ≠ 1 → M8 a = M2 a := fun a g => by rw [e8, q_up_o g, e7, q_up_o g, e5, q_up_o g, e4, q_up_o g]
    have v3 : x3 = 21 - p := by rw [e3, e5, q_up_n (by decide), e4, q_up_n (by decide), r1, e1, q_up_n (by decide)]; exact h4
    have v5 : M5 1 5 = p := by rw [e5, q_up_n (by decide), e4, q_up_n (by decide), r1, e1, q_up_n (by decide)]; exact h5
    rw [v5] at e7
    rw [v3] at e8
    have v4 : M8 1 4 = p := by rw [e8, q_up_n (by decide), e7, q_up_s]
    have v85 : M8 1 5 = 21 - p := by rw [e8, q_up_s]
    have v81 : M8 1 1 = 0 := by rw [e8, q_up_n (by decide), e7, q_up_n (by decide), e5, q_up_n (by decide), e4, q_up_n (by decide), r1, e1, q_up_s]
    have v82 : M8 1 2 = 0 := by rw [e8, q_up_n (by decide), e7, q_up_n (by decide), e5, q_up_n (by decide), e4, q_up_s]
    have v83 : M8 1 3 = -1 := by rw [e8, q_up_n (by decide), e7, q_up_n (by decide), e5, q_up_s]
    rw [v4]
    have cD8 : c_D p (q_net (z_tks bt n) (n + 1)).2 M8 := c_D_eq cD2 (fun a g g2 => o25 a (by omega))
    refine ⟨kp, cq_layOut (by omega) ok cD8 (fun M10 f10 u0 u1 u5 uz => ?_)⟩
    refine q_goU hd rfl (plainFor_of_name (by decide +kernel)) rfl (fun h => nomatch h) (Nat.le_of_ble_eq_true rfl) (fun d hd => bX0_forget_0 (fun M11 e11 M12 e12 => ?_))
    have r10 : M10 1 = M8 1 := f10 1 (by decide) (by decide) (by decide)
    have o12 : ∀ a, a ≠ 1 → a ≠ 56 → M12 a = M10 a := fun a g g2 => by rw [e12, q_up_o g, e11, q_up_o g2]
    have v12 : ∀ k, k ≠ 18 → M12 1 k = M8 1 k := fun k hk => by rw [e12, q_up_n hk, e11, q_up_o (by decide), r10]
    have cD12 : c_D p (q_net (z_tks bt n) (n + 1)).2 M12 := c_D_eq cD8 (fun a g g2 => by rw [o12 a (by omega) (by omega)]; exact f10 a (by omega) (by omega) (by omega))
    rw [show M12 1 4 = p by rw [v12 4 (by decide)]; exact v4, cD12.2.2.2.1]
    refine ⟨kp, hN M12 en nT (fun a g1 g2 g3 g4 g5 g6 g7 => ?_) (fun k hk => ?_) ?_ (by rw [v12 1 (by decide)]; exact v81) (by rw [v12 2 (by decide)]; exact v82) (by rw [v12 3 (by decide)]; exact v83) (by rw [v12 4 (by decide)]; exact v4) (by rw [v12 5 (by decide)]; exact v85) (by rw [e12, q_up_s]) w2 ok cD12 (by rw [o12 50 (by decide) (by decide)]; exact u0) (by rw [o12 50 (by decide) (by decide)]; exact u1) (fun l hl => by rw [o12 51 (by decide) (by decide)]; exact u5 l hl) (fun x hx i hi => by rw [o12 52 (by decide) (by decide)]; exact uz x hx i hi)⟩
    · rw [o12 a g1 g6, f10 a g3 g4 g5, o25 a g1, f2 a g2 g7, o1 a g1]
    · rw [e12, q_up_o (by decide), e11, q_up_n hk, f10 56 (by decide) (by decide) (by decide), o25 56 (by decide), f2 56 (by decide) (by omega), o1 56 (by decide)]
    · rw [e12, q_up_o (by decide), e11, q_up_s]
  · rw [r2.2.1] at e4
    rw [show M4 33 1 = (q_net (z_tks bt n) (n + 1)).1.2.2.1 by rw [e4, q_up_o (by decide)]; exact r2.2.2] at e5
    have r1 : M2 1 = M1 1 := f2 1 (by decide) (by omega)
    rw [show M5 1 2 = (q_net (z_tks bt n) (n + 1)).1.2.1 by rw [e5, q_up_n (by decide), e4, q_up_s]]
    refine hZ M5 en nT (fun a g1 g2 g3 => ?_) (fun k k1 k2 k3 => ?_) ?_ ?_ ?_ r2.1
    · rw [e5, q_up_o g1, e4, q_up_o g1, f2 a g2 g3, o1 a g1]
    · rw [e5, q_up_n k3, e4, q_up_n k2, r1, e1, q_up_n k1]
    · rw [e5, q_up_n (by decide), e4, q_up_n (by decide), r1, e1, q_up_s]
    · rw [e5, q_up_n (by decide), e4, q_up_s]
    · rw [e5, q_up_s]
theorem rq_net_no {d : Nat} {M : q_Mem} {K : Int → q_Mem → Prop} {v : Int} (hd : 60 < d) (hv : ¬ (0 ≤ v ∧ v ≤ M 178 7)) (h : ∀ M', z_fr [] [0] M M' → K (-3) M') : q_kI yX12_net mX12_net d [qR 178, qI v] M K := by
  refine q_goI hd rfl (plainFor_of_name (by decide +kernel)) rfl (fun h => nomatch h) (Nat.le_of_ble_eq_true rfl) (fun d hd => bX12_net_0 _ (fun M1 e1 => ?_))
  have t1 : M1 178 7 = M 178 7 := by rw [e1, q_up_n (by decide)]
  rw [t1]
  exact k_within (by omega) (fun a b => absurd ⟨a, b⟩ hv) (fun g => ⟨fun q => absurd rfl q, fun _ => h M1 (z_fr_uf z_fr_rf e1 (by decide))⟩)
theorem tt_net {d : Nat} {M : q_Mem} {K : Int → Int → q_Mem → Prop} {v : Int} (hd : 70 < d) (hR : z_IV M) (h : ∀ v M', z_IV M' → K v v M') : q_kI yX11_net mX11_net d [qR 1, qI v] M (fun v1 M1 => q_kI yX12_net mX12_net d [qR 178, qI v] M1 (fun v2 M2 => K v1 v2 M2)) := by
  have hR0 := hR
  obtain ⟨hE, ⟨hc, fr, ca⟩, h5, hhs, hRI, hRY, ⟨rt, rb, rv⟩, h8⟩ := hR
  obtain ⟨T, hT⟩ : ∃ T : Nat, M 178 7 = (T : Int) := ⟨(M 178 7).toNat, by omega⟩
  have p4 := hc.1
  have hv : ∀ j : Nat, j < T → q_and (M 2 j) 255 = M 181 j ∧ 0 ≤ M 181 j ∧ M 181 j ≤ 255 := fun j hj => rv j (by omega)
  refine cq_net (bt := fun j => M 181 j) (T := T) (p := M 1 5) (by omega) (by omega) rfl (by omega) (by omega) (by omega) hv (fun g => ?_) (fun n M1 en nT o1 o56 z56 y1 y2 y3 y4 y5 y18 w ok cD u0 u1 u5 uz => ?_) (fun n M1 en nT o1 y y1 y2 y3 w => ?_)
  · exact rq_net_no (by omega) (by rw [hT]; exact g) (fun M' f => h _ M' (z_IV_r hR0 f (by decide) (by decide)))
  · have hi : ∀ a, 178 ≤ a → M1 a = M a := fun a ha => o1 a (by omega) (by omega) (by omega) (by omega) (by omega) (by omega) (by omega)
    rw [en]
    refine rq_net (F := n + 1) (bt := fun j => M 181 j) (by omega) (by omega) (by omega) (by rw [hi 178 (by decide)]; omega) (fun j hj => by rw [hi 181 (by decide)]; exact ⟨rfl, (hv j (by omega)).2⟩) (fun M2 f2 t7 t15 t16 _ _ ho hy => ?_) (fun M2 _ _ q => absurd w q)
    have lo : ∀ a, a < 178 → M2 a = M1 a := fun a ha => f2.1 a (by simp; omega) (by omega)
    have dw := d_w_net (n := n) (F := n + 1) (z_tks_lt (bt := fun j => M 181 j)) z_tks_num w
    have hE2 := o_E (by omega) dw ok ho
    have hp : M 1 5 = 3 ∨ M 1 5 = 18 := by omega
    refine h _ M2 ⟨hE2, ⟨⟨by rw [lo 1 (by decide), y4]; exact hp, ?_, ?_⟩, 0, by rw [lo 1 (by decide)]; exact y18, by decide, fun k hk hb => absurd hb (by rw [Nat.zero_testBit]; decide)⟩, by rw [lo 1 (by decide), y4, y5], ?_, ?_, ?_, ?_, ?_⟩
    · rw [lo 1 (by decide), y4]
      exact o_pl (by omega) ok ho (c_D_eq cD (fun a g g2 => lo a (by omega)))
    · exact o_sd ok ho (by rw [lo 50 (by decide)]; exact u0) (by rw [lo 50 (by decide)]; exact u1) (fun l hl => by rw [lo 51 (by decide)]; exact u5 l hl) (fun x hx i hi2 => by rw [lo 52 (by decide)]; exact uz x hx i hi2)
    · obtain ⟨top, m, a1, a2, a3, a4, a5, a6⟩ := hhs
      exact ⟨top, 0, a1, by decide, by rw [lo 56 (by decide), o56 1 (by decide)]; exact a3, by rw [lo 56 (by decide)]; exact z56, ho.2.2.2.2.2.1, fun i hi2 => absurd hi2 (Nat.not_lt_zero i)⟩
    · rw [show M2 180 = M 180 by rw [f2.1 180 (by decide) (by decide)]; exact hi 180 (by decide)]
      have im : ∀ i, z_imr (M2 179) i = z_imr (M 179) i := fun i => by
        funext k
        unfold z_imr
        by_cases c : 0 ≤ k ∧ k < 1504
        · rw [if_pos c, if_pos c, hy _ (by omega), hi 179 (by decide)]
        · rw [if_neg c, if_neg c]
      have RI : z_RI M (M2 179) (M 180) := by
        unfold z_RI
        simp only [im]
        exact hRI
      exact (z_RI_eq RI (fun a g g2 => by rw [lo a (by omega)]; exact o1 a (by omega) (by omega) (by omega) (by omega) (by omega) (by omega) (by omega)))
    · rw [show M2 205 = M 205 by rw [f2.1 205 (by decide) (by decide)]; exact hi 205 (by decide), show M2 206 = M 206 by rw [f2.1 206 (by decide) (by decide)]; exact hi 206 (by decide), show M2 207 = M 207 by rw [f2.1 207 (by decide) (by decide)]; exact hi 207 (by decide)]
      exact z_RY_eq hRY (fun a g g2 => by rw [lo a (by omega)]; exact o1 a (by omega) (by omega) (by omega) (by omega) (by omega) (by omega) (by omega))
    · rw [t7]
      exact ⟨by rw [lo 1 (by decide)]; exact y1, by decide, fun i hi2 => by omega⟩
    · rw [lo 1 (by decide), t15, t16]
      exact ⟨y2, y3⟩
  · have hi : ∀ a, 178 ≤ a → M1 a = M a := fun a ha => o1 a (by omega) (by omega) (by omega)
    rw [en]
    refine rq_net (F := n + 1) (bt := fun j => M 181 j) (by omega) (by omega) (by omega) (by rw [hi 178 (by decide)]; omega) (fun j hj => by rw [hi 181 (by decide)]; exact ⟨rfl, (hv j (by omega)).2⟩) (fun M2 _ _ _ _ q => absurd q w) (fun M2 f2 t7 _ t15 t16 => ?_)
    have lo : ∀ a, a < 178 → M2 a = M1 a := fun a ha => f2.1 a (by simp; omega) (by omega)
    have s9 : M2 179 = M 179 := by rw [f2.1 179 (by decide) (by decide)]; exact hi 179 (by decide)
    have o2 : ∀ a, a ≠ 1 → a ≠ 33 → ¬ (M 1 5 ≤ a ∧ a ≤ M 1 5 + 14) → a < 178 → M2 a = M a := fun a g g2 g3 g4 => (lo a g4).trans (o1 a g g2 g3)
    refine h _ M2 ⟨by rw [s9]; exact hE, ?_, by rw [lo 1 (by decide), y 4 (by decide) (by decide) (by decide), y 5 (by decide) (by decide) (by decide)]; exact h5, ?_, ?_, ?_, ?_, ?_⟩
    · rw [s9]
      refine ⟨⟨?_, ?_, ?_⟩, fr, z_ca_eq hE ca (by rw [lo 1 (by decide)]; exact y 18 (by decide) (by decide) (by decide)) (fun k a hk ha => o2 a (by unfold z_OP at ha; omega) (by unfold z_OP at ha; omega) (by unfold z_OP at ha; omega) (by unfold z_OP at ha; omega))⟩
      · rw [lo 1 (by decide), y 4 (by decide) (by decide) (by decide)]; exact hc.1
      · rw [lo 1 (by decide), y 4 (by decide) (by decide) (by decide)]
        exact z_pl_eq hc.2.1 (o2 _ (by omega) (by omega) (by omega) (by omega)) (o2 _ (by omega) (by omega) (by omega) (by omega)) (o2 _ (by omega) (by omega) (by omega) (by omega)) (o2 _ (by omega) (by omega) (by omega) (by omega)) (o2 _ (by omega) (by omega) (by omega) (by omega)) (o2 _ (by omega) (by omega) (by omega) (by omega)) (o2 _ (by omega) (by omega) (by omega) (by omega)) (o2 _ (by omega) (by omega) (by omega) (by omega))
      · exact z_sd_eq hc.2.2 (o2 50 (by decide) (by decide) (by omega) (by decide)) (o2 51 (by decide) (by decide) (by omega) (by decide)) (o2 52 (by decide) (by decide) (by omega) (by decide))
    · rw [s9]
      exact z_hs_eq hhs (fun a g g2 => o2 a (by omega) (by omega) (by omega) (by omega))
    · rw [s9, show M2 180 = M 180 by rw [f2.1 180 (by decide) (by decide)]; exact hi 180 (by decide)]
      exact z_RI_eq hRI (fun a g g2 => o2 a (by omega) (by omega) (by omega) (by omega))
    · rw [show M2 205 = M 205 by rw [f2.1 205 (by decide) (by decide)]; exact hi 205 (by decide), show M2 206 = M 206 by rw [f2.1 206 (by decide) (by decide)]; exact hi 206 (by decide), show M2 207 = M 207 by rw [f2.1 207 (by decide) (by decide)]; exact hi 207 (by decide)]
      exact z_RY_eq hRY (fun a g g2 => o2 a (by omega) (by omega) (by omega) (by omega))
    · rw [t7]
      exact ⟨by rw [lo 1 (by decide)]; exact y1, by decide, fun i hi2 => by omega⟩
    · rw [lo 1 (by decide), t15, t16]
      exact ⟨y2, y3⟩
