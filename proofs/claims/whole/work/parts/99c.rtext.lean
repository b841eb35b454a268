-- the reference's call net
theorem l_plain {d : Nat} {M0 : q_Mem} {K : q_Mem → Prop} (h : ∀ M', z_fr [182] [] M0 M' → (∀ k : Int, 0 ≤ k → k < 1504 → M' 182 k = 0) → K M') :
    ∀ (j i : Nat) (M : q_Mem), i + j = 1504 → z_fr [182] [] M0 M → (∀ k : Int, 0 ≤ k → k < (i : Int) → M 182 k = 0) → q_v mX12_plain d (qPU K) M 2 [some (qR 182), some (qI (i : Int))] [] := by
  intro j
  induction j with
  | zero =>
    intro i M e f z
    exact bX12_plain_2 _ _ (by decide +kernel) ⟨fun _ => h M f (fun k h0 h1 => z k h0 (by omega)), fun g => absurd (by omega) g⟩
  | succ j ih =>
    intro i M e f z
    refine bX12_plain_2 _ _ (by decide +kernel) ⟨fun g => absurd g (by omega), fun _ => ⟨⟨by omega, by rw [show q_ln 182 = 1504 by decide +kernel]; omega⟩, fun M2 e2 => ?_⟩⟩
    rw [q_add_eq (by omega), show (i : Int) + 1 = ((i + 1 : Nat) : Int) by omega]
    refine ih (i + 1) M2 (by omega) (z_fr_u f e2 (by decide) (by decide)) (fun k h0 h1 => ?_)
    rw [e2]
    by_cases c : k = (i : Int)
    · rw [c, q_up_s]
    · rw [q_up_n c]
      exact z k h0 (by omega)
theorem rq_plain {d : Nat} {M : q_Mem} {K : q_Mem → Prop}  (hd : 0 < d) (h : ∀ M', z_fr [182] [] M M' → (∀ k : Int, 0 ≤ k → k < 1504 → M' 182 k = 0) → K M') : q_kU yX12_plain mX12_plain d [qR 182] M K :=
  q_goU hd rfl (plainFor_of_name (by decide +kernel)) rfl (fun h => nomatch h) (Nat.le_of_ble_eq_true rfl) (fun d hd => bX12_plain_0 _ (by decide +kernel) (l_plain h 1504 0 M (by omega) z_fr_rf (fun k h0 h1 => by omega)))
abbrev z_NS : List Int := [179, 182, 183, 184]
abbrev z_NF : List Int := [0, 7, 8, 9, 10, 11, 12, 13, 14, 15, 16]
theorem l_n51 {d : Nat} {M0 : q_Mem} {K : Int → q_Mem → Prop} (h : ∀ M', z_fr [183] [] M0 M' → (∀ k : Nat, k < 10 → M' 183 k = 0) → q_v mX12_net d (qPI K) M' 51 [some (qR 178), none, some (qI 10)] []) :
    ∀ (j i : Nat) (M : q_Mem), i + j = 10 → z_fr [183] [] M0 M → (∀ k : Nat, k < i → M 183 k = 0) → q_v mX12_net d (qPI K) M 51 [some (qR 178), none, some (qI (i : Int))] [] := by
  intro j
  induction j with
  | zero =>
    intro i M e f z
    have ei : i = 10 := by omega
    subst ei
    exact h M f z
  | succ j ih =>
    intro i M e f z
    refine bX12_net_51 _ ⟨fun g => absurd g (by omega), fun _ => ⟨by omega, fun M9 e9 => ?_⟩⟩
    rw [q_add_eq (by omega), show (i : Int) + 1 = ((i + 1 : Nat) : Int) by omega]
    refine ih (i + 1) M9 (by omega) (z_fr_u f e9 (by decide) (by decide)) (fun k hk => ?_)
    rw [e9]
    by_cases c : k = i
    · rw [c, q_up_s]
    · rw [q_up_n (by omega)]
      exact z k (by omega)
theorem l_n176 {d : Nat} {M0 : q_Mem} {K : Int → q_Mem → Prop} (h : ∀ M', z_fr [179] [] M0 M' → (∀ k : Int, 0 ≤ k → k < 1504 → M' 179 k = M0 182 k) → (∀ k : Int, 1504 ≤ k → M' 179 k = M0 179 k) → K (M' 179 0) M') :
    ∀ (j i : Nat) (M : q_Mem), i + j = 1504 → z_fr [179] [] M0 M → (∀ k : Int, 0 ≤ k → k < (i : Int) → M 179 k = M0 182 k) → (∀ k : Int, 1504 ≤ k → M 179 k = M0 179 k) → q_v mX12_net d (qPI K) M 176 [some (qR 178), none, some (qI (i : Int))] [] := by
  intro j
  induction j with
  | zero =>
    intro i M e f z y
    exact bX12_net_176 _ ⟨fun _ => h M f (fun k h0 h1 => z k h0 (by omega)) y, fun g => absurd (by omega) g⟩
  | succ j ih =>
    intro i M e f z y
    refine bX12_net_176 _ ⟨fun g => absurd g (by omega), fun _ => ⟨by omega, by omega, fun M3 e3 => ?_⟩⟩
    rw [q_add_eq (by omega), show (i : Int) + 1 = ((i + 1 : Nat) : Int) by omega]
    refine ih (i + 1) M3 (by omega) (z_fr_u f e3 (by decide) (by decide)) (fun k h0 h1 => ?_) (fun k hk => by rw [e3, q_up_n (by omega)]; exact y k hk)
    rw [e3]
    by_cases c : k = (i : Int)
    · rw [c, q_up_s, f.1 182 (by decide) (by decide)]
    · rw [q_up_n c]
      exact z k h0 (by omega)
theorem r_D_setw {D : p_D} {M M' : q_Mem} {w : Int} (h : r_D D M) (hL : d_L D ≤ 16) (e : M' = q_up M 182 1 w) : r_D (d_setw D w) M' := by
  obtain ⟨a1, a2, a3, a4, a5, a6, a7, a8, a9, a10⟩ := h
  have o : ∀ j : Int, j ≠ 1 → M' 182 j = M 182 j := fun j hj => by rw [e, q_up_n hj]
  have e3 : M' 183 = M 183 := by rw [e, q_up_o (by decide)]
  have e4 : M' 184 = M 184 := by rw [e, q_up_o (by decide)]
  refine ⟨by rw [o _ (by decide)]; exact a1, by rw [e, q_up_s]; rfl, by rw [o _ (by decide)]; exact a3, by rw [o _ (by decide)]; exact a4, by rw [o _ (by decide)]; exact a5, by rw [o _ (by decide)]; exact a6, by rw [o _ (by decide)]; exact a7, fun l hl => ?_, by rw [e3, e4]; exact a9, fun i hi => ?_⟩
  · have hl2 : l < d_L D := hl
    rw [o _ (by omega), o _ (by omega), o _ (by omega)]
    exact a8 l hl
  · rw [o _ (by omega), o _ (by omega), o _ (by omega)]
    refine ⟨(a10 i hi).1, fun b cs q => ?_⟩
    have := (a10 i hi).2 b cs q
    exact ⟨this.1, this.2.1, this.2.2.1, fun k hk => by rw [o _ (by omega)]; exact this.2.2.2 k hk⟩
theorem rq_net {d : Nat} {M : q_Mem} {K : Int → q_Mem → Prop} {bt : Nat → Int} {n F : Nat} (hd : 60 < d) (hF : n < F) (hn : n ≤ 900) (ht : (n : Int) ≤ M 178 7) (hb : ∀ j : Nat, j < n → M 181 j = bt j ∧ 0 ≤ bt j ∧ bt j ≤ 255) (h1 : ∀ M', z_fr z_NS z_NF M M' → M' 178 7 = 0 → M' 178 15 = 0 → M' 178 16 = -1 → (q_net (z_tks bt n) F).1.2.1 = 0 → d_ok n (q_net (z_tks bt n) F).1 (q_net (z_tks bt n) F).2 → o_ok (q_net (z_tks bt n) F).2 (M' 179) → (∀ k : Int, 1504 ≤ k → M' 179 k = M 179 k) → K (d_n (q_net (z_tks bt n) F).2) M') (h0 : ∀ M', z_fr (182 :: [183, 184]) z_NF M M' → M' 178 7 = 0 → ¬ (q_net (z_tks bt n) F).1.2.1 = 0 → M' 178 15 = (q_net (z_tks bt n) F).1.2.1 → M' 178 16 = (q_net (z_tks bt n) F).1.2.2.1 → K (q_sub (-30) (q_net (z_tks bt n) F).1.2.1) M') : q_kI yX12_net mX12_net d [qR 178, qI (n : Int)] M K := by
  refine q_goI hd rfl (plainFor_of_name (by decide +kernel)) rfl (fun h => nomatch h) (Nat.le_of_ble_eq_true rfl) (fun d hd => bX12_net_0 _ (fun M1 e1 => ?_))
  have t1 : M1 178 7 = M 178 7 := by rw [e1, q_up_n (by decide)]
  rw [t1]
  refine k_within (by omega) (fun _ _ => ⟨fun _ M4 e4 M5 e5 M6 e6 M7 e7 => ?_, fun q => absurd q (by decide)⟩) (fun g => absurd ⟨by omega, ht⟩ g)
  have f7 : z_fr [] [0, 7, 9, 10, 13] M M7 := z_fr_uf (z_fr_uf (z_fr_uf (z_fr_uf (z_fr_uf z_fr_rf e1 (by decide)) e4 (by decide)) e5 (by decide)) e6 (by decide)) e7 (by decide)
  have v7 : M7 178 7 = 0 := by rw [e7, q_up_n (by decide), e6, q_up_n (by decide), e5, q_up_s]
  have v9 : M7 178 9 = 0 := by rw [e7, q_up_n (by decide), e6, q_up_s]
  have v10 : M7 178 10 = (n : Int) := by rw [e7, q_up_n (by decide), e6, q_up_n (by decide), e5, q_up_n (by decide), e4, q_up_s]
  have v13 : M7 178 13 = 0 := by rw [e7, q_up_s]
  clear e1 e4 e5 e6 e7
  refine rq_plain (by omega) (fun M8 f8 z8 => l_n51 (M0 := M8) (fun M9 f9 z9 => ?_) 10 0 M8 (by omega) z_fr_rf (fun k hk => absurd hk (Nat.not_lt_zero k)))
  have f89 : z_fr [182, 183] [] M7 M9 := z_fr_tr (z_fr_mono f8 (by decide) (by decide)) (z_fr_mono f9 (by decide) (by decide))
  have z182 : ∀ k : Int, 0 ≤ k → k < 1504 → M9 182 k = 0 := fun k h0 h1 => by rw [f9.1 182 (by decide) (by decide)]; exact z8 k h0 h1
  have rt9 : z_rt M9 bt n := ⟨by rw [f89.2 10 (by decide)]; exact v10, hn, fun j hj => by rw [f89.1 181 (by decide) (by decide), f7.1 181 (by decide) (by decide)]; exact hb j hj⟩
  have D9 : r_D d_0 M9 := by
    refine ⟨z182 0 (by decide) (by decide), z182 1 (by decide) (by decide), z182 2 (by decide) (by decide), z182 51 (by decide) (by decide), z182 52 (by decide) (by decide), z182 102 (by decide) (by decide), z182 603 (by decide) (by decide), fun l hl => absurd hl (Nat.not_lt_zero l), fun m hm => ⟨by rw [z9 m hm]; rfl, fun i hi => absurd hi (Nat.not_lt_zero i)⟩, fun i hi => ⟨fun _ => z182 _ (by omega) (by omega), fun b cs q => absurd (show (none : Option (Nat × List Int)) = some (b, cs) from q) (by simp)⟩⟩
  refine bX12_net_51 _ ⟨fun _ => ?_, fun g => absurd (by decide) g⟩
  refine k_goes (by omega) rt9 (Nat.zero_le n) (by rw [f89.2 9 (by decide)]; exact v9) (fun M10 f10 t10 => ?_)
  have F10 : z_fr [182, 183] z_NF M M10 := z_fr_tr (z_fr_mono f7 (by decide) (by decide)) (z_fr_tr (z_fr_mono f89 (by decide) (by decide)) (z_fr_mono f10 (by decide) (by decide)))
  have w10 : M10 178 7 = 0 := by rw [f10.2 7 (by decide), f89.2 7 (by decide)]; exact v7
  have a10 : r_a0 bt n p_s0 M10 := ⟨z_rt_f rt9 f10 (by decide) (by decide), t10, by rw [f10.2 13 (by decide), f89.2 13 (by decide)]; exact v13, fun q => absurd rfl q⟩
  have D10 : r_D d_0 M10 := r_D_f D9 (r_f0_x f10)
  refine r0_wants (by omega) a10 (fun M11 f11 r11 => r0_wants (by omega) r11 (fun M12 f12 r12 => r0_takes (by omega) r12 (fun v M13 f13 r13 e13 M14 e14 => ?_)))
  have fw : r_f0 M10 M13 := z_fr_tr f11 (z_fr_tr f12 f13)
  have f14 : z_fr z_ZS [] M13 M14 := z_fr_u z_fr_rf e14 (by decide) (by decide)
  have q14 : r_q bt n (p_take (z_tks bt n) 9 (q_hs (z_tks bt n)), d_setw d_0 (z_tks bt n (q_hs (z_tks bt n)).1).2.2) M14 := ⟨r_a0_z r13 f14, fun w => by
    have := (e13 w).1
    rw [this] at e14
    exact r_D_setw (r_D_f D10 fw) (by decide) e14⟩
  have hok := q_head_ok (n := n) (z_tks_lt (bt := bt))
  refine rq_closes (by omega) q14 (fun _ => by show (0 : Nat) ≤ 16; decide) (fun M15 f15 r15 => ?_)
  have q15 : r_q bt n (q_head (z_tks bt n)) M15 := r15
  have f1015 : r_fz M10 M15 := z_fr_tr (r_fz_0 fw) (z_fr_tr (z_fr_mono f14 (by decide) (by decide)) f15)
  have fin := q_lines_ok (n := n) (F := F) (z_tks_lt (bt := bt)) z_tks_num F (q_head (z_tks bt n)) (fun w => (hok w).1) (Or.inl (by omega))
  refine l_rn (M0 := M10) (by omega) hF F (q_head (z_tks bt n)) M15 (fun w => (hok w).1) (Or.inl (by omega)) q15 f1015 (fun M16 f16 r16 => ?_)
  have r16 : r_q bt n (q_net (z_tks bt n) F) M16 := r16
  have fin : (q_net (z_tks bt n) F).1.2.1 = 0 → _ := fin
  have w16 : M16 178 7 = 0 := by rw [f16.2 7 (by decide)]; exact w10
  have F16 : z_fr [182, 183, 184] z_NF M M16 := z_fr_tr (z_fr_mono F10 (by decide) (by decide)) (z_fr_mono f16 (by decide) (by decide))
  refine bX12_net_128 (fun M17 e17 => ?_)
  have v17 : M17 178 13 = (q_net (z_tks bt n) F).1.2.1 := by rw [e17, q_up_n (by decide)]; exact r16.1.2.2.1
  rw [v17]
  rw [r16.1.2.2.1] at e17
  refine ⟨fun w => ?_, fun w => ?_⟩
  · refine bX12_net_152 _ _ (by decide +kernel) (fun M18 e18 => ?_)
    have v18 : M18 178 13 = (q_net (z_tks bt n) F).1.2.1 := by rw [e18, q_up_n (by decide)]; exact v17
    rw [v18]
    refine ⟨fun q => absurd q w, fun _ => h0 M18 (z_fr_uf (z_fr_uf F16 e17 (by decide)) e18 (by decide)) ?_ w ?_ ?_⟩
    · rw [e18, q_up_n (by decide), e17, q_up_n (by decide)]; exact w16
    · rw [e18, q_up_n (by decide), e17, q_up_s]
    · rw [e18, q_up_s, e17, q_up_n (by decide)]; exact r16.1.2.2.2 w
  · refine bX12_net_152 _ _ (by decide +kernel) (fun M18 e18 => ?_)
    have v18 : M18 178 13 = (q_net (z_tks bt n) F).1.2.1 := by rw [e18, q_up_n (by decide)]; exact v17
    rw [v18]
    refine ⟨fun _ => ?_, fun q => absurd w q⟩
    have ok : d_ok n (q_net (z_tks bt n) F).1 (q_net (z_tks bt n) F).2 := (fin w).1
    have f1618 : z_fr [] [15, 16] M16 M18 := z_fr_uf (z_fr_uf z_fr_rf e17 (by decide)) e18 (by decide)
    have D18 : r_D (q_net (z_tks bt n) F).2 M18 := r_D_eq (r16.2 w) (f1618.1 182 (by decide) (by decide)) (f1618.1 183 (by decide) (by decide)) (f1618.1 184 (by decide) (by decide))
    refine rq_order (by omega) ok D18 (fun M19 f19 D19 o19 r19 => l_n176 (M0 := M19) (fun M20 f20 c20 y20 => ?_) 1504 0 M19 (by omega) z_fr_rf (fun k h0 h1 => by omega) (fun _ _ => rfl))
    have e0 : M20 179 0 = d_n (q_net (z_tks bt n) F).2 := by rw [c20 0 (by decide) (by decide)]; exact D19.1
    rw [e0]
    have l10 := d_fl_10 ok
    have L16 := ok.2.1
    have tt := ok.2.2.2.2.2.1
    have tn := ok.2.2.2.2.2.2.1
    refine h1 M20 (z_fr_tr (z_fr_mono F16 (by decide) (by decide)) (z_fr_tr (z_fr_mono f1618 (by decide) (by decide)) (z_fr_tr (z_fr_mono f19 (by decide) (by decide)) (z_fr_mono f20 (by decide) (by decide))))) ?_ ?_ ?_ w ok ?_ (fun k hk => by rw [y20 k hk, f19.1 179 (by decide) (by decide), f1618.1 179 (by decide) (by decide), F16.1 179 (by decide) (by decide)])
    · rw [f20.2 7 (by decide), f19.2 7 (by decide), f1618.2 7 (by decide)]; exact w16
    · rw [f20.2 15 (by decide), f19.2 15 (by decide), e18, q_up_n (by decide), e17, q_up_s]; exact w
    · rw [f20.2 16 (by decide), f19.2 16 (by decide), e18, q_up_s]
    · obtain ⟨a1, a2, a3, a4, a5, a6, a7, a8, a9, a10⟩ := D19
      refine ⟨e0, by rw [c20 _ (by decide) (by decide)]; exact a2, by rw [c20 _ (by decide) (by decide)]; exact a3, by rw [c20 _ (by decide) (by decide)]; exact a4, by rw [c20 _ (by decide) (by decide)]; exact a5, by rw [c20 _ (by decide) (by decide)]; exact a6, fun l hl => ?_, fun i hi => ?_, fun x hx => ?_, fun i hi => ?_⟩
      · rw [c20 _ (by omega) (by omega), c20 _ (by omega) (by omega), c20 _ (by omega) (by omega)]
        exact a8 l hl
      · rw [c20 _ (by omega) (by omega), c20 _ (by omega) (by omega), c20 _ (by omega) (by omega)]
        refine ⟨(a10 i hi).1, fun b cs q => ?_⟩
        have := (a10 i hi).2 b cs q
        have bl := (ok.2.2.2.2.1 i b cs q).2.1
        exact ⟨this.1, this.2.1, this.2.2.1, fun k hk => by rw [c20 _ (by omega) (by omega)]; exact this.2.2.2 k hk⟩
      · rw [c20 _ (by omega) (by omega)]
        exact o19 x hx
      · rw [c20 _ (by omega) (by omega)]
        exact r19 i hi
