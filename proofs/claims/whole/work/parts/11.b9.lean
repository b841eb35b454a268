-- blocks of methods (by program)
theorem dX9_remake_0 : decode cX9_remake 0 = .ok (.aload_n 0, 1) := by decide +kernel
theorem dX9_remake_1 : decode cX9_remake 1 = .ok (.iload_n 1, 1) := by decide +kernel
theorem dX9_remake_2 : decode cX9_remake 2 = .ok (.putfield 19, 3) := by decide +kernel
theorem dX9_remake_5 : decode cX9_remake 5 = .ok (.aload_n 0, 1) := by decide +kernel
theorem dX9_remake_6 : decode cX9_remake 6 = .ok (.iload_n 2, 1) := by decide +kernel
theorem dX9_remake_7 : decode cX9_remake 7 = .ok (.putfield 9, 3) := by decide +kernel
theorem dX9_remake_10 : decode cX9_remake 10 = .ok (.aload_n 0, 1) := by decide +kernel
theorem dX9_remake_11 : decode cX9_remake 11 = .ok (.getfield 15, 3) := by decide +kernel
theorem dX9_remake_14 : decode cX9_remake 14 = .ok (.lconst 0, 1) := by decide +kernel
theorem dX9_remake_15 : decode cX9_remake 15 = .ok (.invokestatic 22, 3) := by decide +kernel
theorem dX9_remake_18 : decode cX9_remake 18 = .ok (.return_, 1) := by decide +kernel
theorem bX9_remake_0 {d : Nat} {P : q_Mem → Prop} {M : q_Mem} (x0 x1 x2 : Int) (k0 : q_kd x0 = 9) (h : (∀ M1 : q_Mem, M1 = q_up M x0 1 x1 → (∀ M2 : q_Mem, M2 = q_up M1 x0 0 x2 → q_kU yJ7_fill_d0a16 mJ7_fill_d0a16 d [qR (q_lay x0 2), qL 0] M2 (fun M3 => P M3)))) : q_v mX9_remake d (qPU P) M 0 [some (qR x0), some (qI x1), some (qI x2)] [] := by
  refine qr_aload_n 0 1 rfl (x := x0) rfl dX9_remake_0 ?_
  refine qr_iload_n 1 2 rfl (x := x1) rfl dX9_remake_1 ?_
  refine qp_i 2 5 rfl ck9 1 (by decide) k0 (by decide) rfl rfl wm_337 rfl dX9_remake_2 (fun M1 e_M1 => ?_)
  have h := h M1 e_M1
  refine qr_aload_n 5 6 rfl (x := x0) rfl dX9_remake_5 ?_
  refine qr_iload_n 6 7 rfl (x := x2) rfl dX9_remake_6 ?_
  refine qp_i 7 10 rfl ck9 0 (by decide) k0 (by decide) rfl rfl wm_335 rfl dX9_remake_7 (fun M2 e_M2 => ?_)
  have h := h M2 e_M2
  refine qr_aload_n 10 11 rfl (x := x0) rfl dX9_remake_10 ?_
  refine qr_getF 11 14 rfl ck9 2 (by decide) (b := (q_lay x0 2)) k0 rfl (by decide +kernel) rfl wm_338 rfl dX9_remake_11 ?_
  refine qr_lconst 14 15 rfl (w := 0) (q_l64 _ rfl) (by decide) dX9_remake_14 ?_
  refine qs_U 15 18 rfl (av := [qR (q_lay x0 2), qL 0]) ca_J7_fill_d0a16 wm_1277 wm_1276 rfl rfl (Nat.le_of_ble_eq_true rfl) dX9_remake_15 h (fun M3 h => ?_)
  exact qe_u 18 rfl dX9_remake_18 h
theorem dX9_cutToSort_0 : decode cX9_cutToSort 0 = .ok (.aload_n 0, 1) := by decide +kernel
theorem dX9_cutToSort_1 : decode cX9_cutToSort 1 = .ok (.getfield 19, 3) := by decide +kernel
theorem dX9_cutToSort_4 : decode cX9_cutToSort 4 = .ok (.ifCond .ne 8, 3) := by decide +kernel
theorem dX9_cutToSort_7 : decode cX9_cutToSort 7 = .ok (.lload_n 1, 1) := by decide +kernel
theorem dX9_cutToSort_8 : decode cX9_cutToSort 8 = .ok (.l2i, 1) := by decide +kernel
theorem dX9_cutToSort_9 : decode cX9_cutToSort 9 = .ok (.i2b, 1) := by decide +kernel
theorem dX9_cutToSort_10 : decode cX9_cutToSort 10 = .ok (.i2l, 1) := by decide +kernel
theorem dX9_cutToSort_11 : decode cX9_cutToSort 11 = .ok (.lreturn, 1) := by decide +kernel
theorem dX9_cutToSort_12 : decode cX9_cutToSort 12 = .ok (.aload_n 0, 1) := by decide +kernel
theorem dX9_cutToSort_13 : decode cX9_cutToSort 13 = .ok (.getfield 19, 3) := by decide +kernel
theorem dX9_cutToSort_16 : decode cX9_cutToSort 16 = .ok (.iconst 1, 1) := by decide +kernel
theorem dX9_cutToSort_17 : decode cX9_cutToSort 17 = .ok (.if_icmp .ne 8, 3) := by decide +kernel
theorem dX9_cutToSort_20 : decode cX9_cutToSort 20 = .ok (.lload_n 1, 1) := by decide +kernel
theorem dX9_cutToSort_21 : decode cX9_cutToSort 21 = .ok (.l2i, 1) := by decide +kernel
theorem dX9_cutToSort_22 : decode cX9_cutToSort 22 = .ok (.i2s, 1) := by decide +kernel
theorem dX9_cutToSort_23 : decode cX9_cutToSort 23 = .ok (.i2l, 1) := by decide +kernel
theorem dX9_cutToSort_24 : decode cX9_cutToSort 24 = .ok (.lreturn, 1) := by decide +kernel
theorem dX9_cutToSort_25 : decode cX9_cutToSort 25 = .ok (.aload_n 0, 1) := by decide +kernel
theorem dX9_cutToSort_26 : decode cX9_cutToSort 26 = .ok (.getfield 19, 3) := by decide +kernel
theorem dX9_cutToSort_29 : decode cX9_cutToSort 29 = .ok (.iconst 2, 1) := by decide +kernel
theorem dX9_cutToSort_30 : decode cX9_cutToSort 30 = .ok (.if_icmp .ne 9, 3) := by decide +kernel
theorem dX9_cutToSort_33 : decode cX9_cutToSort 33 = .ok (.lload_n 1, 1) := by decide +kernel
theorem dX9_cutToSort_34 : decode cX9_cutToSort 34 = .ok (.l2i, 1) := by decide +kernel
theorem dX9_cutToSort_35 : decode cX9_cutToSort 35 = .ok (.i2l, 1) := by decide +kernel
theorem dX9_cutToSort_36 : decode cX9_cutToSort 36 = .ok (.goto 4, 3) := by decide +kernel
theorem dX9_cutToSort_39 : decode cX9_cutToSort 39 = .ok (.lload_n 1, 1) := by decide +kernel
theorem dX9_cutToSort_40 : decode cX9_cutToSort 40 = .ok (.lreturn, 1) := by decide +kernel
theorem bX9_cutToSort_0 {d : Nat} {P : Int → q_Mem → Prop} {M : q_Mem} (x0 x1 : Int) (k0 : q_kd x0 = 9) (h : ((¬ (M x0 1) = 0) → ((¬ (M x0 1) = 1) → ((¬ (M x0 1) = 2) → P x1 M) ∧ (((M x0 1) = 2) → P (q_l2i x1) M)) ∧ (((M x0 1) = 1) → P (q_i2s (q_l2i x1)) M)) ∧ (((M x0 1) = 0) → P (q_i2b (q_l2i x1)) M)) : q_v mX9_cutToSort d (qPL P) M 0 [some (qR x0), some (qL x1), none] [] := by
  refine qr_aload_n 0 1 rfl (x := x0) rfl dX9_cutToSort_0 ?_
  refine qg_i 1 4 rfl ck9 1 (by decide) k0 (by decide +kernel) rfl wm_337 rfl dX9_cutToSort_1 ?_
  refine qr_if_ne 4 7 12 rfl (by decide) dX9_cutToSort_4 (fun c4 => ?_) (fun c4 => ?_)
  · have h := h.1 c4
    refine qr_aload_n 12 13 rfl (x := x0) rfl dX9_cutToSort_12 ?_
    refine qg_i 13 16 rfl ck9 1 (by decide) k0 (by decide +kernel) rfl wm_337 rfl dX9_cutToSort_13 ?_
    refine qr_iconst 16 17 rfl (q_l32 _ rfl) dX9_cutToSort_16 ?_
    refine qr_icmp_ne 17 20 25 rfl (by decide) dX9_cutToSort_17 (fun c17 => ?_) (fun c17 => ?_)
    · have h := h.1 c17
      refine qr_aload_n 25 26 rfl (x := x0) rfl dX9_cutToSort_25 ?_
      refine qg_i 26 29 rfl ck9 1 (by decide) k0 (by decide +kernel) rfl wm_337 rfl dX9_cutToSort_26 ?_
      refine qr_iconst 29 30 rfl (q_l32 _ rfl) dX9_cutToSort_29 ?_
      refine qr_icmp_ne 30 33 39 rfl (by decide) dX9_cutToSort_30 (fun c30 => ?_) (fun c30 => ?_)
      · have h := h.1 c30
        refine qr_lload_n 39 40 rfl (x := x1) rfl dX9_cutToSort_39 ?_
        exact qe_l 40 rfl dX9_cutToSort_40 h
      · have h := h.2 c30
        refine qr_lload_n 33 34 rfl (x := x1) rfl dX9_cutToSort_33 ?_
        refine qr_l2i 34 35 rfl dX9_cutToSort_34 ?_
        refine qr_i2l 35 36 rfl dX9_cutToSort_35 ?_
        refine qr_goto 36 40 (by decide) dX9_cutToSort_36 ?_
        exact qe_l 40 rfl dX9_cutToSort_40 h
    · have h := h.2 c17
      refine qr_lload_n 20 21 rfl (x := x1) rfl dX9_cutToSort_20 ?_
      refine qr_l2i 21 22 rfl dX9_cutToSort_21 ?_
      refine qr_i2s 22 23 rfl dX9_cutToSort_22 ?_
      refine qr_i2l 23 24 rfl dX9_cutToSort_23 ?_
      exact qe_l 24 rfl dX9_cutToSort_24 h
  · have h := h.2 c4
    refine qr_lload_n 7 8 rfl (x := x1) rfl dX9_cutToSort_7 ?_
    refine qr_l2i 8 9 rfl dX9_cutToSort_8 ?_
    refine qr_i2b 9 10 rfl dX9_cutToSort_9 ?_
    refine qr_i2l 10 11 rfl dX9_cutToSort_10 ?_
    exact qe_l 11 rfl dX9_cutToSort_11 h
theorem dX2_clear_0 : decode cX2_clear 0 = .ok (.aload_n 0, 1) := by decide +kernel
theorem dX2_clear_1 : decode cX2_clear 1 = .ok (.iconst 0, 1) := by decide +kernel
theorem dX2_clear_2 : decode cX2_clear 2 = .ok (.putfield 21, 3) := by decide +kernel
theorem dX2_clear_5 : decode cX2_clear 5 = .ok (.return_, 1) := by decide +kernel
theorem bX2_clear_0 {d : Nat} {P : q_Mem → Prop} {M : q_Mem} (x0 : Int) (k0 : q_kd x0 = 2) (h : (∀ M1 : q_Mem, M1 = q_up M x0 0 0 → P M1)) : q_v mX2_clear d (qPU P) M 0 [some (qR x0)] [] := by
  refine qr_aload_n 0 1 rfl (x := x0) rfl dX2_clear_0 ?_
  refine qr_iconst 1 2 rfl (q_l32 _ rfl) dX2_clear_1 ?_
  refine qp_i 2 5 rfl ck2 0 (by decide) k0 (by decide) rfl rfl wm_43 rfl dX2_clear_2 (fun M1 e_M1 => ?_)
  have h := h M1 e_M1
  exact qe_u 5 rfl dX2_clear_5 h
theorem dX2_add_0 : decode cX2_add 0 = .ok (.aload_n 0, 1) := by decide +kernel
theorem dX2_add_1 : decode cX2_add 1 = .ok (.getfield 21, 3) := by decide +kernel
theorem dX2_add_4 : decode cX2_add 4 = .ok (.sipush 900, 3) := by decide +kernel
theorem dX2_add_7 : decode cX2_add 7 = .ok (.if_icmp .ge 23, 3) := by decide +kernel
theorem dX2_add_10 : decode cX2_add 10 = .ok (.aload_n 0, 1) := by decide +kernel
theorem dX2_add_11 : decode cX2_add 11 = .ok (.getfield 9, 3) := by decide +kernel
theorem dX2_add_14 : decode cX2_add 14 = .ok (.aload_n 0, 1) := by decide +kernel
theorem dX2_add_15 : decode cX2_add 15 = .ok (.getfield 21, 3) := by decide +kernel
theorem dX2_add_18 : decode cX2_add 18 = .ok (.iload_n 1, 1) := by decide +kernel
theorem dX2_add_19 : decode cX2_add 19 = .ok (.iastore, 1) := by decide +kernel
theorem dX2_add_20 : decode cX2_add 20 = .ok (.aload_n 0, 1) := by decide +kernel
theorem dX2_add_21 : decode cX2_add 21 = .ok (.dup, 1) := by decide +kernel
theorem dX2_add_22 : decode cX2_add 22 = .ok (.getfield 21, 3) := by decide +kernel
theorem dX2_add_25 : decode cX2_add 25 = .ok (.iconst 1, 1) := by decide +kernel
theorem dX2_add_26 : decode cX2_add 26 = .ok (.iadd, 1) := by decide +kernel
theorem dX2_add_27 : decode cX2_add 27 = .ok (.putfield 21, 3) := by decide +kernel
theorem dX2_add_30 : decode cX2_add 30 = .ok (.return_, 1) := by decide +kernel
theorem bX2_add_0 {d : Nat} {P : q_Mem → Prop} {M : q_Mem} (x0 x1 : Int) (k0 : q_kd x0 = 2) (h : ((900 ≤ (M x0 0)) → P M) ∧ ((¬ (900 ≤ (M x0 0))) → (0 ≤ (M x0 0) ∧ (M x0 0) < 900) ∧ (∀ M2 : q_Mem, M2 = q_up M (q_lay x0 1) (M x0 0) x1 → (∀ M3 : q_Mem, M3 = q_up M2 x0 0 (q_add (M2 x0 0) 1) → P M3)))) : q_v mX2_add d (qPU P) M 0 [some (qR x0), some (qI x1)] [] := by
  refine qr_aload_n 0 1 rfl (x := x0) rfl dX2_add_0 ?_
  refine qg_i 1 4 rfl ck2 0 (by decide) k0 (by decide +kernel) rfl wm_43 rfl dX2_add_1 ?_
  refine qr_sipush 4 7 rfl (q_l32 _ rfl) (by decide) dX2_add_4 ?_
  refine qr_icmp_ge 7 10 30 rfl (by decide) dX2_add_7 (fun c7 => ?_) (fun c7 => ?_)
  · have h := h.1 c7
    exact qe_u 30 rfl dX2_add_30 h
  · have h := h.2 c7
    refine qr_aload_n 10 11 rfl (x := x0) rfl dX2_add_10 ?_
    refine qr_getF 11 14 rfl ck2 1 (by decide) (b := (q_lay x0 1)) k0 rfl (by decide +kernel) rfl wm_45 rfl dX2_add_11 ?_
    refine qr_aload_n 14 15 rfl (x := x0) rfl dX2_add_14 ?_
    refine qg_i 15 18 rfl ck2 0 (by decide) k0 (by decide +kernel) rfl wm_43 rfl dX2_add_15 ?_
    refine qr_iload_n 18 19 rfl (x := x1) rfl dX2_add_18 ?_
    have hb1 := h.1
    have h := h.2
    refine qi_st 19 20 rfl (lk2_1 _ k0) (ll2_1 _ k0) hb1.1 hb1.2 dX2_add_19 (fun M2 e_M2 => ?_)
    have h := h M2 e_M2
    refine qr_aload_n 20 21 rfl (x := x0) rfl dX2_add_20 ?_
    refine qr_dup 21 22 rfl rfl dX2_add_21 ?_
    refine qg_i 22 25 rfl ck2 0 (by decide) k0 (by decide +kernel) rfl wm_43 rfl dX2_add_22 ?_
    refine qr_iconst 25 26 rfl (q_l32 _ rfl) dX2_add_25 ?_
    refine qr_iadd 26 27 rfl dX2_add_26 ?_
    refine qp_i 27 30 rfl ck2 0 (by decide) k0 (by decide) rfl rfl wm_43 rfl dX2_add_27 (fun M3 e_M3 => ?_)
    have h := h M3 e_M3
    exact qe_u 30 rfl dX2_add_30 h
theorem dX0_forget_0 : decode cX0_forget 0 = .ok (.aload_n 0, 1) := by decide +kernel
theorem dX0_forget_1 : decode cX0_forget 1 = .ok (.iconst 0, 1) := by decide +kernel
theorem dX0_forget_2 : decode cX0_forget 2 = .ok (.putfield 26, 3) := by decide +kernel
theorem dX0_forget_5 : decode cX0_forget 5 = .ok (.return_, 1) := by decide +kernel
theorem bX0_forget_0 {d : Nat} {P : q_Mem → Prop} {M : q_Mem} (h : (∀ M1 : q_Mem, M1 = q_up M 56 0 0 → P M1)) : q_v mX0_forget d (qPU P) M 0 [some (qR 56)] [] := by
  refine qr_aload_n 0 1 rfl (x := 56) rfl dX0_forget_0 ?_
  refine qr_iconst 1 2 rfl (q_l32 _ rfl) dX0_forget_1 ?_
  refine qp_i 2 5 rfl ck0 0 (by decide) (by decide +kernel) (by decide) rfl rfl wm_195 rfl dX0_forget_2 (fun M1 e_M1 => ?_)
  have h := h M1 e_M1
  exact qe_u 5 rfl dX0_forget_5 h
theorem dX11_hasLink_0 : decode cX11_hasLink 0 = .ok (.iload_n 1, 1) := by decide +kernel
theorem dX11_hasLink_1 : decode cX11_hasLink 1 = .ok (.ifCond .lt 18, 3) := by decide +kernel
theorem dX11_hasLink_4 : decode cX11_hasLink 4 = .ok (.iload_n 1, 1) := by decide +kernel
theorem dX11_hasLink_5 : decode cX11_hasLink 5 = .ok (.aload_n 0, 1) := by decide +kernel
theorem dX11_hasLink_6 : decode cX11_hasLink 6 = .ok (.getfield 20, 3) := by decide +kernel
theorem dX11_hasLink_9 : decode cX11_hasLink 9 = .ok (.getfield 165, 3) := by decide +kernel
theorem dX11_hasLink_12 : decode cX11_hasLink 12 = .ok (.if_icmp .ge 7, 3) := by decide +kernel
theorem dX11_hasLink_15 : decode cX11_hasLink 15 = .ok (.iconst 1, 1) := by decide +kernel
theorem dX11_hasLink_16 : decode cX11_hasLink 16 = .ok (.goto 4, 3) := by decide +kernel
theorem dX11_hasLink_19 : decode cX11_hasLink 19 = .ok (.iconst 0, 1) := by decide +kernel
theorem dX11_hasLink_20 : decode cX11_hasLink 20 = .ok (.ireturn, 1) := by decide +kernel
theorem bX11_hasLink_0 {d : Nat} {P : Int → q_Mem → Prop} {M : q_Mem} (x1 : Int) (h : ((x1 < 0) → P 0 M) ∧ ((¬ (x1 < 0)) → q_kd (M 1 4) = 4 ∧ ((((M (M 1 4) 1) ≤ x1) → P 0 M) ∧ ((¬ ((M (M 1 4) 1) ≤ x1)) → P 1 M)))) : q_v mX11_hasLink d (qPI P) M 0 [some (qR 1), some (qI x1)] [] := by
  refine qr_iload_n 0 1 rfl (x := x1) rfl dX11_hasLink_0 ?_
  refine qr_if_lt 1 4 19 rfl (by decide) dX11_hasLink_1 (fun c1 => ?_) (fun c1 => ?_)
  · have h := h.1 c1
    refine qr_iconst 19 20 rfl (q_l32 _ rfl) dX11_hasLink_19 ?_
    exact qe_z 20 rfl (by decide) dX11_hasLink_20 h
  · have h := h.2 c1
    refine qr_iload_n 4 5 rfl (x := x1) rfl dX11_hasLink_4 ?_
    refine qr_aload_n 5 6 rfl (x := 1) rfl dX11_hasLink_5 ?_
    refine qg_r 6 9 rfl ck11 4 (by decide) (by decide +kernel) (by decide +kernel) rfl wm_381 rfl dX11_hasLink_6 ?_
    have hk1 := h.1
    have h := h.2
    refine qg_i 9 12 rfl ck4 1 (by decide) hk1 (by decide +kernel) rfl wm_68 rfl dX11_hasLink_9 ?_
    refine qr_icmp_ge 12 15 19 rfl (by decide) dX11_hasLink_12 (fun c12 => ?_) (fun c12 => ?_)
    · have h := h.1 c12
      refine qr_iconst 19 20 rfl (q_l32 _ rfl) dX11_hasLink_19 ?_
      exact qe_z 20 rfl (by decide) dX11_hasLink_20 h
    · have h := h.2 c12
      refine qr_iconst 15 16 rfl (q_l32 _ rfl) dX11_hasLink_15 ?_
      refine qr_goto 16 20 (by decide) dX11_hasLink_16 ?_
      exact qe_z 20 rfl (by decide) dX11_hasLink_20 h
theorem dX11_hasNode_0 : decode cX11_hasNode 0 = .ok (.iload_n 1, 1) := by decide +kernel
theorem dX11_hasNode_1 : decode cX11_hasNode 1 = .ok (.ifCond .lt 18, 3) := by decide +kernel
theorem dX11_hasNode_4 : decode cX11_hasNode 4 = .ok (.iload_n 1, 1) := by decide +kernel
theorem dX11_hasNode_5 : decode cX11_hasNode 5 = .ok (.aload_n 0, 1) := by decide +kernel
theorem dX11_hasNode_6 : decode cX11_hasNode 6 = .ok (.getfield 20, 3) := by decide +kernel
theorem dX11_hasNode_9 : decode cX11_hasNode 9 = .ok (.getfield 171, 3) := by decide +kernel
theorem dX11_hasNode_12 : decode cX11_hasNode 12 = .ok (.if_icmp .ge 7, 3) := by decide +kernel
theorem dX11_hasNode_15 : decode cX11_hasNode 15 = .ok (.iconst 1, 1) := by decide +kernel
theorem dX11_hasNode_16 : decode cX11_hasNode 16 = .ok (.goto 4, 3) := by decide +kernel
theorem dX11_hasNode_19 : decode cX11_hasNode 19 = .ok (.iconst 0, 1) := by decide +kernel
theorem dX11_hasNode_20 : decode cX11_hasNode 20 = .ok (.ireturn, 1) := by decide +kernel
theorem bX11_hasNode_0 {d : Nat} {P : Int → q_Mem → Prop} {M : q_Mem} (x1 : Int) (h : ((x1 < 0) → P 0 M) ∧ ((¬ (x1 < 0)) → q_kd (M 1 4) = 4 ∧ ((((M (M 1 4) 0) ≤ x1) → P 0 M) ∧ ((¬ ((M (M 1 4) 0) ≤ x1)) → P 1 M)))) : q_v mX11_hasNode d (qPI P) M 0 [some (qR 1), some (qI x1)] [] := by
  refine qr_iload_n 0 1 rfl (x := x1) rfl dX11_hasNode_0 ?_
  refine qr_if_lt 1 4 19 rfl (by decide) dX11_hasNode_1 (fun c1 => ?_) (fun c1 => ?_)
  · have h := h.1 c1
    refine qr_iconst 19 20 rfl (q_l32 _ rfl) dX11_hasNode_19 ?_
    exact qe_z 20 rfl (by decide) dX11_hasNode_20 h
  · have h := h.2 c1
    refine qr_iload_n 4 5 rfl (x := x1) rfl dX11_hasNode_4 ?_
    refine qr_aload_n 5 6 rfl (x := 1) rfl dX11_hasNode_5 ?_
    refine qg_r 6 9 rfl ck11 4 (by decide) (by decide +kernel) (by decide +kernel) rfl wm_381 rfl dX11_hasNode_6 ?_
    have hk1 := h.1
    have h := h.2
    refine qg_i 9 12 rfl ck4 0 (by decide) hk1 (by decide +kernel) rfl wm_63 rfl dX11_hasNode_9 ?_
    refine qr_icmp_ge 12 15 19 rfl (by decide) dX11_hasNode_12 (fun c12 => ?_) (fun c12 => ?_)
    · have h := h.1 c12
      refine qr_iconst 19 20 rfl (q_l32 _ rfl) dX11_hasNode_19 ?_
      exact qe_z 20 rfl (by decide) dX11_hasNode_20 h
    · have h := h.2 c12
      refine qr_iconst 15 16 rfl (q_l32 _ rfl) dX11_hasNode_15 ?_
      refine qr_goto 16 20 (by decide) dX11_hasNode_16 ?_
      exact qe_z 20 rfl (by decide) dX11_hasNode_20 h
theorem dX11_worthOfCut_0 : decode cX11_worthOfCut 0 = .ok (.iconst 0, 1) := by decide +kernel
theorem dX11_worthOfCut_1 : decode cX11_worthOfCut 1 = .ok (.istore_n 2, 1) := by decide +kernel
theorem dX11_worthOfCut_2 : decode cX11_worthOfCut 2 = .ok (.iconst 0, 1) := by decide +kernel
theorem dX11_worthOfCut_3 : decode cX11_worthOfCut 3 = .ok (.istore_n 3, 1) := by decide +kernel
theorem dX11_worthOfCut_4 : decode cX11_worthOfCut 4 = .ok (.iload_n 3, 1) := by decide +kernel
theorem dX11_worthOfCut_5 : decode cX11_worthOfCut 5 = .ok (.aload_n 0, 1) := by decide +kernel
theorem dX11_worthOfCut_6 : decode cX11_worthOfCut 6 = .ok (.getfield 20, 3) := by decide +kernel
theorem dX11_worthOfCut_9 : decode cX11_worthOfCut 9 = .ok (.getfield 165, 3) := by decide +kernel
theorem dX11_worthOfCut_12 : decode cX11_worthOfCut 12 = .ok (.if_icmp .ge 26, 3) := by decide +kernel
theorem dX11_worthOfCut_15 : decode cX11_worthOfCut 15 = .ok (.iload_n 1, 1) := by decide +kernel
theorem dX11_worthOfCut_16 : decode cX11_worthOfCut 16 = .ok (.iload_n 3, 1) := by decide +kernel
theorem dX11_worthOfCut_17 : decode cX11_worthOfCut 17 = .ok (.ishr, 1) := by decide +kernel
theorem dX11_worthOfCut_18 : decode cX11_worthOfCut 18 = .ok (.iconst 1, 1) := by decide +kernel
theorem dX11_worthOfCut_19 : decode cX11_worthOfCut 19 = .ok (.iand, 1) := by decide +kernel
theorem dX11_worthOfCut_20 : decode cX11_worthOfCut 20 = .ok (.ifCond .eq 12, 3) := by decide +kernel
theorem dX11_worthOfCut_23 : decode cX11_worthOfCut 23 = .ok (.iload_n 2, 1) := by decide +kernel
theorem dX11_worthOfCut_24 : decode cX11_worthOfCut 24 = .ok (.aload_n 0, 1) := by decide +kernel
theorem dX11_worthOfCut_25 : decode cX11_worthOfCut 25 = .ok (.getfield 63, 3) := by decide +kernel
theorem dX11_worthOfCut_28 : decode cX11_worthOfCut 28 = .ok (.iload_n 3, 1) := by decide +kernel
theorem dX11_worthOfCut_29 : decode cX11_worthOfCut 29 = .ok (.iaload, 1) := by decide +kernel
theorem dX11_worthOfCut_30 : decode cX11_worthOfCut 30 = .ok (.iadd, 1) := by decide +kernel
theorem dX11_worthOfCut_31 : decode cX11_worthOfCut 31 = .ok (.istore_n 2, 1) := by decide +kernel
theorem dX11_worthOfCut_32 : decode cX11_worthOfCut 32 = .ok (.iinc 3 1, 3) := by decide +kernel
theorem dX11_worthOfCut_35 : decode cX11_worthOfCut 35 = .ok (.goto (-31), 3) := by decide +kernel
theorem dX11_worthOfCut_38 : decode cX11_worthOfCut 38 = .ok (.iload_n 2, 1) := by decide +kernel
theorem dX11_worthOfCut_39 : decode cX11_worthOfCut 39 = .ok (.ireturn, 1) := by decide +kernel
theorem bX11_worthOfCut_0 {d : Nat} {P : Int → q_Mem → Prop} {M : q_Mem} (x1 : Int) (h : q_v mX11_worthOfCut d (qPI P) M 4 [some (qR 1), some (qI x1), some (qI 0), some (qI 0)] []) : q_v mX11_worthOfCut d (qPI P) M 0 [some (qR 1), some (qI x1), none, none] [] := by
  refine qr_iconst 0 1 rfl (q_l32 _ rfl) dX11_worthOfCut_0 ?_
  refine qr_istore_n 1 2 rfl (by decide) rfl rfl dX11_worthOfCut_1 ?_
  refine qr_iconst 2 3 rfl (q_l32 _ rfl) dX11_worthOfCut_2 ?_
  refine qr_istore_n 3 4 rfl (by decide) rfl rfl dX11_worthOfCut_3 ?_
  exact h
theorem bX11_worthOfCut_4 {d : Nat} {P : Int → q_Mem → Prop} {M : q_Mem} (x1 x2 x3 : Int) (h : q_kd (M 1 4) = 4 ∧ ((((M (M 1 4) 1) ≤ x3) → P x2 M) ∧ ((¬ ((M (M 1 4) 1) ≤ x3)) → (((q_and (q_shr x1 x3) 1) = 0) → q_v mX11_worthOfCut d (qPI P) M 4 [some (qR 1), some (qI x1), some (qI x2), some (qI (q_add x3 1))] []) ∧ ((¬ ((q_and (q_shr x1 x3) 1) = 0)) → (0 ≤ x3 ∧ x3 < 16) ∧ (∀ x2_3 : Int, x2_3 = (q_add x2 (M 90 x3)) → q_v mX11_worthOfCut d (qPI P) M 4 [some (qR 1), some (qI x1), some (qI x2_3), some (qI (q_add x3 1))] []))))) : q_v mX11_worthOfCut d (qPI P) M 4 [some (qR 1), some (qI x1), some (qI x2), some (qI x3)] [] := by
  refine qr_iload_n 4 5 rfl (x := x3) rfl dX11_worthOfCut_4 ?_
  refine qr_aload_n 5 6 rfl (x := 1) rfl dX11_worthOfCut_5 ?_
  refine qg_r 6 9 rfl ck11 4 (by decide) (by decide +kernel) (by decide +kernel) rfl wm_381 rfl dX11_worthOfCut_6 ?_
  have hk1 := h.1
  have h := h.2
  refine qg_i 9 12 rfl ck4 1 (by decide) hk1 (by decide +kernel) rfl wm_68 rfl dX11_worthOfCut_9 ?_
  refine qr_icmp_ge 12 15 38 rfl (by decide) dX11_worthOfCut_12 (fun c12 => ?_) (fun c12 => ?_)
  · have h := h.1 c12
    refine qr_iload_n 38 39 rfl (x := x2) rfl dX11_worthOfCut_38 ?_
    exact qe_i 39 rfl dX11_worthOfCut_39 h
  · have h := h.2 c12
    refine qr_iload_n 15 16 rfl (x := x1) rfl dX11_worthOfCut_15 ?_
    refine qr_iload_n 16 17 rfl (x := x3) rfl dX11_worthOfCut_16 ?_
    refine qr_ishr 17 18 rfl dX11_worthOfCut_17 ?_
    refine qr_iconst 18 19 rfl (q_l32 _ rfl) dX11_worthOfCut_18 ?_
    refine qr_iand 19 20 rfl dX11_worthOfCut_19 ?_
    refine qr_if_eq 20 23 32 rfl (by decide) dX11_worthOfCut_20 (fun c20 => ?_) (fun c20 => ?_)
    · have h := h.1 c20
      refine qr_iinc 32 35 rfl (by decide) (x := x3) rfl rfl rfl dX11_worthOfCut_32 ?_
      refine qr_goto 35 4 (by decide) dX11_worthOfCut_35 ?_
      exact h
    · have h := h.2 c20
      refine qr_iload_n 23 24 rfl (x := x2) rfl dX11_worthOfCut_23 ?_
      refine qr_aload_n 24 25 rfl (x := 1) rfl dX11_worthOfCut_24 ?_
      refine qr_getF 25 28 rfl ck11 12 (by decide) (b := 90) (by decide +kernel) rfl (by decide +kernel) (by decide +kernel) wm_389 rfl dX11_worthOfCut_25 ?_
      refine qr_iload_n 28 29 rfl (x := x3) rfl dX11_worthOfCut_28 ?_
      have hb2 := h.1
      have h := h.2
      refine qi_ld 29 30 rfl (by decide +kernel) (by decide +kernel) hb2.1 hb2.2 dX11_worthOfCut_29 ?_
      refine qr_iadd 30 31 rfl dX11_worthOfCut_30 ?_
      refine qn_i 31 (fun x2_3 e_x2_3 => ?_)
      have h := h x2_3 e_x2_3
      refine qr_istore_n 31 32 rfl (by decide) rfl rfl dX11_worthOfCut_31 ?_
      refine qr_iinc 32 35 rfl (by decide) (x := x3) rfl rfl rfl dX11_worthOfCut_32 ?_
      refine qr_goto 35 4 (by decide) dX11_worthOfCut_35 ?_
      exact h
