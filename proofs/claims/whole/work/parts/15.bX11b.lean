-- blocks of methods (by program)
theorem dX11_goodLinks_0 : decode cX11_goodLinks 0 = .ok (.iconst 0, 1) := by decide +kernel
theorem dX11_goodLinks_1 : decode cX11_goodLinks 1 = .ok (.istore_n 2, 1) := by decide +kernel
theorem dX11_goodLinks_2 : decode cX11_goodLinks 2 = .ok (.iconst 0, 1) := by decide +kernel
theorem dX11_goodLinks_3 : decode cX11_goodLinks 3 = .ok (.istore_n 3, 1) := by decide +kernel
theorem dX11_goodLinks_4 : decode cX11_goodLinks 4 = .ok (.iload_n 3, 1) := by decide +kernel
theorem dX11_goodLinks_5 : decode cX11_goodLinks 5 = .ok (.aload_n 0, 1) := by decide +kernel
theorem dX11_goodLinks_6 : decode cX11_goodLinks 6 = .ok (.getfield 20, 3) := by decide +kernel
theorem dX11_goodLinks_9 : decode cX11_goodLinks 9 = .ok (.getfield 165, 3) := by decide +kernel
theorem dX11_goodLinks_12 : decode cX11_goodLinks 12 = .ok (.if_icmp .ge 26, 3) := by decide +kernel
theorem dX11_goodLinks_15 : decode cX11_goodLinks 15 = .ok (.aload_n 0, 1) := by decide +kernel
theorem dX11_goodLinks_16 : decode cX11_goodLinks 16 = .ok (.getfield 63, 3) := by decide +kernel
theorem dX11_goodLinks_19 : decode cX11_goodLinks 19 = .ok (.iload_n 3, 1) := by decide +kernel
theorem dX11_goodLinks_20 : decode cX11_goodLinks 20 = .ok (.iaload, 1) := by decide +kernel
theorem dX11_goodLinks_21 : decode cX11_goodLinks 21 = .ok (.iload_n 1, 1) := by decide +kernel
theorem dX11_goodLinks_22 : decode cX11_goodLinks 22 = .ok (.imul, 1) := by decide +kernel
theorem dX11_goodLinks_23 : decode cX11_goodLinks 23 = .ok (.ifCond .le 9, 3) := by decide +kernel
theorem dX11_goodLinks_26 : decode cX11_goodLinks 26 = .ok (.iload_n 2, 1) := by decide +kernel
theorem dX11_goodLinks_27 : decode cX11_goodLinks 27 = .ok (.iconst 1, 1) := by decide +kernel
theorem dX11_goodLinks_28 : decode cX11_goodLinks 28 = .ok (.iload_n 3, 1) := by decide +kernel
theorem dX11_goodLinks_29 : decode cX11_goodLinks 29 = .ok (.ishl, 1) := by decide +kernel
theorem dX11_goodLinks_30 : decode cX11_goodLinks 30 = .ok (.ior, 1) := by decide +kernel
theorem dX11_goodLinks_31 : decode cX11_goodLinks 31 = .ok (.istore_n 2, 1) := by decide +kernel
theorem dX11_goodLinks_32 : decode cX11_goodLinks 32 = .ok (.iinc 3 1, 3) := by decide +kernel
theorem dX11_goodLinks_35 : decode cX11_goodLinks 35 = .ok (.goto (-31), 3) := by decide +kernel
theorem dX11_goodLinks_38 : decode cX11_goodLinks 38 = .ok (.iload_n 2, 1) := by decide +kernel
theorem dX11_goodLinks_39 : decode cX11_goodLinks 39 = .ok (.ireturn, 1) := by decide +kernel
theorem bX11_goodLinks_0 {d : Nat} {P : Int → q_Mem → Prop} {M : q_Mem} (x1 : Int) (h : q_v mX11_goodLinks d (qPI P) M 4 [some (qR 1), some (qI x1), some (qI 0), some (qI 0)] []) : q_v mX11_goodLinks d (qPI P) M 0 [some (qR 1), some (qI x1), none, none] [] := by
  refine qr_iconst 0 1 rfl (q_l32 _ rfl) dX11_goodLinks_0 ?_
  refine qr_istore_n 1 2 rfl (by decide) rfl rfl dX11_goodLinks_1 ?_
  refine qr_iconst 2 3 rfl (q_l32 _ rfl) dX11_goodLinks_2 ?_
  refine qr_istore_n 3 4 rfl (by decide) rfl rfl dX11_goodLinks_3 ?_
  exact h
theorem bX11_goodLinks_4 {d : Nat} {P : Int → q_Mem → Prop} {M : q_Mem} (x1 x2 x3 : Int) (h : q_kd (M 1 4) = 4 ∧ ((((M (M 1 4) 1) ≤ x3) → P x2 M) ∧ ((¬ ((M (M 1 4) 1) ≤ x3)) → (0 ≤ x3 ∧ x3 < (16 : Int)) ∧ ((((q_mul (M 90 x3) x1) ≤ 0) → q_v mX11_goodLinks d (qPI P) M 4 [some (qR 1), some (qI x1), some (qI x2), some (qI (q_add x3 1))] []) ∧ ((¬ ((q_mul (M 90 x3) x1) ≤ 0)) → ∀ x2_3 : Int, x2_3 = (q_or x2 (q_shl 1 x3)) → q_v mX11_goodLinks d (qPI P) M 4 [some (qR 1), some (qI x1), some (qI x2_3), some (qI (q_add x3 1))] []))))) : q_v mX11_goodLinks d (qPI P) M 4 [some (qR 1), some (qI x1), some (qI x2), some (qI x3)] [] := by
  refine qr_iload_n 4 5 rfl (x := x3) rfl dX11_goodLinks_4 ?_
  refine qr_aload_n 5 6 rfl (x := 1) rfl dX11_goodLinks_5 ?_
  refine qg_r 6 9 rfl ck11 4 (kk := 4) (by decide) (by decide +kernel) (by decide +kernel) rfl wm_381 rfl dX11_goodLinks_6 ?_
  have hk1 := h.1
  have h := h.2
  refine qg_i 9 12 rfl ck4 1 (kk := 1) (by decide) hk1 (by decide +kernel) rfl wm_68 rfl dX11_goodLinks_9 ?_
  refine qr_icmp_ge 12 15 38 rfl (by decide) dX11_goodLinks_12 (fun c12 => ?_) (fun c12 => ?_)
  · have h := h.1 c12
    refine qr_iload_n 38 39 rfl (x := x2) rfl dX11_goodLinks_38 ?_
    exact qe_i 39 rfl dX11_goodLinks_39 h
  · have h := h.2 c12
    refine qr_aload_n 15 16 rfl (x := 1) rfl dX11_goodLinks_15 ?_
    refine qr_getF 16 19 rfl ck11 12 (by decide) (b := 90) (by decide +kernel) rfl (by decide +kernel) (by decide +kernel) wm_389 rfl dX11_goodLinks_16 ?_
    refine qr_iload_n 19 20 rfl (x := x3) rfl dX11_goodLinks_19 ?_
    have hb2 := h.1
    have h := h.2
    refine qi_ld 20 21 rfl (N := 16) (by decide +kernel) (by decide +kernel) hb2.1 hb2.2 dX11_goodLinks_20 ?_
    refine qr_iload_n 21 22 rfl (x := x1) rfl dX11_goodLinks_21 ?_
    refine qr_imul 22 23 rfl dX11_goodLinks_22 ?_
    refine qr_if_le 23 26 32 rfl (by decide) dX11_goodLinks_23 (fun c23 => ?_) (fun c23 => ?_)
    · have h := h.1 c23
      refine qr_iinc 32 35 rfl (by decide) (x := x3) rfl rfl rfl dX11_goodLinks_32 ?_
      refine qr_goto 35 4 (by decide) dX11_goodLinks_35 ?_
      exact h
    · have h := h.2 c23
      refine qr_iload_n 26 27 rfl (x := x2) rfl dX11_goodLinks_26 ?_
      refine qr_iconst 27 28 rfl (q_l32 _ rfl) dX11_goodLinks_27 ?_
      refine qr_iload_n 28 29 rfl (x := x3) rfl dX11_goodLinks_28 ?_
      refine qr_ishl 29 30 rfl dX11_goodLinks_29 ?_
      refine qr_ior 30 31 rfl dX11_goodLinks_30 ?_
      refine qn_i 31 (fun x2_3 e_x2_3 => ?_)
      have h := h x2_3 e_x2_3
      refine qr_istore_n 31 32 rfl (by decide) rfl rfl dX11_goodLinks_31 ?_
      refine qr_iinc 32 35 rfl (by decide) (x := x3) rfl rfl rfl dX11_goodLinks_32 ?_
      refine qr_goto 35 4 (by decide) dX11_goodLinks_35 ?_
      exact h
theorem dX11_cutBits_0 : decode cX11_cutBits 0 = .ok (.iconst 0, 1) := by decide +kernel
theorem dX11_cutBits_1 : decode cX11_cutBits 1 = .ok (.istore_n 1, 1) := by decide +kernel
theorem dX11_cutBits_2 : decode cX11_cutBits 2 = .ok (.iconst 0, 1) := by decide +kernel
theorem dX11_cutBits_3 : decode cX11_cutBits 3 = .ok (.istore_n 2, 1) := by decide +kernel
theorem dX11_cutBits_4 : decode cX11_cutBits 4 = .ok (.iload_n 2, 1) := by decide +kernel
theorem dX11_cutBits_5 : decode cX11_cutBits 5 = .ok (.aload_n 0, 1) := by decide +kernel
theorem dX11_cutBits_6 : decode cX11_cutBits 6 = .ok (.getfield 20, 3) := by decide +kernel
theorem dX11_cutBits_9 : decode cX11_cutBits 9 = .ok (.getfield 165, 3) := by decide +kernel
theorem dX11_cutBits_12 : decode cX11_cutBits 12 = .ok (.if_icmp .ge 23, 3) := by decide +kernel
theorem dX11_cutBits_15 : decode cX11_cutBits 15 = .ok (.aload_n 0, 1) := by decide +kernel
theorem dX11_cutBits_16 : decode cX11_cutBits 16 = .ok (.iload_n 2, 1) := by decide +kernel
theorem dX11_cutBits_17 : decode cX11_cutBits 17 = .ok (.invokevirtual 365, 3) := by decide +kernel
theorem dX11_cutBits_20 : decode cX11_cutBits 20 = .ok (.ifCond .eq 9, 3) := by decide +kernel
theorem dX11_cutBits_23 : decode cX11_cutBits 23 = .ok (.iload_n 1, 1) := by decide +kernel
theorem dX11_cutBits_24 : decode cX11_cutBits 24 = .ok (.iconst 1, 1) := by decide +kernel
theorem dX11_cutBits_25 : decode cX11_cutBits 25 = .ok (.iload_n 2, 1) := by decide +kernel
theorem dX11_cutBits_26 : decode cX11_cutBits 26 = .ok (.ishl, 1) := by decide +kernel
theorem dX11_cutBits_27 : decode cX11_cutBits 27 = .ok (.ior, 1) := by decide +kernel
theorem dX11_cutBits_28 : decode cX11_cutBits 28 = .ok (.istore_n 1, 1) := by decide +kernel
theorem dX11_cutBits_29 : decode cX11_cutBits 29 = .ok (.iinc 2 1, 3) := by decide +kernel
theorem dX11_cutBits_32 : decode cX11_cutBits 32 = .ok (.goto (-28), 3) := by decide +kernel
theorem dX11_cutBits_35 : decode cX11_cutBits 35 = .ok (.iload_n 1, 1) := by decide +kernel
theorem dX11_cutBits_36 : decode cX11_cutBits 36 = .ok (.ireturn, 1) := by decide +kernel
theorem bX11_cutBits_0 {d : Nat} {P : Int → q_Mem → Prop} {M : q_Mem} (h : q_v mX11_cutBits d (qPI P) M 4 [some (qR 1), some (qI 0), some (qI 0)] []) : q_v mX11_cutBits d (qPI P) M 0 [some (qR 1), none, none] [] := by
  refine qr_iconst 0 1 rfl (q_l32 _ rfl) dX11_cutBits_0 ?_
  refine qr_istore_n 1 2 rfl (by decide) rfl rfl dX11_cutBits_1 ?_
  refine qr_iconst 2 3 rfl (q_l32 _ rfl) dX11_cutBits_2 ?_
  refine qr_istore_n 3 4 rfl (by decide) rfl rfl dX11_cutBits_3 ?_
  exact h
theorem bX11_cutBits_4 {d : Nat} {P : Int → q_Mem → Prop} {M : q_Mem} (x1 x2 : Int) (h : q_kd (M 1 4) = 4 ∧ ((((M (M 1 4) 1) ≤ x2) → P x1 M) ∧ ((¬ ((M (M 1 4) 1) ≤ x2)) → q_kI yX11_isCut mX11_isCut d [qR 1, qI x2] M (fun v3 M2 => ((v3 = 0) → q_v mX11_cutBits d (qPI P) M2 4 [some (qR 1), some (qI x1), some (qI (q_add x2 1))] []) ∧ ((¬ (v3 = 0)) → ∀ x1_4 : Int, x1_4 = (q_or x1 (q_shl 1 x2)) → q_v mX11_cutBits d (qPI P) M2 4 [some (qR 1), some (qI x1_4), some (qI (q_add x2 1))] []))))) : q_v mX11_cutBits d (qPI P) M 4 [some (qR 1), some (qI x1), some (qI x2)] [] := by
  refine qr_iload_n 4 5 rfl (x := x2) rfl dX11_cutBits_4 ?_
  refine qr_aload_n 5 6 rfl (x := 1) rfl dX11_cutBits_5 ?_
  refine qg_r 6 9 rfl ck11 4 (kk := 4) (by decide) (by decide +kernel) (by decide +kernel) rfl wm_381 rfl dX11_cutBits_6 ?_
  have hk1 := h.1
  have h := h.2
  refine qg_i 9 12 rfl ck4 1 (kk := 1) (by decide) hk1 (by decide +kernel) rfl wm_68 rfl dX11_cutBits_9 ?_
  refine qr_icmp_ge 12 15 35 rfl (by decide) dX11_cutBits_12 (fun c12 => ?_) (fun c12 => ?_)
  · have h := h.1 c12
    refine qr_iload_n 35 36 rfl (x := x1) rfl dX11_cutBits_35 ?_
    exact qe_i 36 rfl dX11_cutBits_36 h
  · have h := h.2 c12
    refine qr_aload_n 15 16 rfl (x := 1) rfl dX11_cutBits_15 ?_
    refine qr_iload_n 16 17 rfl (x := x2) rfl dX11_cutBits_16 ?_
    refine qw_I 17 20 rfl (av := [qI x2]) ca_X11_isCut wm_939 wp_48 wm_937 ck11 (by decide +kernel) rfl rfl (Nat.le_of_ble_eq_true rfl) dX11_cutBits_17 h (fun v3 M2 h => ?_)
    refine qr_if_eq 20 23 29 rfl (by decide) dX11_cutBits_20 (fun c20 => ?_) (fun c20 => ?_)
    · have h := h.1 c20
      refine qr_iinc 29 32 rfl (by decide) (x := x2) rfl rfl rfl dX11_cutBits_29 ?_
      refine qr_goto 32 4 (by decide) dX11_cutBits_32 ?_
      exact h
    · have h := h.2 c20
      refine qr_iload_n 23 24 rfl (x := x1) rfl dX11_cutBits_23 ?_
      refine qr_iconst 24 25 rfl (q_l32 _ rfl) dX11_cutBits_24 ?_
      refine qr_iload_n 25 26 rfl (x := x2) rfl dX11_cutBits_25 ?_
      refine qr_ishl 26 27 rfl dX11_cutBits_26 ?_
      refine qr_ior 27 28 rfl dX11_cutBits_27 ?_
      refine qn_i 28 (fun x1_4 e_x1_4 => ?_)
      have h := h x1_4 e_x1_4
      refine qr_istore_n 28 29 rfl (by decide) rfl rfl dX11_cutBits_28 ?_
      refine qr_iinc 29 32 rfl (by decide) (x := x2) rfl rfl rfl dX11_cutBits_29 ?_
      refine qr_goto 32 4 (by decide) dX11_cutBits_32 ?_
      exact h
theorem dX11_isCut_0 : decode cX11_isCut 0 = .ok (.aload_n 0, 1) := by decide +kernel
theorem dX11_isCut_1 : decode cX11_isCut 1 = .ok (.getfield 37, 3) := by decide +kernel
theorem dX11_isCut_4 : decode cX11_isCut 4 = .ok (.getfield 189, 3) := by decide +kernel
theorem dX11_isCut_7 : decode cX11_isCut 7 = .ok (.aload_n 0, 1) := by decide +kernel
theorem dX11_isCut_8 : decode cX11_isCut 8 = .ok (.getfield 20, 3) := by decide +kernel
theorem dX11_isCut_11 : decode cX11_isCut 11 = .ok (.getfield 140, 3) := by decide +kernel
theorem dX11_isCut_14 : decode cX11_isCut 14 = .ok (.iload_n 1, 1) := by decide +kernel
theorem dX11_isCut_15 : decode cX11_isCut 15 = .ok (.iaload, 1) := by decide +kernel
theorem dX11_isCut_16 : decode cX11_isCut 16 = .ok (.ishr, 1) := by decide +kernel
theorem dX11_isCut_17 : decode cX11_isCut 17 = .ok (.aload_n 0, 1) := by decide +kernel
theorem dX11_isCut_18 : decode cX11_isCut 18 = .ok (.getfield 37, 3) := by decide +kernel
theorem dX11_isCut_21 : decode cX11_isCut 21 = .ok (.getfield 189, 3) := by decide +kernel
theorem dX11_isCut_24 : decode cX11_isCut 24 = .ok (.aload_n 0, 1) := by decide +kernel
theorem dX11_isCut_25 : decode cX11_isCut 25 = .ok (.getfield 20, 3) := by decide +kernel
theorem dX11_isCut_28 : decode cX11_isCut 28 = .ok (.getfield 143, 3) := by decide +kernel
theorem dX11_isCut_31 : decode cX11_isCut 31 = .ok (.iload_n 1, 1) := by decide +kernel
theorem dX11_isCut_32 : decode cX11_isCut 32 = .ok (.iaload, 1) := by decide +kernel
theorem dX11_isCut_33 : decode cX11_isCut 33 = .ok (.ishr, 1) := by decide +kernel
theorem dX11_isCut_34 : decode cX11_isCut 34 = .ok (.ixor, 1) := by decide +kernel
theorem dX11_isCut_35 : decode cX11_isCut 35 = .ok (.iconst 1, 1) := by decide +kernel
theorem dX11_isCut_36 : decode cX11_isCut 36 = .ok (.iand, 1) := by decide +kernel
theorem dX11_isCut_37 : decode cX11_isCut 37 = .ok (.ifCond .eq 7, 3) := by decide +kernel
theorem dX11_isCut_40 : decode cX11_isCut 40 = .ok (.iconst 1, 1) := by decide +kernel
theorem dX11_isCut_41 : decode cX11_isCut 41 = .ok (.goto 4, 3) := by decide +kernel
theorem dX11_isCut_44 : decode cX11_isCut 44 = .ok (.iconst 0, 1) := by decide +kernel
theorem dX11_isCut_45 : decode cX11_isCut 45 = .ok (.ireturn, 1) := by decide +kernel
theorem bX11_isCut_0 {d : Nat} {P : Int → q_Mem → Prop} {M : q_Mem} (x1 : Int) (h : q_kd (M 1 4) = 4 ∧ ((0 ≤ x1 ∧ x1 < (16 : Int)) ∧ ((0 ≤ x1 ∧ x1 < (16 : Int)) ∧ ((((q_and (q_xor (q_shr (M 50 1) (M (q_lay (M 1 4) 4) x1)) (q_shr (M 50 1) (M (q_lay (M 1 4) 5) x1))) 1) = 0) → P 0 M) ∧ ((¬ ((q_and (q_xor (q_shr (M 50 1) (M (q_lay (M 1 4) 4) x1)) (q_shr (M 50 1) (M (q_lay (M 1 4) 5) x1))) 1) = 0)) → P 1 M))))) : q_v mX11_isCut d (qPI P) M 0 [some (qR 1), some (qI x1)] [] := by
  refine qr_aload_n 0 1 rfl (x := 1) rfl dX11_isCut_0 ?_
  refine qr_getF 1 4 rfl ck11 7 (by decide) (b := 50) (by decide +kernel) rfl (by decide +kernel) (by decide +kernel) wm_384 rfl dX11_isCut_1 ?_
  refine qg_i 4 7 rfl ck7 1 (kk := 1) (by decide) (by decide +kernel) (by decide +kernel) rfl wm_170 rfl dX11_isCut_4 ?_
  refine qr_aload_n 7 8 rfl (x := 1) rfl dX11_isCut_7 ?_
  refine qg_r 8 11 rfl ck11 4 (kk := 4) (by decide) (by decide +kernel) (by decide +kernel) rfl wm_381 rfl dX11_isCut_8 ?_
  have hk1 := h.1
  have h := h.2
  refine qr_getF 11 14 rfl ck4 4 (by decide) (b := (q_lay (M 1 4) 4)) hk1 rfl (by decide +kernel) rfl wm_77 rfl dX11_isCut_11 ?_
  refine qr_iload_n 14 15 rfl (x := x1) rfl dX11_isCut_14 ?_
  have hb2 := h.1
  have h := h.2
  refine qi_ld 15 16 rfl (N := 16) (lk4_4 _ hk1) (ll4_4 _ hk1) hb2.1 hb2.2 dX11_isCut_15 ?_
  refine qr_ishr 16 17 rfl dX11_isCut_16 ?_
  refine qr_aload_n 17 18 rfl (x := 1) rfl dX11_isCut_17 ?_
  refine qr_getF 18 21 rfl ck11 7 (by decide) (b := 50) (by decide +kernel) rfl (by decide +kernel) (by decide +kernel) wm_384 rfl dX11_isCut_18 ?_
  refine qg_i 21 24 rfl ck7 1 (kk := 1) (by decide) (by decide +kernel) (by decide +kernel) rfl wm_170 rfl dX11_isCut_21 ?_
  refine qr_aload_n 24 25 rfl (x := 1) rfl dX11_isCut_24 ?_
  refine qg_r 25 28 rfl ck11 4 (kk := 4) (by decide) (by decide +kernel) (by decide +kernel) rfl wm_381 rfl dX11_isCut_25 ?_
  refine qr_getF 28 31 rfl ck4 5 (by decide) (b := (q_lay (M 1 4) 5)) hk1 rfl (by decide +kernel) rfl wm_81 rfl dX11_isCut_28 ?_
  refine qr_iload_n 31 32 rfl (x := x1) rfl dX11_isCut_31 ?_
  have hb3 := h.1
  have h := h.2
  refine qi_ld 32 33 rfl (N := 16) (lk4_5 _ hk1) (ll4_5 _ hk1) hb3.1 hb3.2 dX11_isCut_32 ?_
  refine qr_ishr 33 34 rfl dX11_isCut_33 ?_
  refine qr_ixor 34 35 rfl dX11_isCut_34 ?_
  refine qr_iconst 35 36 rfl (q_l32 _ rfl) dX11_isCut_35 ?_
  refine qr_iand 36 37 rfl dX11_isCut_36 ?_
  refine qr_if_eq 37 40 44 rfl (by decide) dX11_isCut_37 (fun c37 => ?_) (fun c37 => ?_)
  · have h := h.1 c37
    refine qr_iconst 44 45 rfl (q_l32 _ rfl) dX11_isCut_44 ?_
    exact qe_z 45 rfl (by decide) dX11_isCut_45 h
  · have h := h.2 c37
    refine qr_iconst 40 41 rfl (q_l32 _ rfl) dX11_isCut_40 ?_
    refine qr_goto 41 45 (by decide) dX11_isCut_41 ?_
    exact qe_z 45 rfl (by decide) dX11_isCut_45 h
theorem dX11_worthOfCut_0 : decode cX11_worthOfCut 0 = .ok (.iconst 0, 1) := by decide +kernel
theorem dX11_worthOfCut_1 : decode cX11_worthOfCut 1 = .ok (.istore_n 2, 1) := by decide +kernel
theorem dX11_worthOfCut_2 : decode cX11_worthOfCut 2 = .ok (.iconst 0, 1) := by decide +kernel
theorem dX11_worthOfCut_3 : decode cX11_worthOfCut 3 = .ok (.istore_n 3, 1) := by decide +kernel
theorem dX11_worthOfCut_4 : decode cX11_worthOfCut 4 = .ok (.iload_n 3, 1) := by decide +kernel
theorem dX11_worthOfCut_5 : decode cX11_worthOfCut 5 = .ok (.aload_n 0, 1) := by decide +kernel
theorem dX11_worthOfCut_6 : decode cX11_worthOfCut 6 = .ok (.getfield 20, 3) := by decide +kernel
theorem dX11_worthOfCut_9 : decode cX11_worthOfCut 9 = .ok (.getfield 165, 3) := by decide +kernel
theorem dX11_worthOfCut_12 : decode cX11_worthOfCut 12 = .ok (.if_icmp .ge 26, 3) := by decide +kernel
theorem dX11_worthOfCut_15 : decode cX11_worthOfCut 15 = .ok (.iload_n 1, 1) := by decide +kernel
theorem dX11_worthOfCut_16 : decode cX11_worthOfCut 16 = .ok (.iload_n 3, 1) := by decide +kernel
theorem dX11_worthOfCut_17 : decode cX11_worthOfCut 17 = .ok (.ishr, 1) := by decide +kernel
theorem dX11_worthOfCut_18 : decode cX11_worthOfCut 18 = .ok (.iconst 1, 1) := by decide +kernel
theorem dX11_worthOfCut_19 : decode cX11_worthOfCut 19 = .ok (.iand, 1) := by decide +kernel
theorem dX11_worthOfCut_20 : decode cX11_worthOfCut 20 = .ok (.ifCond .eq 12, 3) := by decide +kernel
theorem dX11_worthOfCut_23 : decode cX11_worthOfCut 23 = .ok (.iload_n 2, 1) := by decide +kernel
theorem dX11_worthOfCut_24 : decode cX11_worthOfCut 24 = .ok (.aload_n 0, 1) := by decide +kernel
theorem dX11_worthOfCut_25 : decode cX11_worthOfCut 25 = .ok (.getfield 63, 3) := by decide +kernel
theorem dX11_worthOfCut_28 : decode cX11_worthOfCut 28 = .ok (.iload_n 3, 1) := by decide +kernel
theorem dX11_worthOfCut_29 : decode cX11_worthOfCut 29 = .ok (.iaload, 1) := by decide +kernel
theorem dX11_worthOfCut_30 : decode cX11_worthOfCut 30 = .ok (.iadd, 1) := by decide +kernel
theorem dX11_worthOfCut_31 : decode cX11_worthOfCut 31 = .ok (.istore_n 2, 1) := by decide +kernel
theorem dX11_worthOfCut_32 : decode cX11_worthOfCut 32 = .ok (.iinc 3 1, 3) := by decide +kernel
theorem dX11_worthOfCut_35 : decode cX11_worthOfCut 35 = .ok (.goto (-31), 3) := by decide +kernel
theorem dX11_worthOfCut_38 : decode cX11_worthOfCut 38 = .ok (.iload_n 2, 1) := by decide +kernel
theorem dX11_worthOfCut_39 : decode cX11_worthOfCut 39 = .ok (.ireturn, 1) := by decide +kernel
theorem bX11_worthOfCut_0 {d : Nat} {P : Int → q_Mem → Prop} {M : q_Mem} (x1 : Int) (h : q_v mX11_worthOfCut d (qPI P) M 4 [some (qR 1), some (qI x1), some (qI 0), some (qI 0)] []) : q_v mX11_worthOfCut d (qPI P) M 0 [some (qR 1), some (qI x1), none, none] [] := by
  refine qr_iconst 0 1 rfl (q_l32 _ rfl) dX11_worthOfCut_0 ?_
  refine qr_istore_n 1 2 rfl (by decide) rfl rfl dX11_worthOfCut_1 ?_
  refine qr_iconst 2 3 rfl (q_l32 _ rfl) dX11_worthOfCut_2 ?_
  refine qr_istore_n 3 4 rfl (by decide) rfl rfl dX11_worthOfCut_3 ?_
  exact h
theorem bX11_worthOfCut_4 {d : Nat} {P : Int → q_Mem → Prop} {M : q_Mem} (x1 x2 x3 : Int) (h : q_kd (M 1 4) = 4 ∧ ((((M (M 1 4) 1) ≤ x3) → P x2 M) ∧ ((¬ ((M (M 1 4) 1) ≤ x3)) → (((q_and (q_shr x1 x3) 1) = 0) → q_v mX11_worthOfCut d (qPI P) M 4 [some (qR 1), some (qI x1), some (qI x2), some (qI (q_add x3 1))] []) ∧ ((¬ ((q_and (q_shr x1 x3) 1) = 0)) → (0 ≤ x3 ∧ x3 < (16 : Int)) ∧ (∀ x2_3 : Int, x2_3 = (q_add x2 (M 90 x3)) → q_v mX11_worthOfCut d (qPI P) M 4 [some (qR 1), some (qI x1), some (qI x2_3), some (qI (q_add x3 1))] []))))) : q_v mX11_worthOfCut d (qPI P) M 4 [some (qR 1), some (qI x1), some (qI x2), some (qI x3)] [] := by
  refine qr_iload_n 4 5 rfl (x := x3) rfl dX11_worthOfCut_4 ?_
  refine qr_aload_n 5 6 rfl (x := 1) rfl dX11_worthOfCut_5 ?_
  refine qg_r 6 9 rfl ck11 4 (kk := 4) (by decide) (by decide +kernel) (by decide +kernel) rfl wm_381 rfl dX11_worthOfCut_6 ?_
  have hk1 := h.1
  have h := h.2
  refine qg_i 9 12 rfl ck4 1 (kk := 1) (by decide) hk1 (by decide +kernel) rfl wm_68 rfl dX11_worthOfCut_9 ?_
  refine qr_icmp_ge 12 15 38 rfl (by decide) dX11_worthOfCut_12 (fun c12 => ?_) (fun c12 => ?_)
  · have h := h.1 c12
    refine qr_iload_n 38 39 rfl (x := x2) rfl dX11_worthOfCut_38 ?_
    exact qe_i 39 rfl dX11_worthOfCut_39 h
  · have h := h.2 c12
    refine qr_iload_n 15 16 rfl (x := x1) rfl dX11_worthOfCut_15 ?_
    refine qr_iload_n 16 17 rfl (x := x3) rfl dX11_worthOfCut_16 ?_
    refine qr_ishr 17 18 rfl dX11_worthOfCut_17 ?_
    refine qr_iconst 18 19 rfl (q_l32 _ rfl) dX11_worthOfCut_18 ?_
    refine qr_iand 19 20 rfl dX11_worthOfCut_19 ?_
    refine qr_if_eq 20 23 32 rfl (by decide) dX11_worthOfCut_20 (fun c20 => ?_) (fun c20 => ?_)
    · have h := h.1 c20
      refine qr_iinc 32 35 rfl (by decide) (x := x3) rfl rfl rfl dX11_worthOfCut_32 ?_
      refine qr_goto 35 4 (by decide) dX11_worthOfCut_35 ?_
      exact h
    · have h := h.2 c20
      refine qr_iload_n 23 24 rfl (x := x2) rfl dX11_worthOfCut_23 ?_
      refine qr_aload_n 24 25 rfl (x := 1) rfl dX11_worthOfCut_24 ?_
      refine qr_getF 25 28 rfl ck11 12 (by decide) (b := 90) (by decide +kernel) rfl (by decide +kernel) (by decide +kernel) wm_389 rfl dX11_worthOfCut_25 ?_
      refine qr_iload_n 28 29 rfl (x := x3) rfl dX11_worthOfCut_28 ?_
      have hb2 := h.1
      have h := h.2
      refine qi_ld 29 30 rfl (N := 16) (by decide +kernel) (by decide +kernel) hb2.1 hb2.2 dX11_worthOfCut_29 ?_
      refine qr_iadd 30 31 rfl dX11_worthOfCut_30 ?_
      refine qn_i 31 (fun x2_3 e_x2_3 => ?_)
      have h := h x2_3 e_x2_3
      refine qr_istore_n 31 32 rfl (by decide) rfl rfl dX11_worthOfCut_31 ?_
      refine qr_iinc 32 35 rfl (by decide) (x := x3) rfl rfl rfl dX11_worthOfCut_32 ?_
      refine qr_goto 35 4 (by decide) dX11_worthOfCut_35 ?_
      exact h
theorem dX11_gainOf_0 : decode cX11_gainOf 0 = .ok (.iconst 0, 1) := by decide +kernel
theorem dX11_gainOf_1 : decode cX11_gainOf 1 = .ok (.istore_n 2, 1) := by decide +kernel
theorem dX11_gainOf_2 : decode cX11_gainOf 2 = .ok (.iconst 0, 1) := by decide +kernel
theorem dX11_gainOf_3 : decode cX11_gainOf 3 = .ok (.istore_n 3, 1) := by decide +kernel
theorem dX11_gainOf_4 : decode cX11_gainOf 4 = .ok (.iload_n 3, 1) := by decide +kernel
theorem dX11_gainOf_5 : decode cX11_gainOf 5 = .ok (.aload_n 0, 1) := by decide +kernel
theorem dX11_gainOf_6 : decode cX11_gainOf 6 = .ok (.getfield 20, 3) := by decide +kernel
theorem dX11_gainOf_9 : decode cX11_gainOf 9 = .ok (.getfield 165, 3) := by decide +kernel
theorem dX11_gainOf_12 : decode cX11_gainOf 12 = .ok (.if_icmp .ge 48, 3) := by decide +kernel
theorem dX11_gainOf_15 : decode cX11_gainOf 15 = .ok (.aload_n 0, 1) := by decide +kernel
theorem dX11_gainOf_16 : decode cX11_gainOf 16 = .ok (.getfield 20, 3) := by decide +kernel
theorem dX11_gainOf_19 : decode cX11_gainOf 19 = .ok (.iload_n 3, 1) := by decide +kernel
theorem dX11_gainOf_20 : decode cX11_gainOf 20 = .ok (.iload_n 1, 1) := by decide +kernel
theorem dX11_gainOf_21 : decode cX11_gainOf 21 = .ok (.invokevirtual 368, 3) := by decide +kernel
theorem dX11_gainOf_24 : decode cX11_gainOf 24 = .ok (.ifCond .eq 30, 3) := by decide +kernel
theorem dX11_gainOf_27 : decode cX11_gainOf 27 = .ok (.iload_n 2, 1) := by decide +kernel
theorem dX11_gainOf_28 : decode cX11_gainOf 28 = .ok (.aload_n 0, 1) := by decide +kernel
theorem dX11_gainOf_29 : decode cX11_gainOf 29 = .ok (.iload_n 3, 1) := by decide +kernel
theorem dX11_gainOf_30 : decode cX11_gainOf 30 = .ok (.invokevirtual 365, 3) := by decide +kernel
theorem dX11_gainOf_33 : decode cX11_gainOf 33 = .ok (.ifCond .eq 13, 3) := by decide +kernel
theorem dX11_gainOf_36 : decode cX11_gainOf 36 = .ok (.aload_n 0, 1) := by decide +kernel
theorem dX11_gainOf_37 : decode cX11_gainOf 37 = .ok (.getfield 63, 3) := by decide +kernel
theorem dX11_gainOf_40 : decode cX11_gainOf 40 = .ok (.iload_n 3, 1) := by decide +kernel
theorem dX11_gainOf_41 : decode cX11_gainOf 41 = .ok (.iaload, 1) := by decide +kernel
theorem dX11_gainOf_42 : decode cX11_gainOf 42 = .ok (.ineg, 1) := by decide +kernel
theorem dX11_gainOf_43 : decode cX11_gainOf 43 = .ok (.goto 9, 3) := by decide +kernel
theorem dX11_gainOf_46 : decode cX11_gainOf 46 = .ok (.aload_n 0, 1) := by decide +kernel
theorem dX11_gainOf_47 : decode cX11_gainOf 47 = .ok (.getfield 63, 3) := by decide +kernel
theorem dX11_gainOf_50 : decode cX11_gainOf 50 = .ok (.iload_n 3, 1) := by decide +kernel
theorem dX11_gainOf_51 : decode cX11_gainOf 51 = .ok (.iaload, 1) := by decide +kernel
theorem dX11_gainOf_52 : decode cX11_gainOf 52 = .ok (.iadd, 1) := by decide +kernel
theorem dX11_gainOf_53 : decode cX11_gainOf 53 = .ok (.istore_n 2, 1) := by decide +kernel
theorem dX11_gainOf_54 : decode cX11_gainOf 54 = .ok (.iinc 3 1, 3) := by decide +kernel
theorem dX11_gainOf_57 : decode cX11_gainOf 57 = .ok (.goto (-53), 3) := by decide +kernel
theorem dX11_gainOf_60 : decode cX11_gainOf 60 = .ok (.iload_n 2, 1) := by decide +kernel
theorem dX11_gainOf_61 : decode cX11_gainOf 61 = .ok (.ireturn, 1) := by decide +kernel
theorem bX11_gainOf_0 {d : Nat} {P : Int → q_Mem → Prop} {M : q_Mem} (x1 : Int) (h : q_v mX11_gainOf d (qPI P) M 4 [some (qR 1), some (qI x1), some (qI 0), some (qI 0)] []) : q_v mX11_gainOf d (qPI P) M 0 [some (qR 1), some (qI x1), none, none] [] := by
  refine qr_iconst 0 1 rfl (q_l32 _ rfl) dX11_gainOf_0 ?_
  refine qr_istore_n 1 2 rfl (by decide) rfl rfl dX11_gainOf_1 ?_
  refine qr_iconst 2 3 rfl (q_l32 _ rfl) dX11_gainOf_2 ?_
  refine qr_istore_n 3 4 rfl (by decide) rfl rfl dX11_gainOf_3 ?_
  exact h
theorem bX11_gainOf_4 {d : Nat} {P : Int → q_Mem → Prop} {M : q_Mem} (x1 x2 x3 : Int) (h : q_kd (M 1 4) = 4 ∧ ((((M (M 1 4) 1) ≤ x3) → P x2 M) ∧ ((¬ ((M (M 1 4) 1) ≤ x3)) → q_kI yX4_touches mX4_touches d [qR (M 1 4), qI x3, qI x1] M (fun v3 M2 => ((v3 = 0) → q_v mX11_gainOf d (qPI P) M2 4 [some (qR 1), some (qI x1), some (qI x2), some (qI (q_add x3 1))] []) ∧ ((¬ (v3 = 0)) → q_kI yX11_isCut mX11_isCut d [qR 1, qI x3] M2 (fun v5 M4 => ((v5 = 0) → (0 ≤ x3 ∧ x3 < (16 : Int)) ∧ (∀ x2_7 : Int, x2_7 = (q_add x2 (M4 90 x3)) → q_v mX11_gainOf d (qPI P) M4 4 [some (qR 1), some (qI x1), some (qI x2_7), some (qI (q_add x3 1))] [])) ∧ ((¬ (v5 = 0)) → (0 ≤ x3 ∧ x3 < (16 : Int)) ∧ (∀ x2_9 : Int, x2_9 = (q_add x2 (q_neg (M4 90 x3))) → q_v mX11_gainOf d (qPI P) M4 4 [some (qR 1), some (qI x1), some (qI x2_9), some (qI (q_add x3 1))] [])))))))) : q_v mX11_gainOf d (qPI P) M 4 [some (qR 1), some (qI x1), some (qI x2), some (qI x3)] [] := by
  refine qr_iload_n 4 5 rfl (x := x3) rfl dX11_gainOf_4 ?_
  refine qr_aload_n 5 6 rfl (x := 1) rfl dX11_gainOf_5 ?_
  refine qg_r 6 9 rfl ck11 4 (kk := 4) (by decide) (by decide +kernel) (by decide +kernel) rfl wm_381 rfl dX11_gainOf_6 ?_
  have hk1 := h.1
  have h := h.2
  refine qg_i 9 12 rfl ck4 1 (kk := 1) (by decide) hk1 (by decide +kernel) rfl wm_68 rfl dX11_gainOf_9 ?_
  refine qr_icmp_ge 12 15 60 rfl (by decide) dX11_gainOf_12 (fun c12 => ?_) (fun c12 => ?_)
  · have h := h.1 c12
    refine qr_iload_n 60 61 rfl (x := x2) rfl dX11_gainOf_60 ?_
    exact qe_i 61 rfl dX11_gainOf_61 h
  · have h := h.2 c12
    refine qr_aload_n 15 16 rfl (x := 1) rfl dX11_gainOf_15 ?_
    refine qg_r 16 19 rfl ck11 4 (kk := 4) (by decide) (by decide +kernel) (by decide +kernel) rfl wm_381 rfl dX11_gainOf_16 ?_
    refine qr_iload_n 19 20 rfl (x := x3) rfl dX11_gainOf_19 ?_
    refine qr_iload_n 20 21 rfl (x := x1) rfl dX11_gainOf_20 ?_
    refine qw_I 21 24 rfl (av := [qI x3, qI x1]) ca_X4_touches wm_652 wm_653 wm_984 ck4 hk1 rfl rfl (Nat.le_of_ble_eq_true rfl) dX11_gainOf_21 h (fun v3 M2 h => ?_)
    refine qr_if_eq 24 27 54 rfl (by decide) dX11_gainOf_24 (fun c24 => ?_) (fun c24 => ?_)
    · have h := h.1 c24
      refine qr_iinc 54 57 rfl (by decide) (x := x3) rfl rfl rfl dX11_gainOf_54 ?_
      refine qr_goto 57 4 (by decide) dX11_gainOf_57 ?_
      exact h
    · have h := h.2 c24
      refine qr_iload_n 27 28 rfl (x := x2) rfl dX11_gainOf_27 ?_
      refine qr_aload_n 28 29 rfl (x := 1) rfl dX11_gainOf_28 ?_
      refine qr_iload_n 29 30 rfl (x := x3) rfl dX11_gainOf_29 ?_
      refine qw_I 30 33 rfl (av := [qI x3]) ca_X11_isCut wm_939 wp_48 wm_937 ck11 (by decide +kernel) rfl rfl (Nat.le_of_ble_eq_true rfl) dX11_gainOf_30 h (fun v5 M4 h => ?_)
      refine qr_if_eq 33 36 46 rfl (by decide) dX11_gainOf_33 (fun c33 => ?_) (fun c33 => ?_)
      · have h := h.1 c33
        refine qr_aload_n 46 47 rfl (x := 1) rfl dX11_gainOf_46 ?_
        refine qr_getF 47 50 rfl ck11 12 (by decide) (b := 90) (by decide +kernel) rfl (by decide +kernel) (by decide +kernel) wm_389 rfl dX11_gainOf_47 ?_
        refine qr_iload_n 50 51 rfl (x := x3) rfl dX11_gainOf_50 ?_
        have hb6 := h.1
        have h := h.2
        refine qi_ld 51 52 rfl (N := 16) (by decide +kernel) (by decide +kernel) hb6.1 hb6.2 dX11_gainOf_51 ?_
        refine qr_iadd 52 53 rfl dX11_gainOf_52 ?_
        refine qn_i 53 (fun x2_7 e_x2_7 => ?_)
        have h := h x2_7 e_x2_7
        refine qr_istore_n 53 54 rfl (by decide) rfl rfl dX11_gainOf_53 ?_
        refine qr_iinc 54 57 rfl (by decide) (x := x3) rfl rfl rfl dX11_gainOf_54 ?_
        refine qr_goto 57 4 (by decide) dX11_gainOf_57 ?_
        exact h
      · have h := h.2 c33
        refine qr_aload_n 36 37 rfl (x := 1) rfl dX11_gainOf_36 ?_
        refine qr_getF 37 40 rfl ck11 12 (by decide) (b := 90) (by decide +kernel) rfl (by decide +kernel) (by decide +kernel) wm_389 rfl dX11_gainOf_37 ?_
        refine qr_iload_n 40 41 rfl (x := x3) rfl dX11_gainOf_40 ?_
        have hb8 := h.1
        have h := h.2
        refine qi_ld 41 42 rfl (N := 16) (by decide +kernel) (by decide +kernel) hb8.1 hb8.2 dX11_gainOf_41 ?_
        refine qr_ineg 42 43 rfl dX11_gainOf_42 ?_
        refine qr_goto 43 52 (by decide) dX11_gainOf_43 ?_
        refine qr_iadd 52 53 rfl dX11_gainOf_52 ?_
        refine qn_i 53 (fun x2_9 e_x2_9 => ?_)
        have h := h x2_9 e_x2_9
        refine qr_istore_n 53 54 rfl (by decide) rfl rfl dX11_gainOf_53 ?_
        refine qr_iinc 54 57 rfl (by decide) (x := x3) rfl rfl rfl dX11_gainOf_54 ?_
        refine qr_goto 57 4 (by decide) dX11_gainOf_57 ?_
        exact h
theorem dX11_all_0 : decode cX11_all 0 = .ok (.iload_n 1, 1) := by decide +kernel
theorem dX11_all_1 : decode cX11_all 1 = .ok (.ifCond .lt 8, 3) := by decide +kernel
theorem dX11_all_4 : decode cX11_all 4 = .ok (.iload_n 1, 1) := by decide +kernel
theorem dX11_all_5 : decode cX11_all 5 = .ok (.iconst 1, 1) := by decide +kernel
theorem dX11_all_6 : decode cX11_all 6 = .ok (.if_icmp .le 6, 3) := by decide +kernel
theorem dX11_all_9 : decode cX11_all 9 = .ok (.ldc 152, 2) := by decide +kernel
theorem dX11_all_11 : decode cX11_all 11 = .ok (.ireturn, 1) := by decide +kernel
theorem dX11_all_12 : decode cX11_all 12 = .ok (.aload_n 0, 1) := by decide +kernel
theorem dX11_all_13 : decode cX11_all 13 = .ok (.bipush 6, 2) := by decide +kernel
theorem dX11_all_15 : decode cX11_all 15 = .ok (.invokevirtual 153, 3) := by decide +kernel
theorem dX11_all_18 : decode cX11_all 18 = .ok (.iload_n 1, 1) := by decide +kernel
theorem dX11_all_19 : decode cX11_all 19 = .ok (.ifCond .ne 13, 3) := by decide +kernel
theorem dX11_all_22 : decode cX11_all 22 = .ok (.aload_n 0, 1) := by decide +kernel
theorem dX11_all_23 : decode cX11_all 23 = .ok (.getfield 84, 3) := by decide +kernel
theorem dX11_all_26 : decode cX11_all 26 = .ok (.getfield 371, 3) := by decide +kernel
theorem dX11_all_29 : decode cX11_all 29 = .ok (.goto 10, 3) := by decide +kernel
theorem dX11_all_32 : decode cX11_all 32 = .ok (.aload_n 0, 1) := by decide +kernel
theorem dX11_all_33 : decode cX11_all 33 = .ok (.getfield 84, 3) := by decide +kernel
theorem dX11_all_36 : decode cX11_all 36 = .ok (.getfield 374, 3) := by decide +kernel
theorem dX11_all_39 : decode cX11_all 39 = .ok (.ireturn, 1) := by decide +kernel
theorem bX11_all_0 {d : Nat} {P : Int → q_Mem → Prop} {M : q_Mem} (x1 : Int) (h : ((x1 < 0) → P (-99000002) M) ∧ ((¬ (x1 < 0)) → ((x1 ≤ (1 : Int)) → q_kU yX11_need mX11_need d [qR 1, qI 6] M (fun M1 => ((¬ x1 = 0) → P (M1 117 1) M1) ∧ ((x1 = 0) → P (M1 117 0) M1))) ∧ ((¬ (x1 ≤ (1 : Int))) → P (-99000002) M))) : q_v mX11_all d (qPI P) M 0 [some (qR 1), some (qI x1)] [] := by
  refine qr_iload_n 0 1 rfl (x := x1) rfl dX11_all_0 ?_
  refine qr_if_lt 1 4 9 rfl (by decide) dX11_all_1 (fun c1 => ?_) (fun c1 => ?_)
  · have h := h.1 c1
    refine qr_ldc 9 11 rfl (v := (-99000002)) (q_l32 _ rfl) wm_788 dX11_all_9 ?_
    exact qe_i 11 rfl dX11_all_11 h
  · have h := h.2 c1
    refine qr_iload_n 4 5 rfl (x := x1) rfl dX11_all_4 ?_
    refine qr_iconst 5 6 rfl (q_l32 _ rfl) dX11_all_5 ?_
    refine qr_icmp_le 6 9 12 rfl (by decide) dX11_all_6 (fun c6 => ?_) (fun c6 => ?_)
    · have h := h.1 c6
      refine qr_aload_n 12 13 rfl (x := 1) rfl dX11_all_12 ?_
      refine qr_bipush 13 15 rfl (q_l32 _ rfl) (by decide) dX11_all_13 ?_
      refine qw_U 15 18 rfl (av := [qI 6]) ca_X11_need wm_791 wp_35 wm_789 ck11 (by decide +kernel) rfl rfl (Nat.le_of_ble_eq_true rfl) dX11_all_15 h (fun M1 h => ?_)
      refine qr_iload_n 18 19 rfl (x := x1) rfl dX11_all_18 ?_
      refine qr_if_ne 19 22 32 rfl (by decide) dX11_all_19 (fun c19 => ?_) (fun c19 => ?_)
      · have h := h.1 c19
        refine qr_aload_n 32 33 rfl (x := 1) rfl dX11_all_32 ?_
        refine qr_getF 33 36 rfl ck11 17 (by decide) (b := 117) (by decide +kernel) rfl (by decide +kernel) (by decide +kernel) wm_394 rfl dX11_all_33 ?_
        refine qg_i 36 39 rfl ck8 1 (kk := 1) (by decide) (by decide +kernel) (by decide +kernel) rfl wm_282 rfl dX11_all_36 ?_
        exact qe_i 39 rfl dX11_all_39 h
      · have h := h.2 c19
        refine qr_aload_n 22 23 rfl (x := 1) rfl dX11_all_22 ?_
        refine qr_getF 23 26 rfl ck11 17 (by decide) (b := 117) (by decide +kernel) rfl (by decide +kernel) (by decide +kernel) wm_394 rfl dX11_all_23 ?_
        refine qg_i 26 29 rfl ck8 0 (kk := 0) (by decide) (by decide +kernel) (by decide +kernel) rfl wm_280 rfl dX11_all_26 ?_
        refine qr_goto 29 39 (by decide) dX11_all_29 ?_
        exact qe_i 39 rfl dX11_all_39 h
    · have h := h.2 c6
      refine qr_ldc 9 11 rfl (v := (-99000002)) (q_l32 _ rfl) wm_788 dX11_all_9 ?_
      exact qe_i 11 rfl dX11_all_11 h
theorem dX11_best_0 : decode cX11_best 0 = .ok (.aload_n 0, 1) := by decide +kernel
theorem dX11_best_1 : decode cX11_best 1 = .ok (.bipush 6, 2) := by decide +kernel
theorem dX11_best_3 : decode cX11_best 3 = .ok (.invokevirtual 153, 3) := by decide +kernel
theorem dX11_best_6 : decode cX11_best 6 = .ok (.aload_n 0, 1) := by decide +kernel
theorem dX11_best_7 : decode cX11_best 7 = .ok (.getfield 84, 3) := by decide +kernel
theorem dX11_best_10 : decode cX11_best 10 = .ok (.invokevirtual 377, 3) := by decide +kernel
theorem dX11_best_13 : decode cX11_best 13 = .ok (.ireturn, 1) := by decide +kernel
theorem bX11_best_0 {d : Nat} {P : Int → q_Mem → Prop} {M : q_Mem} (h : q_kU yX11_need mX11_need d [qR 1, qI 6] M (fun M1 => q_kI yX8_bestSets mX8_bestSets d [qR 117] M1 (fun v3 M2 => P v3 M2))) : q_v mX11_best d (qPI P) M 0 [some (qR 1)] [] := by
  refine qr_aload_n 0 1 rfl (x := 1) rfl dX11_best_0 ?_
  refine qr_bipush 1 3 rfl (q_l32 _ rfl) (by decide) dX11_best_1 ?_
  refine qw_U 3 6 rfl (av := [qI 6]) ca_X11_need wm_791 wp_35 wm_789 ck11 (by decide +kernel) rfl rfl (Nat.le_of_ble_eq_true rfl) dX11_best_3 h (fun M1 h => ?_)
  refine qr_aload_n 6 7 rfl (x := 1) rfl dX11_best_6 ?_
  refine qr_getF 7 10 rfl ck11 17 (by decide) (b := 117) (by decide +kernel) rfl (by decide +kernel) (by decide +kernel) wm_394 rfl dX11_best_7 ?_
  refine qw_I 10 13 rfl (av := []) ca_X8_bestSets wm_1156 wm_1157 wm_1155 ck8 (by decide +kernel) rfl rfl (Nat.le_of_ble_eq_true rfl) dX11_best_10 h (fun v3 M2 h => ?_)
  exact qe_i 13 rfl dX11_best_13 h
theorem dX11_stuck_0 : decode cX11_stuck 0 = .ok (.aload_n 0, 1) := by decide +kernel
theorem dX11_stuck_1 : decode cX11_stuck 1 = .ok (.bipush 6, 2) := by decide +kernel
theorem dX11_stuck_3 : decode cX11_stuck 3 = .ok (.invokevirtual 153, 3) := by decide +kernel
theorem dX11_stuck_6 : decode cX11_stuck 6 = .ok (.aload_n 0, 1) := by decide +kernel
theorem dX11_stuck_7 : decode cX11_stuck 7 = .ok (.getfield 84, 3) := by decide +kernel
theorem dX11_stuck_10 : decode cX11_stuck 10 = .ok (.invokevirtual 380, 3) := by decide +kernel
theorem dX11_stuck_13 : decode cX11_stuck 13 = .ok (.ireturn, 1) := by decide +kernel
theorem bX11_stuck_0 {d : Nat} {P : Int → q_Mem → Prop} {M : q_Mem} (h : q_kU yX11_need mX11_need d [qR 1, qI 6] M (fun M1 => q_kI yX8_stuckSets mX8_stuckSets d [qR 117] M1 (fun v3 M2 => P v3 M2))) : q_v mX11_stuck d (qPI P) M 0 [some (qR 1)] [] := by
  refine qr_aload_n 0 1 rfl (x := 1) rfl dX11_stuck_0 ?_
  refine qr_bipush 1 3 rfl (q_l32 _ rfl) (by decide) dX11_stuck_1 ?_
  refine qw_U 3 6 rfl (av := [qI 6]) ca_X11_need wm_791 wp_35 wm_789 ck11 (by decide +kernel) rfl rfl (Nat.le_of_ble_eq_true rfl) dX11_stuck_3 h (fun M1 h => ?_)
  refine qr_aload_n 6 7 rfl (x := 1) rfl dX11_stuck_6 ?_
  refine qr_getF 7 10 rfl ck11 17 (by decide) (b := 117) (by decide +kernel) rfl (by decide +kernel) (by decide +kernel) wm_394 rfl dX11_stuck_7 ?_
  refine qw_I 10 13 rfl (av := []) ca_X8_stuckSets wm_1164 wm_1165 wm_1163 ck8 (by decide +kernel) rfl rfl (Nat.le_of_ble_eq_true rfl) dX11_stuck_10 h (fun v3 M2 h => ?_)
  exact qe_i 13 rfl dX11_stuck_13 h
theorem dX11_steps_0 : decode cX11_steps 0 = .ok (.aload_n 0, 1) := by decide +kernel
theorem dX11_steps_1 : decode cX11_steps 1 = .ok (.bipush 6, 2) := by decide +kernel
theorem dX11_steps_3 : decode cX11_steps 3 = .ok (.invokevirtual 153, 3) := by decide +kernel
theorem dX11_steps_6 : decode cX11_steps 6 = .ok (.aload_n 0, 1) := by decide +kernel
theorem dX11_steps_7 : decode cX11_steps 7 = .ok (.getfield 84, 3) := by decide +kernel
theorem dX11_steps_10 : decode cX11_steps 10 = .ok (.aload_n 0, 1) := by decide +kernel
theorem dX11_steps_11 : decode cX11_steps 11 = .ok (.getfield 37, 3) := by decide +kernel
theorem dX11_steps_14 : decode cX11_steps 14 = .ok (.getfield 189, 3) := by decide +kernel
theorem dX11_steps_17 : decode cX11_steps 17 = .ok (.invokevirtual 383, 3) := by decide +kernel
theorem dX11_steps_20 : decode cX11_steps 20 = .ok (.ireturn, 1) := by decide +kernel
theorem bX11_steps_0 {d : Nat} {P : Int → q_Mem → Prop} {M : q_Mem} (h : q_kU yX11_need mX11_need d [qR 1, qI 6] M (fun M1 => q_kI yX8_fewestFlips mX8_fewestFlips d [qR 117, qI (M1 50 1)] M1 (fun v3 M2 => P v3 M2))) : q_v mX11_steps d (qPI P) M 0 [some (qR 1)] [] := by
  refine qr_aload_n 0 1 rfl (x := 1) rfl dX11_steps_0 ?_
  refine qr_bipush 1 3 rfl (q_l32 _ rfl) (by decide) dX11_steps_1 ?_
  refine qw_U 3 6 rfl (av := [qI 6]) ca_X11_need wm_791 wp_35 wm_789 ck11 (by decide +kernel) rfl rfl (Nat.le_of_ble_eq_true rfl) dX11_steps_3 h (fun M1 h => ?_)
  refine qr_aload_n 6 7 rfl (x := 1) rfl dX11_steps_6 ?_
  refine qr_getF 7 10 rfl ck11 17 (by decide) (b := 117) (by decide +kernel) rfl (by decide +kernel) (by decide +kernel) wm_394 rfl dX11_steps_7 ?_
  refine qr_aload_n 10 11 rfl (x := 1) rfl dX11_steps_10 ?_
  refine qr_getF 11 14 rfl ck11 7 (by decide) (b := 50) (by decide +kernel) rfl (by decide +kernel) (by decide +kernel) wm_384 rfl dX11_steps_11 ?_
  refine qg_i 14 17 rfl ck7 1 (kk := 1) (by decide) (by decide +kernel) (by decide +kernel) rfl wm_170 rfl dX11_steps_14 ?_
  refine qw_I 17 20 rfl (av := [qI (M1 50 1)]) ca_X8_fewestFlips wm_1176 wm_1177 wm_1175 ck8 (by decide +kernel) rfl rfl (Nat.le_of_ble_eq_true rfl) dX11_steps_17 h (fun v3 M2 h => ?_)
  exact qe_i 20 rfl dX11_steps_20 h
theorem dX11_climb_0 : decode cX11_climb 0 = .ok (.aload_n 0, 1) := by decide +kernel
theorem dX11_climb_1 : decode cX11_climb 1 = .ok (.bipush 6, 2) := by decide +kernel
theorem dX11_climb_3 : decode cX11_climb 3 = .ok (.invokevirtual 153, 3) := by decide +kernel
theorem dX11_climb_6 : decode cX11_climb 6 = .ok (.aload_n 0, 1) := by decide +kernel
theorem dX11_climb_7 : decode cX11_climb 7 = .ok (.getfield 84, 3) := by decide +kernel
theorem dX11_climb_10 : decode cX11_climb 10 = .ok (.aload_n 0, 1) := by decide +kernel
theorem dX11_climb_11 : decode cX11_climb 11 = .ok (.getfield 37, 3) := by decide +kernel
theorem dX11_climb_14 : decode cX11_climb 14 = .ok (.getfield 189, 3) := by decide +kernel
theorem dX11_climb_17 : decode cX11_climb 17 = .ok (.invokevirtual 386, 3) := by decide +kernel
theorem dX11_climb_20 : decode cX11_climb 20 = .ok (.ireturn, 1) := by decide +kernel
theorem bX11_climb_0 {d : Nat} {P : Int → q_Mem → Prop} {M : q_Mem} (h : q_kU yX11_need mX11_need d [qR 1, qI 6] M (fun M1 => q_kI yX8_fewestWithoutLoss mX8_fewestWithoutLoss d [qR 117, qI (M1 50 1)] M1 (fun v3 M2 => P v3 M2))) : q_v mX11_climb d (qPI P) M 0 [some (qR 1)] [] := by
  refine qr_aload_n 0 1 rfl (x := 1) rfl dX11_climb_0 ?_
  refine qr_bipush 1 3 rfl (q_l32 _ rfl) (by decide) dX11_climb_1 ?_
  refine qw_U 3 6 rfl (av := [qI 6]) ca_X11_need wm_791 wp_35 wm_789 ck11 (by decide +kernel) rfl rfl (Nat.le_of_ble_eq_true rfl) dX11_climb_3 h (fun M1 h => ?_)
  refine qr_aload_n 6 7 rfl (x := 1) rfl dX11_climb_6 ?_
  refine qr_getF 7 10 rfl ck11 17 (by decide) (b := 117) (by decide +kernel) rfl (by decide +kernel) (by decide +kernel) wm_394 rfl dX11_climb_7 ?_
  refine qr_aload_n 10 11 rfl (x := 1) rfl dX11_climb_10 ?_
  refine qr_getF 11 14 rfl ck11 7 (by decide) (b := 50) (by decide +kernel) rfl (by decide +kernel) (by decide +kernel) wm_384 rfl dX11_climb_11 ?_
  refine qg_i 14 17 rfl ck7 1 (kk := 1) (by decide) (by decide +kernel) (by decide +kernel) rfl wm_170 rfl dX11_climb_14 ?_
  refine qw_I 17 20 rfl (av := [qI (M1 50 1)]) ca_X8_fewestWithoutLoss wm_1185 wm_1186 wm_1184 ck8 (by decide +kernel) rfl rfl (Nat.le_of_ble_eq_true rfl) dX11_climb_17 h (fun v3 M2 h => ?_)
  exact qe_i 20 rfl dX11_climb_20 h
theorem dX11_longest_0 : decode cX11_longest 0 = .ok (.aload_n 0, 1) := by decide +kernel
theorem dX11_longest_1 : decode cX11_longest 1 = .ok (.bipush 6, 2) := by decide +kernel
theorem dX11_longest_3 : decode cX11_longest 3 = .ok (.invokevirtual 153, 3) := by decide +kernel
theorem dX11_longest_6 : decode cX11_longest 6 = .ok (.aload_n 0, 1) := by decide +kernel
theorem dX11_longest_7 : decode cX11_longest 7 = .ok (.getfield 84, 3) := by decide +kernel
theorem dX11_longest_10 : decode cX11_longest 10 = .ok (.aload_n 0, 1) := by decide +kernel
theorem dX11_longest_11 : decode cX11_longest 11 = .ok (.getfield 37, 3) := by decide +kernel
theorem dX11_longest_14 : decode cX11_longest 14 = .ok (.getfield 189, 3) := by decide +kernel
theorem dX11_longest_17 : decode cX11_longest 17 = .ok (.invokevirtual 389, 3) := by decide +kernel
theorem dX11_longest_20 : decode cX11_longest 20 = .ok (.ireturn, 1) := by decide +kernel
theorem bX11_longest_0 {d : Nat} {P : Int → q_Mem → Prop} {M : q_Mem} (h : q_kU yX11_need mX11_need d [qR 1, qI 6] M (fun M1 => q_kI yX8_longestRise mX8_longestRise d [qR 117, qI (M1 50 1)] M1 (fun v3 M2 => P v3 M2))) : q_v mX11_longest d (qPI P) M 0 [some (qR 1)] [] := by
  refine qr_aload_n 0 1 rfl (x := 1) rfl dX11_longest_0 ?_
  refine qr_bipush 1 3 rfl (q_l32 _ rfl) (by decide) dX11_longest_1 ?_
  refine qw_U 3 6 rfl (av := [qI 6]) ca_X11_need wm_791 wp_35 wm_789 ck11 (by decide +kernel) rfl rfl (Nat.le_of_ble_eq_true rfl) dX11_longest_3 h (fun M1 h => ?_)
  refine qr_aload_n 6 7 rfl (x := 1) rfl dX11_longest_6 ?_
  refine qr_getF 7 10 rfl ck11 17 (by decide) (b := 117) (by decide +kernel) rfl (by decide +kernel) (by decide +kernel) wm_394 rfl dX11_longest_7 ?_
  refine qr_aload_n 10 11 rfl (x := 1) rfl dX11_longest_10 ?_
  refine qr_getF 11 14 rfl ck11 7 (by decide) (b := 50) (by decide +kernel) rfl (by decide +kernel) (by decide +kernel) wm_384 rfl dX11_longest_11 ?_
  refine qg_i 14 17 rfl ck7 1 (kk := 1) (by decide) (by decide +kernel) (by decide +kernel) rfl wm_170 rfl dX11_longest_14 ?_
  refine qw_I 17 20 rfl (av := [qI (M1 50 1)]) ca_X8_longestRise wm_1194 wm_1195 wm_1193 ck8 (by decide +kernel) rfl rfl (Nat.le_of_ble_eq_true rfl) dX11_longest_17 h (fun v3 M2 h => ?_)
  exact qe_i 20 rfl dX11_longest_20 h
theorem dX11_warms_0 : decode cX11_warms 0 = .ok (.aload_n 0, 1) := by decide +kernel
theorem dX11_warms_1 : decode cX11_warms 1 = .ok (.iload_n 1, 1) := by decide +kernel
theorem dX11_warms_2 : decode cX11_warms 2 = .ok (.invokevirtual 392, 3) := by decide +kernel
theorem dX11_warms_5 : decode cX11_warms 5 = .ok (.istore_n 2, 1) := by decide +kernel
theorem dX11_warms_6 : decode cX11_warms 6 = .ok (.iload_n 2, 1) := by decide +kernel
theorem dX11_warms_7 : decode cX11_warms 7 = .ok (.ifCond .eq 7, 3) := by decide +kernel
theorem dX11_warms_10 : decode cX11_warms 10 = .ok (.iload_n 2, 1) := by decide +kernel
theorem dX11_warms_11 : decode cX11_warms 11 = .ok (.goto 13, 3) := by decide +kernel
theorem dX11_warms_14 : decode cX11_warms 14 = .ok (.aload_n 0, 1) := by decide +kernel
theorem dX11_warms_15 : decode cX11_warms 15 = .ok (.aload_n 0, 1) := by decide +kernel
theorem dX11_warms_16 : decode cX11_warms 16 = .ok (.getfield 59, 3) := by decide +kernel
theorem dX11_warms_19 : decode cX11_warms 19 = .ok (.iload_n 1, 1) := by decide +kernel
theorem dX11_warms_20 : decode cX11_warms 20 = .ok (.aaload, 1) := by decide +kernel
theorem dX11_warms_21 : decode cX11_warms 21 = .ok (.invokevirtual 395, 3) := by decide +kernel
theorem dX11_warms_24 : decode cX11_warms 24 = .ok (.ireturn, 1) := by decide +kernel
theorem bX11_warms_0 {d : Nat} {P : Int → q_Mem → Prop} {M : q_Mem} (x1 : Int) (h : q_kI yX11_refusedWeighed mX11_refusedWeighed d [qR 1, qI x1] M (fun v2 M1 => ((v2 = 0) → (0 ≤ x1 ∧ x1 < (4 : Int)) ∧ (q_kI yX11_warmthsBy mX11_warmthsBy d [qR 1, qR (q_lay 89 (Int.toNat x1))] M1 (fun v5 M4 => P v5 M4))) ∧ ((¬ (v2 = 0)) → P v2 M1))) : q_v mX11_warms d (qPI P) M 0 [some (qR 1), some (qI x1), none] [] := by
  refine qr_aload_n 0 1 rfl (x := 1) rfl dX11_warms_0 ?_
  refine qr_iload_n 1 2 rfl (x := x1) rfl dX11_warms_1 ?_
  refine qw_I 2 5 rfl (av := [qI x1]) ca_X11_refusedWeighed wm_1207 wp_68 wm_1205 ck11 (by decide +kernel) rfl rfl (Nat.le_of_ble_eq_true rfl) dX11_warms_2 h (fun v2 M1 h => ?_)
  refine qr_istore_n 5 6 rfl (by decide) rfl rfl dX11_warms_5 ?_
  refine qr_iload_n 6 7 rfl (x := v2) rfl dX11_warms_6 ?_
  refine qr_if_eq 7 10 14 rfl (by decide) dX11_warms_7 (fun c7 => ?_) (fun c7 => ?_)
  · have h := h.1 c7
    refine qr_aload_n 14 15 rfl (x := 1) rfl dX11_warms_14 ?_
    refine qr_aload_n 15 16 rfl (x := 1) rfl dX11_warms_15 ?_
    refine qr_getF 16 19 rfl ck11 11 (by decide) (b := 89) (by decide +kernel) rfl (by decide +kernel) (by decide +kernel) wm_388 rfl dX11_warms_16 ?_
    refine qr_iload_n 19 20 rfl (x := x1) rfl dX11_warms_19 ?_
    have hb3 := h.1
    have h := h.2
    refine qa_ld 20 21 rfl (N := 4) (by decide +kernel) (by decide +kernel) hb3.1 hb3.2 dX11_warms_20 ?_
    refine qw_I 21 24 rfl (av := [qR (q_lay 89 (Int.toNat x1))]) ca_X11_warmthsBy wm_1213 wp_69 wm_1211 ck11 (by decide +kernel) rfl rfl (Nat.le_of_ble_eq_true rfl) dX11_warms_21 h (fun v5 M4 h => ?_)
    exact qe_i 24 rfl dX11_warms_24 h
  · have h := h.2 c7
    refine qr_iload_n 10 11 rfl (x := v2) rfl dX11_warms_10 ?_
    refine qr_goto 11 24 (by decide) dX11_warms_11 ?_
    exact qe_i 24 rfl dX11_warms_24 h
theorem dX11_ask_0 : decode cX11_ask 0 = .ok (.aload_n 0, 1) := by decide +kernel
theorem dX11_ask_1 : decode cX11_ask 1 = .ok (.iload_n 1, 1) := by decide +kernel
theorem dX11_ask_2 : decode cX11_ask 2 = .ok (.invokevirtual 392, 3) := by decide +kernel
theorem dX11_ask_5 : decode cX11_ask 5 = .ok (.istore_n 2, 1) := by decide +kernel
theorem dX11_ask_6 : decode cX11_ask 6 = .ok (.iload_n 2, 1) := by decide +kernel
theorem dX11_ask_7 : decode cX11_ask 7 = .ok (.ifCond .eq 7, 3) := by decide +kernel
theorem dX11_ask_10 : decode cX11_ask 10 = .ok (.iload_n 2, 1) := by decide +kernel
theorem dX11_ask_11 : decode cX11_ask 11 = .ok (.goto 17, 3) := by decide +kernel
theorem dX11_ask_14 : decode cX11_ask 14 = .ok (.aload_n 0, 1) := by decide +kernel
theorem dX11_ask_15 : decode cX11_ask 15 = .ok (.aload_n 0, 1) := by decide +kernel
theorem dX11_ask_16 : decode cX11_ask 16 = .ok (.aload_n 0, 1) := by decide +kernel
theorem dX11_ask_17 : decode cX11_ask 17 = .ok (.getfield 59, 3) := by decide +kernel
theorem dX11_ask_20 : decode cX11_ask 20 = .ok (.iload_n 1, 1) := by decide +kernel
theorem dX11_ask_21 : decode cX11_ask 21 = .ok (.aaload, 1) := by decide +kernel
theorem dX11_ask_22 : decode cX11_ask 22 = .ok (.invokevirtual 395, 3) := by decide +kernel
theorem dX11_ask_25 : decode cX11_ask 25 = .ok (.invokevirtual 398, 3) := by decide +kernel
theorem dX11_ask_28 : decode cX11_ask 28 = .ok (.ireturn, 1) := by decide +kernel
theorem bX11_ask_0 {d : Nat} {P : Int → q_Mem → Prop} {M : q_Mem} (x1 : Int) (h : q_kI yX11_refusedWeighed mX11_refusedWeighed d [qR 1, qI x1] M (fun v2 M1 => ((v2 = 0) → (0 ≤ x1 ∧ x1 < (4 : Int)) ∧ (q_kI yX11_warmthsBy mX11_warmthsBy d [qR 1, qR (q_lay 89 (Int.toNat x1))] M1 (fun v5 M4 => q_kI yX11_linkToAsk mX11_linkToAsk d [qR 1, qI v5] M4 (fun v7 M6 => P v7 M6)))) ∧ ((¬ (v2 = 0)) → P v2 M1))) : q_v mX11_ask d (qPI P) M 0 [some (qR 1), some (qI x1), none] [] := by
  refine qr_aload_n 0 1 rfl (x := 1) rfl dX11_ask_0 ?_
  refine qr_iload_n 1 2 rfl (x := x1) rfl dX11_ask_1 ?_
  refine qw_I 2 5 rfl (av := [qI x1]) ca_X11_refusedWeighed wm_1207 wp_68 wm_1205 ck11 (by decide +kernel) rfl rfl (Nat.le_of_ble_eq_true rfl) dX11_ask_2 h (fun v2 M1 h => ?_)
  refine qr_istore_n 5 6 rfl (by decide) rfl rfl dX11_ask_5 ?_
  refine qr_iload_n 6 7 rfl (x := v2) rfl dX11_ask_6 ?_
  refine qr_if_eq 7 10 14 rfl (by decide) dX11_ask_7 (fun c7 => ?_) (fun c7 => ?_)
  · have h := h.1 c7
    refine qr_aload_n 14 15 rfl (x := 1) rfl dX11_ask_14 ?_
    refine qr_aload_n 15 16 rfl (x := 1) rfl dX11_ask_15 ?_
    refine qr_aload_n 16 17 rfl (x := 1) rfl dX11_ask_16 ?_
    refine qr_getF 17 20 rfl ck11 11 (by decide) (b := 89) (by decide +kernel) rfl (by decide +kernel) (by decide +kernel) wm_388 rfl dX11_ask_17 ?_
    refine qr_iload_n 20 21 rfl (x := x1) rfl dX11_ask_20 ?_
    have hb3 := h.1
    have h := h.2
    refine qa_ld 21 22 rfl (N := 4) (by decide +kernel) (by decide +kernel) hb3.1 hb3.2 dX11_ask_21 ?_
    refine qw_I 22 25 rfl (av := [qR (q_lay 89 (Int.toNat x1))]) ca_X11_warmthsBy wm_1213 wp_69 wm_1211 ck11 (by decide +kernel) rfl rfl (Nat.le_of_ble_eq_true rfl) dX11_ask_22 h (fun v5 M4 h => ?_)
    refine qw_I 25 28 rfl (av := [qI v5]) ca_X11_linkToAsk wm_1225 wp_71 wm_1223 ck11 (by decide +kernel) rfl rfl (Nat.le_of_ble_eq_true rfl) dX11_ask_25 h (fun v7 M6 h => ?_)
    exact qe_i 28 rfl dX11_ask_28 h
  · have h := h.2 c7
    refine qr_iload_n 10 11 rfl (x := v2) rfl dX11_ask_10 ?_
    refine qr_goto 11 28 (by decide) dX11_ask_11 ?_
    exact qe_i 28 rfl dX11_ask_28 h
theorem dX11_refusedWeighed_0 : decode cX11_refusedWeighed 0 = .ok (.iload_n 1, 1) := by decide +kernel
theorem dX11_refusedWeighed_1 : decode cX11_refusedWeighed 1 = .ok (.invokestatic 244, 3) := by decide +kernel
theorem dX11_refusedWeighed_4 : decode cX11_refusedWeighed 4 = .ok (.ifCond .ne 6, 3) := by decide +kernel
theorem dX11_refusedWeighed_7 : decode cX11_refusedWeighed 7 = .ok (.bipush (-2), 2) := by decide +kernel
theorem dX11_refusedWeighed_9 : decode cX11_refusedWeighed 9 = .ok (.ireturn, 1) := by decide +kernel
theorem dX11_refusedWeighed_10 : decode cX11_refusedWeighed 10 = .ok (.aload_n 0, 1) := by decide +kernel
theorem dX11_refusedWeighed_11 : decode cX11_refusedWeighed 11 = .ok (.getfield 59, 3) := by decide +kernel
theorem dX11_refusedWeighed_14 : decode cX11_refusedWeighed 14 = .ok (.iload_n 1, 1) := by decide +kernel
theorem dX11_refusedWeighed_15 : decode cX11_refusedWeighed 15 = .ok (.aaload, 1) := by decide +kernel
theorem dX11_refusedWeighed_16 : decode cX11_refusedWeighed 16 = .ok (.astore_n 2, 1) := by decide +kernel
theorem dX11_refusedWeighed_17 : decode cX11_refusedWeighed 17 = .ok (.aload_n 2, 1) := by decide +kernel
theorem dX11_refusedWeighed_18 : decode cX11_refusedWeighed 18 = .ok (.getfield 247, 3) := by decide +kernel
theorem dX11_refusedWeighed_21 : decode cX11_refusedWeighed 21 = .ok (.ifCond .ge 6, 3) := by decide +kernel
theorem dX11_refusedWeighed_24 : decode cX11_refusedWeighed 24 = .ok (.bipush (-6), 2) := by decide +kernel
theorem dX11_refusedWeighed_26 : decode cX11_refusedWeighed 26 = .ok (.ireturn, 1) := by decide +kernel
theorem dX11_refusedWeighed_27 : decode cX11_refusedWeighed 27 = .ok (.aload_n 2, 1) := by decide +kernel
theorem dX11_refusedWeighed_28 : decode cX11_refusedWeighed 28 = .ok (.getfield 247, 3) := by decide +kernel
theorem dX11_refusedWeighed_31 : decode cX11_refusedWeighed 31 = .ok (.iconst 1, 1) := by decide +kernel
theorem dX11_refusedWeighed_32 : decode cX11_refusedWeighed 32 = .ok (.if_icmp .lt 12, 3) := by decide +kernel
theorem dX11_refusedWeighed_35 : decode cX11_refusedWeighed 35 = .ok (.aload_n 2, 1) := by decide +kernel
theorem dX11_refusedWeighed_36 : decode cX11_refusedWeighed 36 = .ok (.getfield 247, 3) := by decide +kernel
theorem dX11_refusedWeighed_39 : decode cX11_refusedWeighed 39 = .ok (.bipush 8, 2) := by decide +kernel
theorem dX11_refusedWeighed_41 : decode cX11_refusedWeighed 41 = .ok (.if_icmp .le 6, 3) := by decide +kernel
theorem dX11_refusedWeighed_44 : decode cX11_refusedWeighed 44 = .ok (.bipush (-4), 2) := by decide +kernel
theorem dX11_refusedWeighed_46 : decode cX11_refusedWeighed 46 = .ok (.ireturn, 1) := by decide +kernel
theorem dX11_refusedWeighed_47 : decode cX11_refusedWeighed 47 = .ok (.iconst 0, 1) := by decide +kernel
theorem dX11_refusedWeighed_48 : decode cX11_refusedWeighed 48 = .ok (.istore_n 3, 1) := by decide +kernel
theorem dX11_refusedWeighed_49 : decode cX11_refusedWeighed 49 = .ok (.iload_n 3, 1) := by decide +kernel
theorem dX11_refusedWeighed_50 : decode cX11_refusedWeighed 50 = .ok (.aload_n 2, 1) := by decide +kernel
theorem dX11_refusedWeighed_51 : decode cX11_refusedWeighed 51 = .ok (.getfield 247, 3) := by decide +kernel
theorem dX11_refusedWeighed_54 : decode cX11_refusedWeighed 54 = .ok (.if_icmp .ge 69, 3) := by decide +kernel
theorem dX11_refusedWeighed_57 : decode cX11_refusedWeighed 57 = .ok (.aload_n 2, 1) := by decide +kernel
theorem dX11_refusedWeighed_58 : decode cX11_refusedWeighed 58 = .ok (.getfield 268, 3) := by decide +kernel
theorem dX11_refusedWeighed_61 : decode cX11_refusedWeighed 61 = .ok (.iload_n 3, 1) := by decide +kernel
theorem dX11_refusedWeighed_62 : decode cX11_refusedWeighed 62 = .ok (.laload, 1) := by decide +kernel
theorem dX11_refusedWeighed_63 : decode cX11_refusedWeighed 63 = .ok (.lstore 4, 2) := by decide +kernel
theorem dX11_refusedWeighed_65 : decode cX11_refusedWeighed 65 = .ok (.lload 4, 2) := by decide +kernel
theorem dX11_refusedWeighed_67 : decode cX11_refusedWeighed 67 = .ok (.lconst 0, 1) := by decide +kernel
theorem dX11_refusedWeighed_68 : decode cX11_refusedWeighed 68 = .ok (.lcmp, 1) := by decide +kernel
theorem dX11_refusedWeighed_69 : decode cX11_refusedWeighed 69 = .ok (.ifCond .lt 45, 3) := by decide +kernel
theorem dX11_refusedWeighed_72 : decode cX11_refusedWeighed 72 = .ok (.lload 4, 2) := by decide +kernel
theorem dX11_refusedWeighed_74 : decode cX11_refusedWeighed 74 = .ok (.ldc2_w 401, 3) := by decide +kernel
theorem dX11_refusedWeighed_77 : decode cX11_refusedWeighed 77 = .ok (.aload_n 0, 1) := by decide +kernel
theorem dX11_refusedWeighed_78 : decode cX11_refusedWeighed 78 = .ok (.getfield 20, 3) := by decide +kernel
theorem dX11_refusedWeighed_81 : decode cX11_refusedWeighed 81 = .ok (.getfield 165, 3) := by decide +kernel
theorem dX11_refusedWeighed_84 : decode cX11_refusedWeighed 84 = .ok (.i2l, 1) := by decide +kernel
theorem dX11_refusedWeighed_85 : decode cX11_refusedWeighed 85 = .ok (.lmul, 1) := by decide +kernel
theorem dX11_refusedWeighed_86 : decode cX11_refusedWeighed 86 = .ok (.lcmp, 1) := by decide +kernel
theorem dX11_refusedWeighed_87 : decode cX11_refusedWeighed 87 = .ok (.ifCond .ge 27, 3) := by decide +kernel
theorem dX11_refusedWeighed_90 : decode cX11_refusedWeighed 90 = .ok (.lload 4, 2) := by decide +kernel
theorem dX11_refusedWeighed_92 : decode cX11_refusedWeighed 92 = .ok (.ldc2_w 401, 3) := by decide +kernel
theorem dX11_refusedWeighed_95 : decode cX11_refusedWeighed 95 = .ok (.lrem, 1) := by decide +kernel
theorem dX11_refusedWeighed_96 : decode cX11_refusedWeighed 96 = .ok (.lconst 1, 1) := by decide +kernel
theorem dX11_refusedWeighed_97 : decode cX11_refusedWeighed 97 = .ok (.lcmp, 1) := by decide +kernel
theorem dX11_refusedWeighed_98 : decode cX11_refusedWeighed 98 = .ok (.ifCond .lt 16, 3) := by decide +kernel
theorem dX11_refusedWeighed_101 : decode cX11_refusedWeighed 101 = .ok (.lload 4, 2) := by decide +kernel
theorem dX11_refusedWeighed_103 : decode cX11_refusedWeighed 103 = .ok (.ldc2_w 401, 3) := by decide +kernel
theorem dX11_refusedWeighed_106 : decode cX11_refusedWeighed 106 = .ok (.lrem, 1) := by decide +kernel
theorem dX11_refusedWeighed_107 : decode cX11_refusedWeighed 107 = .ok (.ldc2_w 403, 3) := by decide +kernel
theorem dX11_refusedWeighed_110 : decode cX11_refusedWeighed 110 = .ok (.lcmp, 1) := by decide +kernel
theorem dX11_refusedWeighed_111 : decode cX11_refusedWeighed 111 = .ok (.ifCond .le 6, 3) := by decide +kernel
theorem dX11_refusedWeighed_114 : decode cX11_refusedWeighed 114 = .ok (.bipush (-3), 2) := by decide +kernel
theorem dX11_refusedWeighed_116 : decode cX11_refusedWeighed 116 = .ok (.ireturn, 1) := by decide +kernel
theorem dX11_refusedWeighed_117 : decode cX11_refusedWeighed 117 = .ok (.iinc 3 1, 3) := by decide +kernel
theorem dX11_refusedWeighed_120 : decode cX11_refusedWeighed 120 = .ok (.goto (-71), 3) := by decide +kernel
theorem dX11_refusedWeighed_123 : decode cX11_refusedWeighed 123 = .ok (.iconst 0, 1) := by decide +kernel
theorem dX11_refusedWeighed_124 : decode cX11_refusedWeighed 124 = .ok (.ireturn, 1) := by decide +kernel
theorem bX11_refusedWeighed_0 {d : Nat} {P : Int → q_Mem → Prop} {M : q_Mem} (x1 : Int) (h : q_kI yX11_hasTray mX11_hasTray d [qI x1] M (fun v2 M1 => ((¬ v2 = 0) → (0 ≤ x1 ∧ x1 < (4 : Int)) ∧ (∀ x2_4 : Int, x2_4 = (q_lay 89 (Int.toNat x1)) → q_kd x2_4 = 9 ∧ (((0 ≤ (M1 x2_4 0)) → (((M1 x2_4 0) < (1 : Int)) → P (-4) M1) ∧ ((¬ ((M1 x2_4 0) < (1 : Int))) → (((M1 x2_4 0) ≤ (8 : Int)) → q_v mX11_refusedWeighed d (qPI P) M1 49 [some (qR 1), none, some (qR x2_4), some (qI 0), none, none] []) ∧ ((¬ ((M1 x2_4 0) ≤ (8 : Int))) → P (-4) M1))) ∧ ((¬ (0 ≤ (M1 x2_4 0))) → P (-6) M1)))) ∧ ((v2 = 0) → P (-2) M1))) : q_v mX11_refusedWeighed d (qPI P) M 0 [some (qR 1), some (qI x1), none, none, none, none] [] := by
  refine qr_iload_n 0 1 rfl (x := x1) rfl dX11_refusedWeighed_0 ?_
  refine qs_I 1 4 rfl (av := [qI x1]) ca_X11_hasTray wm_1024 wm_1023 rfl rfl (Nat.le_of_ble_eq_true rfl) dX11_refusedWeighed_1 h (fun v2 M1 h => ?_)
  refine qr_if_ne 4 7 10 rfl (by decide) dX11_refusedWeighed_4 (fun c4 => ?_) (fun c4 => ?_)
  · have h := h.1 c4
    refine qr_aload_n 10 11 rfl (x := 1) rfl dX11_refusedWeighed_10 ?_
    refine qr_getF 11 14 rfl ck11 11 (by decide) (b := 89) (by decide +kernel) rfl (by decide +kernel) (by decide +kernel) wm_388 rfl dX11_refusedWeighed_11 ?_
    refine qr_iload_n 14 15 rfl (x := x1) rfl dX11_refusedWeighed_14 ?_
    have hb3 := h.1
    have h := h.2
    refine qa_ld 15 16 rfl (N := 4) (by decide +kernel) (by decide +kernel) hb3.1 hb3.2 dX11_refusedWeighed_15 ?_
    refine qn_r 16 (fun x2_4 e_x2_4 => ?_)
    have h := h x2_4 e_x2_4
    refine qr_astore_n 16 17 rfl (by decide) rfl rfl dX11_refusedWeighed_16 ?_
    refine qr_aload_n 17 18 rfl (x := x2_4) rfl dX11_refusedWeighed_17 ?_
    have hk5 := h.1
    have h := h.2
    refine qg_i 18 21 rfl ck9 0 (kk := 0) (by decide) hk5 (by decide +kernel) rfl wm_336 rfl dX11_refusedWeighed_18 ?_
    refine qr_if_ge 21 24 27 rfl (by decide) dX11_refusedWeighed_21 (fun c21 => ?_) (fun c21 => ?_)
    · have h := h.1 c21
      refine qr_aload_n 27 28 rfl (x := x2_4) rfl dX11_refusedWeighed_27 ?_
      refine qg_i 28 31 rfl ck9 0 (kk := 0) (by decide) hk5 (by decide +kernel) rfl wm_336 rfl dX11_refusedWeighed_28 ?_
      refine qr_iconst 31 32 rfl (q_l32 _ rfl) dX11_refusedWeighed_31 ?_
      refine qr_icmp_lt 32 35 44 rfl (by decide) dX11_refusedWeighed_32 (fun c32 => ?_) (fun c32 => ?_)
      · have h := h.1 c32
        refine qr_bipush 44 46 rfl (q_l32 _ rfl) (by decide) dX11_refusedWeighed_44 ?_
        exact qe_i 46 rfl dX11_refusedWeighed_46 h
      · have h := h.2 c32
        refine qr_aload_n 35 36 rfl (x := x2_4) rfl dX11_refusedWeighed_35 ?_
        refine qg_i 36 39 rfl ck9 0 (kk := 0) (by decide) hk5 (by decide +kernel) rfl wm_336 rfl dX11_refusedWeighed_36 ?_
        refine qr_bipush 39 41 rfl (q_l32 _ rfl) (by decide) dX11_refusedWeighed_39 ?_
        refine qr_icmp_le 41 44 47 rfl (by decide) dX11_refusedWeighed_41 (fun c41 => ?_) (fun c41 => ?_)
        · have h := h.1 c41
          refine qr_iconst 47 48 rfl (q_l32 _ rfl) dX11_refusedWeighed_47 ?_
          refine qr_istore_n 48 49 rfl (by decide) rfl rfl dX11_refusedWeighed_48 ?_
          exact qr_cut 49 (ls' := [some (qR 1), none, some (qR x2_4), some (qI 0), none, none]) (And.intro rfl (And.intro rfl (And.intro rfl trivial))) h
        · have h := h.2 c41
          refine qr_bipush 44 46 rfl (q_l32 _ rfl) (by decide) dX11_refusedWeighed_44 ?_
          exact qe_i 46 rfl dX11_refusedWeighed_46 h
    · have h := h.2 c21
      refine qr_bipush 24 26 rfl (q_l32 _ rfl) (by decide) dX11_refusedWeighed_24 ?_
      exact qe_i 26 rfl dX11_refusedWeighed_26 h
  · have h := h.2 c4
    refine qr_bipush 7 9 rfl (q_l32 _ rfl) (by decide) dX11_refusedWeighed_7 ?_
    exact qe_i 9 rfl dX11_refusedWeighed_9 h
theorem bX11_refusedWeighed_49 {d : Nat} {P : Int → q_Mem → Prop} {M : q_Mem} (x2 x3 : Int) (k2 : q_kd x2 = 9) (h : (((M x2 0) ≤ x3) → P 0 M) ∧ ((¬ ((M x2 0) ≤ x3)) → (0 ≤ x3 ∧ x3 < (40 : Int)) ∧ (∀ x4_2 : Int, x4_2 = (M (q_lay x2 2) x3) → (((q_lcmp x4_2 0) < 0) → P (-3) M) ∧ ((¬ ((q_lcmp x4_2 0) < 0)) → q_kd (M 1 4) = 4 ∧ (((0 ≤ (q_lcmp x4_2 (q_lmul 1000 (M (M 1 4) 1)))) → P (-3) M) ∧ ((¬ (0 ≤ (q_lcmp x4_2 (q_lmul 1000 (M (M 1 4) 1))))) → (((q_lcmp (q_lrem x4_2 1000) 1) < 0) → P (-3) M) ∧ ((¬ ((q_lcmp (q_lrem x4_2 1000) 1) < 0)) → (((q_lcmp (q_lrem x4_2 1000) 199) ≤ 0) → q_v mX11_refusedWeighed d (qPI P) M 49 [some (qR 1), none, some (qR x2), some (qI (q_add x3 1)), none, none] []) ∧ ((¬ ((q_lcmp (q_lrem x4_2 1000) 199) ≤ 0)) → P (-3) M)))))))) : q_v mX11_refusedWeighed d (qPI P) M 49 [some (qR 1), none, some (qR x2), some (qI x3), none, none] [] := by
  refine qr_iload_n 49 50 rfl (x := x3) rfl dX11_refusedWeighed_49 ?_
  refine qr_aload_n 50 51 rfl (x := x2) rfl dX11_refusedWeighed_50 ?_
  refine qg_i 51 54 rfl ck9 0 (kk := 0) (by decide) k2 (by decide +kernel) rfl wm_336 rfl dX11_refusedWeighed_51 ?_
  refine qr_icmp_ge 54 57 123 rfl (by decide) dX11_refusedWeighed_54 (fun c54 => ?_) (fun c54 => ?_)
  · have h := h.1 c54
    refine qr_iconst 123 124 rfl (q_l32 _ rfl) dX11_refusedWeighed_123 ?_
    exact qe_i 124 rfl dX11_refusedWeighed_124 h
  · have h := h.2 c54
    refine qr_aload_n 57 58 rfl (x := x2) rfl dX11_refusedWeighed_57 ?_
    refine qr_getF 58 61 rfl ck9 2 (by decide) (b := (q_lay x2 2)) k2 rfl (by decide +kernel) rfl wm_339 rfl dX11_refusedWeighed_58 ?_
    refine qr_iload_n 61 62 rfl (x := x3) rfl dX11_refusedWeighed_61 ?_
    have hb1 := h.1
    have h := h.2
    refine ql_ld 62 63 rfl (N := 40) (lk9_2 _ k2) (ll9_2 _ k2) hb1.1 hb1.2 dX11_refusedWeighed_62 ?_
    refine qn_l 63 (fun x4_2 e_x4_2 => ?_)
    have h := h x4_2 e_x4_2
    refine qr_lstore 63 65 rfl (by decide) rfl rfl dX11_refusedWeighed_63 ?_
    refine qr_lload 65 67 rfl (x := x4_2) rfl dX11_refusedWeighed_65 ?_
    refine qr_lconst 67 68 rfl (w := 0) (q_l64 _ rfl) (by decide) dX11_refusedWeighed_67 ?_
    refine qr_lcmp 68 69 rfl dX11_refusedWeighed_68 ?_
    refine qr_if_lt 69 72 114 rfl (by decide) dX11_refusedWeighed_69 (fun c69 => ?_) (fun c69 => ?_)
    · have h := h.1 c69
      refine qr_bipush 114 116 rfl (q_l32 _ rfl) (by decide) dX11_refusedWeighed_114 ?_
      exact qe_i 116 rfl dX11_refusedWeighed_116 h
    · have h := h.2 c69
      refine qr_lload 72 74 rfl (x := x4_2) rfl dX11_refusedWeighed_72 ?_
      refine qr_ldc2 74 77 rfl (v := 1000) (q_l64 _ rfl) wm_1209 dX11_refusedWeighed_74 ?_
      refine qr_aload_n 77 78 rfl (x := 1) rfl dX11_refusedWeighed_77 ?_
      refine qg_r 78 81 rfl ck11 4 (kk := 4) (by decide) (by decide +kernel) (by decide +kernel) rfl wm_381 rfl dX11_refusedWeighed_78 ?_
      have hk3 := h.1
      have h := h.2
      refine qg_i 81 84 rfl ck4 1 (kk := 1) (by decide) hk3 (by decide +kernel) rfl wm_68 rfl dX11_refusedWeighed_81 ?_
      refine qr_i2l 84 85 rfl dX11_refusedWeighed_84 ?_
      refine qr_lmul 85 86 rfl dX11_refusedWeighed_85 ?_
      refine qr_lcmp 86 87 rfl dX11_refusedWeighed_86 ?_
      refine qr_if_ge 87 90 114 rfl (by decide) dX11_refusedWeighed_87 (fun c87 => ?_) (fun c87 => ?_)
      · have h := h.1 c87
        refine qr_bipush 114 116 rfl (q_l32 _ rfl) (by decide) dX11_refusedWeighed_114 ?_
        exact qe_i 116 rfl dX11_refusedWeighed_116 h
      · have h := h.2 c87
        refine qr_lload 90 92 rfl (x := x4_2) rfl dX11_refusedWeighed_90 ?_
        refine qr_ldc2 92 95 rfl (v := 1000) (q_l64 _ rfl) wm_1209 dX11_refusedWeighed_92 ?_
        refine qr_lrem 95 96 rfl (by decide) dX11_refusedWeighed_95 ?_
        refine qr_lconst 96 97 rfl (w := 1) (q_l64 _ rfl) (by decide) dX11_refusedWeighed_96 ?_
        refine qr_lcmp 97 98 rfl dX11_refusedWeighed_97 ?_
        refine qr_if_lt 98 101 114 rfl (by decide) dX11_refusedWeighed_98 (fun c98 => ?_) (fun c98 => ?_)
        · have h := h.1 c98
          refine qr_bipush 114 116 rfl (q_l32 _ rfl) (by decide) dX11_refusedWeighed_114 ?_
          exact qe_i 116 rfl dX11_refusedWeighed_116 h
        · have h := h.2 c98
          refine qr_lload 101 103 rfl (x := x4_2) rfl dX11_refusedWeighed_101 ?_
          refine qr_ldc2 103 106 rfl (v := 1000) (q_l64 _ rfl) wm_1209 dX11_refusedWeighed_103 ?_
          refine qr_lrem 106 107 rfl (by decide) dX11_refusedWeighed_106 ?_
          refine qr_ldc2 107 110 rfl (v := 199) (q_l64 _ rfl) wm_1210 dX11_refusedWeighed_107 ?_
          refine qr_lcmp 110 111 rfl dX11_refusedWeighed_110 ?_
          refine qr_if_le 111 114 117 rfl (by decide) dX11_refusedWeighed_111 (fun c111 => ?_) (fun c111 => ?_)
          · have h := h.1 c111
            refine qr_iinc 117 120 rfl (by decide) (x := x3) rfl rfl rfl dX11_refusedWeighed_117 ?_
            refine qr_goto 120 49 (by decide) dX11_refusedWeighed_120 ?_
            exact qr_cut 49 (ls' := [some (qR 1), none, some (qR x2), some (qI (q_add x3 1)), none, none]) (And.intro rfl (And.intro rfl (And.intro rfl trivial))) h
          · have h := h.2 c111
            refine qr_bipush 114 116 rfl (q_l32 _ rfl) (by decide) dX11_refusedWeighed_114 ?_
            exact qe_i 116 rfl dX11_refusedWeighed_116 h
theorem dX11_warmthsBy_0 : decode cX11_warmthsBy 0 = .ok (.iconst 0, 1) := by decide +kernel
theorem dX11_warmthsBy_1 : decode cX11_warmthsBy 1 = .ok (.istore_n 2, 1) := by decide +kernel
theorem dX11_warmthsBy_2 : decode cX11_warmthsBy 2 = .ok (.iconst 0, 1) := by decide +kernel
theorem dX11_warmthsBy_3 : decode cX11_warmthsBy 3 = .ok (.istore_n 3, 1) := by decide +kernel
theorem dX11_warmthsBy_4 : decode cX11_warmthsBy 4 = .ok (.iload_n 3, 1) := by decide +kernel
theorem dX11_warmthsBy_5 : decode cX11_warmthsBy 5 = .ok (.bipush 10, 2) := by decide +kernel
theorem dX11_warmthsBy_7 : decode cX11_warmthsBy 7 = .ok (.if_icmp .ge 24, 3) := by decide +kernel
theorem dX11_warmthsBy_10 : decode cX11_warmthsBy 10 = .ok (.aload_n 0, 1) := by decide +kernel
theorem dX11_warmthsBy_11 : decode cX11_warmthsBy 11 = .ok (.aload_n 1, 1) := by decide +kernel
theorem dX11_warmthsBy_12 : decode cX11_warmthsBy 12 = .ok (.iload_n 3, 1) := by decide +kernel
theorem dX11_warmthsBy_13 : decode cX11_warmthsBy 13 = .ok (.invokevirtual 405, 3) := by decide +kernel
theorem dX11_warmthsBy_16 : decode cX11_warmthsBy 16 = .ok (.ifCond .eq 9, 3) := by decide +kernel
theorem dX11_warmthsBy_19 : decode cX11_warmthsBy 19 = .ok (.iload_n 2, 1) := by decide +kernel
theorem dX11_warmthsBy_20 : decode cX11_warmthsBy 20 = .ok (.iconst 1, 1) := by decide +kernel
theorem dX11_warmthsBy_21 : decode cX11_warmthsBy 21 = .ok (.iload_n 3, 1) := by decide +kernel
theorem dX11_warmthsBy_22 : decode cX11_warmthsBy 22 = .ok (.ishl, 1) := by decide +kernel
theorem dX11_warmthsBy_23 : decode cX11_warmthsBy 23 = .ok (.ior, 1) := by decide +kernel
theorem dX11_warmthsBy_24 : decode cX11_warmthsBy 24 = .ok (.istore_n 2, 1) := by decide +kernel
theorem dX11_warmthsBy_25 : decode cX11_warmthsBy 25 = .ok (.iinc 3 1, 3) := by decide +kernel
theorem dX11_warmthsBy_28 : decode cX11_warmthsBy 28 = .ok (.goto (-24), 3) := by decide +kernel
theorem dX11_warmthsBy_31 : decode cX11_warmthsBy 31 = .ok (.iload_n 2, 1) := by decide +kernel
theorem dX11_warmthsBy_32 : decode cX11_warmthsBy 32 = .ok (.ireturn, 1) := by decide +kernel
theorem bX11_warmthsBy_0 {d : Nat} {P : Int → q_Mem → Prop} {M : q_Mem} (x1 : Int) (k1 : q_kd x1 = 9) (h : q_v mX11_warmthsBy d (qPI P) M 4 [some (qR 1), some (qR x1), some (qI 0), some (qI 0)] []) : q_v mX11_warmthsBy d (qPI P) M 0 [some (qR 1), some (qR x1), none, none] [] := by
  refine qr_iconst 0 1 rfl (q_l32 _ rfl) dX11_warmthsBy_0 ?_
  refine qr_istore_n 1 2 rfl (by decide) rfl rfl dX11_warmthsBy_1 ?_
  refine qr_iconst 2 3 rfl (q_l32 _ rfl) dX11_warmthsBy_2 ?_
  refine qr_istore_n 3 4 rfl (by decide) rfl rfl dX11_warmthsBy_3 ?_
  exact h
theorem bX11_warmthsBy_4 {d : Nat} {P : Int → q_Mem → Prop} {M : q_Mem} (x1 x2 x3 : Int) (k1 : q_kd x1 = 9) (h : (((10 : Int) ≤ x3) → P x2 M) ∧ ((¬ ((10 : Int) ≤ x3)) → q_kI yX11_isWeighedSo mX11_isWeighedSo d [qR 1, qR x1, qI x3] M (fun v2 M1 => ((v2 = 0) → q_v mX11_warmthsBy d (qPI P) M1 4 [some (qR 1), some (qR x1), some (qI x2), some (qI (q_add x3 1))] []) ∧ ((¬ (v2 = 0)) → ∀ x2_3 : Int, x2_3 = (q_or x2 (q_shl 1 x3)) → q_v mX11_warmthsBy d (qPI P) M1 4 [some (qR 1), some (qR x1), some (qI x2_3), some (qI (q_add x3 1))] [])))) : q_v mX11_warmthsBy d (qPI P) M 4 [some (qR 1), some (qR x1), some (qI x2), some (qI x3)] [] := by
  refine qr_iload_n 4 5 rfl (x := x3) rfl dX11_warmthsBy_4 ?_
  refine qr_bipush 5 7 rfl (q_l32 _ rfl) (by decide) dX11_warmthsBy_5 ?_
  refine qr_icmp_ge 7 10 31 rfl (by decide) dX11_warmthsBy_7 (fun c7 => ?_) (fun c7 => ?_)
  · have h := h.1 c7
    refine qr_iload_n 31 32 rfl (x := x2) rfl dX11_warmthsBy_31 ?_
    exact qe_i 32 rfl dX11_warmthsBy_32 h
  · have h := h.2 c7
    refine qr_aload_n 10 11 rfl (x := 1) rfl dX11_warmthsBy_10 ?_
    refine qr_aload_n 11 12 rfl (x := x1) rfl dX11_warmthsBy_11 ?_
    refine qr_iload_n 12 13 rfl (x := x3) rfl dX11_warmthsBy_12 ?_
    refine qw_I 13 16 rfl (av := [qR x1, qI x3]) ca_X11_isWeighedSo wm_1217 wp_70 wm_1215 ck11 (by decide +kernel) rfl rfl (Nat.le_of_ble_eq_true rfl) dX11_warmthsBy_13 h (fun v2 M1 h => ?_)
    refine qr_if_eq 16 19 25 rfl (by decide) dX11_warmthsBy_16 (fun c16 => ?_) (fun c16 => ?_)
    · have h := h.1 c16
      refine qr_iinc 25 28 rfl (by decide) (x := x3) rfl rfl rfl dX11_warmthsBy_25 ?_
      refine qr_goto 28 4 (by decide) dX11_warmthsBy_28 ?_
      exact h
    · have h := h.2 c16
      refine qr_iload_n 19 20 rfl (x := x2) rfl dX11_warmthsBy_19 ?_
      refine qr_iconst 20 21 rfl (q_l32 _ rfl) dX11_warmthsBy_20 ?_
      refine qr_iload_n 21 22 rfl (x := x3) rfl dX11_warmthsBy_21 ?_
      refine qr_ishl 22 23 rfl dX11_warmthsBy_22 ?_
      refine qr_ior 23 24 rfl dX11_warmthsBy_23 ?_
      refine qn_i 24 (fun x2_3 e_x2_3 => ?_)
      have h := h x2_3 e_x2_3
      refine qr_istore_n 24 25 rfl (by decide) rfl rfl dX11_warmthsBy_24 ?_
      refine qr_iinc 25 28 rfl (by decide) (x := x3) rfl rfl rfl dX11_warmthsBy_25 ?_
      refine qr_goto 28 4 (by decide) dX11_warmthsBy_28 ?_
      exact h
theorem dX11_isWeighedSo_0 : decode cX11_isWeighedSo 0 = .ok (.iconst 0, 1) := by decide +kernel
theorem dX11_isWeighedSo_1 : decode cX11_isWeighedSo 1 = .ok (.istore_n 3, 1) := by decide +kernel
theorem dX11_isWeighedSo_2 : decode cX11_isWeighedSo 2 = .ok (.iload_n 3, 1) := by decide +kernel
theorem dX11_isWeighedSo_3 : decode cX11_isWeighedSo 3 = .ok (.aload_n 1, 1) := by decide +kernel
theorem dX11_isWeighedSo_4 : decode cX11_isWeighedSo 4 = .ok (.getfield 247, 3) := by decide +kernel
theorem dX11_isWeighedSo_7 : decode cX11_isWeighedSo 7 = .ok (.if_icmp .ge 69, 3) := by decide +kernel
theorem dX11_isWeighedSo_10 : decode cX11_isWeighedSo 10 = .ok (.aload_n 1, 1) := by decide +kernel
theorem dX11_isWeighedSo_11 : decode cX11_isWeighedSo 11 = .ok (.getfield 268, 3) := by decide +kernel
theorem dX11_isWeighedSo_14 : decode cX11_isWeighedSo 14 = .ok (.iload_n 3, 1) := by decide +kernel
theorem dX11_isWeighedSo_15 : decode cX11_isWeighedSo 15 = .ok (.laload, 1) := by decide +kernel
theorem dX11_isWeighedSo_16 : decode cX11_isWeighedSo 16 = .ok (.l2i, 1) := by decide +kernel
theorem dX11_isWeighedSo_17 : decode cX11_isWeighedSo 17 = .ok (.istore 4, 2) := by decide +kernel
theorem dX11_isWeighedSo_19 : decode cX11_isWeighedSo 19 = .ok (.iload 4, 2) := by decide +kernel
theorem dX11_isWeighedSo_21 : decode cX11_isWeighedSo 21 = .ok (.sipush 1000, 3) := by decide +kernel
theorem dX11_isWeighedSo_24 : decode cX11_isWeighedSo 24 = .ok (.idiv, 1) := by decide +kernel
theorem dX11_isWeighedSo_25 : decode cX11_isWeighedSo 25 = .ok (.istore 5, 2) := by decide +kernel
theorem dX11_isWeighedSo_27 : decode cX11_isWeighedSo 27 = .ok (.aload_n 0, 1) := by decide +kernel
theorem dX11_isWeighedSo_28 : decode cX11_isWeighedSo 28 = .ok (.iload 5, 2) := by decide +kernel
theorem dX11_isWeighedSo_30 : decode cX11_isWeighedSo 30 = .ok (.invokevirtual 136, 3) := by decide +kernel
theorem dX11_isWeighedSo_33 : decode cX11_isWeighedSo 33 = .ok (.ifCond .eq 35, 3) := by decide +kernel
theorem dX11_isWeighedSo_36 : decode cX11_isWeighedSo 36 = .ok (.aload_n 0, 1) := by decide +kernel
theorem dX11_isWeighedSo_37 : decode cX11_isWeighedSo 37 = .ok (.getfield 20, 3) := by decide +kernel
theorem dX11_isWeighedSo_40 : decode cX11_isWeighedSo 40 = .ok (.iload 5, 2) := by decide +kernel
theorem dX11_isWeighedSo_42 : decode cX11_isWeighedSo 42 = .ok (.aload_n 0, 1) := by decide +kernel
theorem dX11_isWeighedSo_43 : decode cX11_isWeighedSo 43 = .ok (.getfield 37, 3) := by decide +kernel
theorem dX11_isWeighedSo_46 : decode cX11_isWeighedSo 46 = .ok (.getfield 182, 3) := by decide +kernel
theorem dX11_isWeighedSo_49 : decode cX11_isWeighedSo 49 = .ok (.iload 5, 2) := by decide +kernel
theorem dX11_isWeighedSo_51 : decode cX11_isWeighedSo 51 = .ok (.iaload, 1) := by decide +kernel
theorem dX11_isWeighedSo_52 : decode cX11_isWeighedSo 52 = .ok (.iload_n 2, 1) := by decide +kernel
theorem dX11_isWeighedSo_53 : decode cX11_isWeighedSo 53 = .ok (.invokevirtual 344, 3) := by decide +kernel
theorem dX11_isWeighedSo_56 : decode cX11_isWeighedSo 56 = .ok (.iload 4, 2) := by decide +kernel
theorem dX11_isWeighedSo_58 : decode cX11_isWeighedSo 58 = .ok (.sipush 1000, 3) := by decide +kernel
theorem dX11_isWeighedSo_61 : decode cX11_isWeighedSo 61 = .ok (.irem, 1) := by decide +kernel
theorem dX11_isWeighedSo_62 : decode cX11_isWeighedSo 62 = .ok (.bipush 100, 2) := by decide +kernel
theorem dX11_isWeighedSo_64 : decode cX11_isWeighedSo 64 = .ok (.isub, 1) := by decide +kernel
theorem dX11_isWeighedSo_65 : decode cX11_isWeighedSo 65 = .ok (.if_icmp .eq 5, 3) := by decide +kernel
theorem dX11_isWeighedSo_68 : decode cX11_isWeighedSo 68 = .ok (.iconst 0, 1) := by decide +kernel
theorem dX11_isWeighedSo_69 : decode cX11_isWeighedSo 69 = .ok (.ireturn, 1) := by decide +kernel
theorem dX11_isWeighedSo_70 : decode cX11_isWeighedSo 70 = .ok (.iinc 3 1, 3) := by decide +kernel
theorem dX11_isWeighedSo_73 : decode cX11_isWeighedSo 73 = .ok (.goto (-71), 3) := by decide +kernel
theorem dX11_isWeighedSo_76 : decode cX11_isWeighedSo 76 = .ok (.iconst 1, 1) := by decide +kernel
theorem dX11_isWeighedSo_77 : decode cX11_isWeighedSo 77 = .ok (.ireturn, 1) := by decide +kernel
theorem bX11_isWeighedSo_0 {d : Nat} {P : Int → q_Mem → Prop} {M : q_Mem} (x1 x2 : Int) (k1 : q_kd x1 = 9) (h : q_v mX11_isWeighedSo d (qPI P) M 2 [some (qR 1), some (qR x1), some (qI x2), some (qI 0), none, none] []) : q_v mX11_isWeighedSo d (qPI P) M 0 [some (qR 1), some (qR x1), some (qI x2), none, none, none] [] := by
  refine qr_iconst 0 1 rfl (q_l32 _ rfl) dX11_isWeighedSo_0 ?_
  refine qr_istore_n 1 2 rfl (by decide) rfl rfl dX11_isWeighedSo_1 ?_
  exact h
theorem bX11_isWeighedSo_2 {d : Nat} {P : Int → q_Mem → Prop} {M : q_Mem} (x1 x2 x3 : Int) (k1 : q_kd x1 = 9) (h : (((M x1 0) ≤ x3) → P 1 M) ∧ ((¬ ((M x1 0) ≤ x3)) → (0 ≤ x3 ∧ x3 < (40 : Int)) ∧ (∀ x4_2 : Int, x4_2 = (q_l2i (M (q_lay x1 2) x3)) → ∀ x5_3 : Int, x5_3 = (q_div x4_2 1000) → q_kI yX11_hasLink mX11_hasLink d [qR 1, qI x5_3] M (fun v5 M4 => ((v5 = 0) → P 0 M4) ∧ ((¬ (v5 = 0)) → (0 ≤ x5_3 ∧ x5_3 < (16 : Int)) ∧ (q_kd (M4 1 4) = 4 ∧ (q_kI yX4_weightOf mX4_weightOf d [qR (M4 1 4), qI x5_3, qI (M4 51 x5_3), qI x2] M4 (fun v9 M8 => ((v9 = (q_sub (q_rem x4_2 1000) 100)) → q_v mX11_isWeighedSo d (qPI P) M8 2 [some (qR 1), some (qR x1), some (qI x2), some (qI (q_add x3 1)), none, none] []) ∧ ((¬ (v9 = (q_sub (q_rem x4_2 1000) 100))) → P 0 M8))))))))) : q_v mX11_isWeighedSo d (qPI P) M 2 [some (qR 1), some (qR x1), some (qI x2), some (qI x3), none, none] [] := by
  refine qr_iload_n 2 3 rfl (x := x3) rfl dX11_isWeighedSo_2 ?_
  refine qr_aload_n 3 4 rfl (x := x1) rfl dX11_isWeighedSo_3 ?_
  refine qg_i 4 7 rfl ck9 0 (kk := 0) (by decide) k1 (by decide +kernel) rfl wm_336 rfl dX11_isWeighedSo_4 ?_
  refine qr_icmp_ge 7 10 76 rfl (by decide) dX11_isWeighedSo_7 (fun c7 => ?_) (fun c7 => ?_)
  · have h := h.1 c7
    refine qr_iconst 76 77 rfl (q_l32 _ rfl) dX11_isWeighedSo_76 ?_
    exact qe_z 77 rfl (by decide) dX11_isWeighedSo_77 h
  · have h := h.2 c7
    refine qr_aload_n 10 11 rfl (x := x1) rfl dX11_isWeighedSo_10 ?_
    refine qr_getF 11 14 rfl ck9 2 (by decide) (b := (q_lay x1 2)) k1 rfl (by decide +kernel) rfl wm_339 rfl dX11_isWeighedSo_11 ?_
    refine qr_iload_n 14 15 rfl (x := x3) rfl dX11_isWeighedSo_14 ?_
    have hb1 := h.1
    have h := h.2
    refine ql_ld 15 16 rfl (N := 40) (lk9_2 _ k1) (ll9_2 _ k1) hb1.1 hb1.2 dX11_isWeighedSo_15 ?_
    refine qr_l2i 16 17 rfl dX11_isWeighedSo_16 ?_
    refine qn_i 17 (fun x4_2 e_x4_2 => ?_)
    have h := h x4_2 e_x4_2
    refine qr_istore 17 19 rfl (by decide) rfl rfl dX11_isWeighedSo_17 ?_
    refine qr_iload 19 21 rfl (x := x4_2) rfl dX11_isWeighedSo_19 ?_
    refine qr_sipush 21 24 rfl (q_l32 _ rfl) (by decide) dX11_isWeighedSo_21 ?_
    refine qr_idiv 24 25 rfl (by decide) dX11_isWeighedSo_24 ?_
    refine qn_i 25 (fun x5_3 e_x5_3 => ?_)
    have h := h x5_3 e_x5_3
    refine qr_istore 25 27 rfl (by decide) rfl rfl dX11_isWeighedSo_25 ?_
    refine qr_aload_n 27 28 rfl (x := 1) rfl dX11_isWeighedSo_27 ?_
    refine qr_iload 28 30 rfl (x := x5_3) rfl dX11_isWeighedSo_28 ?_
    refine qw_I 30 33 rfl (av := [qI x5_3]) ca_X11_hasLink wm_751 wp_28 wm_749 ck11 (by decide +kernel) rfl rfl (Nat.le_of_ble_eq_true rfl) dX11_isWeighedSo_30 h (fun v5 M4 h => ?_)
    refine qr_if_eq 33 36 68 rfl (by decide) dX11_isWeighedSo_33 (fun c33 => ?_) (fun c33 => ?_)
    · have h := h.1 c33
      refine qr_iconst 68 69 rfl (q_l32 _ rfl) dX11_isWeighedSo_68 ?_
      exact qe_z 69 rfl (by decide) dX11_isWeighedSo_69 h
    · have h := h.2 c33
      refine qr_aload_n 36 37 rfl (x := 1) rfl dX11_isWeighedSo_36 ?_
      refine qg_r 37 40 rfl ck11 4 (kk := 4) (by decide) (by decide +kernel) (by decide +kernel) rfl wm_381 rfl dX11_isWeighedSo_37 ?_
      refine qr_iload 40 42 rfl (x := x5_3) rfl dX11_isWeighedSo_40 ?_
      refine qr_aload_n 42 43 rfl (x := 1) rfl dX11_isWeighedSo_42 ?_
      refine qr_getF 43 46 rfl ck11 7 (by decide) (b := 50) (by decide +kernel) rfl (by decide +kernel) (by decide +kernel) wm_384 rfl dX11_isWeighedSo_43 ?_
      refine qr_getF 46 49 rfl ck7 2 (by decide) (b := 51) (by decide +kernel) rfl (by decide +kernel) (by decide +kernel) wm_173 rfl dX11_isWeighedSo_46 ?_
      refine qr_iload 49 51 rfl (x := x5_3) rfl dX11_isWeighedSo_49 ?_
      have hb6 := h.1
      have h := h.2
      refine qi_ld 51 52 rfl (N := 16) (by decide +kernel) (by decide +kernel) hb6.1 hb6.2 dX11_isWeighedSo_51 ?_
      refine qr_iload_n 52 53 rfl (x := x2) rfl dX11_isWeighedSo_52 ?_
      have hk7 := h.1
      have h := h.2
      refine qw_I 53 56 rfl (av := [qI x5_3, qI (M4 51 x5_3), qI x2]) ca_X4_weightOf wm_798 wm_799 wm_797 ck4 hk7 rfl rfl (Nat.le_of_ble_eq_true rfl) dX11_isWeighedSo_53 h (fun v9 M8 h => ?_)
      refine qr_iload 56 58 rfl (x := x4_2) rfl dX11_isWeighedSo_56 ?_
      refine qr_sipush 58 61 rfl (q_l32 _ rfl) (by decide) dX11_isWeighedSo_58 ?_
      refine qr_irem 61 62 rfl (by decide) dX11_isWeighedSo_61 ?_
      refine qr_bipush 62 64 rfl (q_l32 _ rfl) (by decide) dX11_isWeighedSo_62 ?_
      refine qr_isub 64 65 rfl dX11_isWeighedSo_64 ?_
      refine qr_icmp_eq 65 68 70 rfl (by decide) dX11_isWeighedSo_65 (fun c65 => ?_) (fun c65 => ?_)
      · have h := h.1 c65
        refine qr_iinc 70 73 rfl (by decide) (x := x3) rfl rfl rfl dX11_isWeighedSo_70 ?_
        refine qr_goto 73 2 (by decide) dX11_isWeighedSo_73 ?_
        exact qr_cut 2 (ls' := [some (qR 1), some (qR x1), some (qI x2), some (qI (q_add x3 1)), none, none]) (And.intro rfl (And.intro rfl (And.intro rfl (And.intro rfl trivial)))) h
      · have h := h.2 c65
        refine qr_iconst 68 69 rfl (q_l32 _ rfl) dX11_isWeighedSo_68 ?_
        exact qe_z 69 rfl (by decide) dX11_isWeighedSo_69 h
theorem dX11_linkToAsk_0 : decode cX11_linkToAsk 0 = .ok (.iconst (-1), 1) := by decide +kernel
theorem dX11_linkToAsk_1 : decode cX11_linkToAsk 1 = .ok (.istore_n 2, 1) := by decide +kernel
theorem dX11_linkToAsk_2 : decode cX11_linkToAsk 2 = .ok (.bipush 11, 2) := by decide +kernel
theorem dX11_linkToAsk_4 : decode cX11_linkToAsk 4 = .ok (.istore_n 3, 1) := by decide +kernel
theorem dX11_linkToAsk_5 : decode cX11_linkToAsk 5 = .ok (.iconst 0, 1) := by decide +kernel
theorem dX11_linkToAsk_6 : decode cX11_linkToAsk 6 = .ok (.istore 4, 2) := by decide +kernel
theorem dX11_linkToAsk_8 : decode cX11_linkToAsk 8 = .ok (.iload 4, 2) := by decide +kernel
theorem dX11_linkToAsk_10 : decode cX11_linkToAsk 10 = .ok (.aload_n 0, 1) := by decide +kernel
theorem dX11_linkToAsk_11 : decode cX11_linkToAsk 11 = .ok (.getfield 20, 3) := by decide +kernel
theorem dX11_linkToAsk_14 : decode cX11_linkToAsk 14 = .ok (.getfield 165, 3) := by decide +kernel
theorem dX11_linkToAsk_17 : decode cX11_linkToAsk 17 = .ok (.if_icmp .ge 34, 3) := by decide +kernel
theorem dX11_linkToAsk_20 : decode cX11_linkToAsk 20 = .ok (.iload_n 1, 1) := by decide +kernel
theorem dX11_linkToAsk_21 : decode cX11_linkToAsk 21 = .ok (.ifCond .eq 30, 3) := by decide +kernel
theorem dX11_linkToAsk_24 : decode cX11_linkToAsk 24 = .ok (.aload_n 0, 1) := by decide +kernel
theorem dX11_linkToAsk_25 : decode cX11_linkToAsk 25 = .ok (.iload 4, 2) := by decide +kernel
theorem dX11_linkToAsk_27 : decode cX11_linkToAsk 27 = .ok (.iload_n 1, 1) := by decide +kernel
theorem dX11_linkToAsk_28 : decode cX11_linkToAsk 28 = .ok (.invokevirtual 409, 3) := by decide +kernel
theorem dX11_linkToAsk_31 : decode cX11_linkToAsk 31 = .ok (.istore 5, 2) := by decide +kernel
theorem dX11_linkToAsk_33 : decode cX11_linkToAsk 33 = .ok (.iload 5, 2) := by decide +kernel
theorem dX11_linkToAsk_35 : decode cX11_linkToAsk 35 = .ok (.iload_n 3, 1) := by decide +kernel
theorem dX11_linkToAsk_36 : decode cX11_linkToAsk 36 = .ok (.if_icmp .ge 9, 3) := by decide +kernel
theorem dX11_linkToAsk_39 : decode cX11_linkToAsk 39 = .ok (.iload 5, 2) := by decide +kernel
theorem dX11_linkToAsk_41 : decode cX11_linkToAsk 41 = .ok (.istore_n 3, 1) := by decide +kernel
theorem dX11_linkToAsk_42 : decode cX11_linkToAsk 42 = .ok (.iload 4, 2) := by decide +kernel
theorem dX11_linkToAsk_44 : decode cX11_linkToAsk 44 = .ok (.istore_n 2, 1) := by decide +kernel
theorem dX11_linkToAsk_45 : decode cX11_linkToAsk 45 = .ok (.iinc 4 1, 3) := by decide +kernel
theorem dX11_linkToAsk_48 : decode cX11_linkToAsk 48 = .ok (.goto (-40), 3) := by decide +kernel
theorem dX11_linkToAsk_51 : decode cX11_linkToAsk 51 = .ok (.iload_n 2, 1) := by decide +kernel
theorem dX11_linkToAsk_52 : decode cX11_linkToAsk 52 = .ok (.ireturn, 1) := by decide +kernel
theorem bX11_linkToAsk_0 {d : Nat} {P : Int → q_Mem → Prop} {M : q_Mem} (x1 : Int) (h : q_v mX11_linkToAsk d (qPI P) M 8 [some (qR 1), some (qI x1), some (qI (-1)), some (qI 11), some (qI 0), none] []) : q_v mX11_linkToAsk d (qPI P) M 0 [some (qR 1), some (qI x1), none, none, none, none] [] := by
  refine qr_iconst 0 1 rfl (q_l32 _ rfl) dX11_linkToAsk_0 ?_
  refine qr_istore_n 1 2 rfl (by decide) rfl rfl dX11_linkToAsk_1 ?_
  refine qr_bipush 2 4 rfl (q_l32 _ rfl) (by decide) dX11_linkToAsk_2 ?_
  refine qr_istore_n 4 5 rfl (by decide) rfl rfl dX11_linkToAsk_4 ?_
  refine qr_iconst 5 6 rfl (q_l32 _ rfl) dX11_linkToAsk_5 ?_
  refine qr_istore 6 8 rfl (by decide) rfl rfl dX11_linkToAsk_6 ?_
  exact h
theorem bX11_linkToAsk_8 {d : Nat} {P : Int → q_Mem → Prop} {M : q_Mem} (x1 x2 x3 x4 : Int) (h : q_kd (M 1 4) = 4 ∧ ((((M (M 1 4) 1) ≤ x4) → P x2 M) ∧ ((¬ ((M (M 1 4) 1) ≤ x4)) → ((x1 = 0) → P x2 M) ∧ ((¬ (x1 = 0)) → q_kI yX11_mostAlike mX11_mostAlike d [qR 1, qI x4, qI x1] M (fun v3 M2 => ((x3 ≤ v3) → q_v mX11_linkToAsk d (qPI P) M2 8 [some (qR 1), some (qI x1), some (qI x2), some (qI x3), some (qI (q_add x4 1)), none] []) ∧ ((¬ (x3 ≤ v3)) → q_v mX11_linkToAsk d (qPI P) M2 8 [some (qR 1), some (qI x1), some (qI x4), some (qI v3), some (qI (q_add x4 1)), none] [])))))) : q_v mX11_linkToAsk d (qPI P) M 8 [some (qR 1), some (qI x1), some (qI x2), some (qI x3), some (qI x4), none] [] := by
  refine qr_iload 8 10 rfl (x := x4) rfl dX11_linkToAsk_8 ?_
  refine qr_aload_n 10 11 rfl (x := 1) rfl dX11_linkToAsk_10 ?_
  refine qg_r 11 14 rfl ck11 4 (kk := 4) (by decide) (by decide +kernel) (by decide +kernel) rfl wm_381 rfl dX11_linkToAsk_11 ?_
  have hk1 := h.1
  have h := h.2
  refine qg_i 14 17 rfl ck4 1 (kk := 1) (by decide) hk1 (by decide +kernel) rfl wm_68 rfl dX11_linkToAsk_14 ?_
  refine qr_icmp_ge 17 20 51 rfl (by decide) dX11_linkToAsk_17 (fun c17 => ?_) (fun c17 => ?_)
  · have h := h.1 c17
    refine qr_iload_n 51 52 rfl (x := x2) rfl dX11_linkToAsk_51 ?_
    exact qe_i 52 rfl dX11_linkToAsk_52 h
  · have h := h.2 c17
    refine qr_iload_n 20 21 rfl (x := x1) rfl dX11_linkToAsk_20 ?_
    refine qr_if_eq 21 24 51 rfl (by decide) dX11_linkToAsk_21 (fun c21 => ?_) (fun c21 => ?_)
    · have h := h.1 c21
      refine qr_iload_n 51 52 rfl (x := x2) rfl dX11_linkToAsk_51 ?_
      exact qe_i 52 rfl dX11_linkToAsk_52 h
    · have h := h.2 c21
      refine qr_aload_n 24 25 rfl (x := 1) rfl dX11_linkToAsk_24 ?_
      refine qr_iload 25 27 rfl (x := x4) rfl dX11_linkToAsk_25 ?_
      refine qr_iload_n 27 28 rfl (x := x1) rfl dX11_linkToAsk_27 ?_
      refine qw_I 28 31 rfl (av := [qI x4, qI x1]) ca_X11_mostAlike wm_1229 wp_72 wm_1227 ck11 (by decide +kernel) rfl rfl (Nat.le_of_ble_eq_true rfl) dX11_linkToAsk_28 h (fun v3 M2 h => ?_)
      refine qr_istore 31 33 rfl (by decide) rfl rfl dX11_linkToAsk_31 ?_
      refine qr_iload 33 35 rfl (x := v3) rfl dX11_linkToAsk_33 ?_
      refine qr_iload_n 35 36 rfl (x := x3) rfl dX11_linkToAsk_35 ?_
      refine qr_icmp_ge 36 39 45 rfl (by decide) dX11_linkToAsk_36 (fun c36 => ?_) (fun c36 => ?_)
      · have h := h.1 c36
        refine qr_iinc 45 48 rfl (by decide) (x := x4) rfl rfl rfl dX11_linkToAsk_45 ?_
        refine qr_goto 48 8 (by decide) dX11_linkToAsk_48 ?_
        exact qr_cut 8 (ls' := [some (qR 1), some (qI x1), some (qI x2), some (qI x3), some (qI (q_add x4 1)), none]) (And.intro rfl (And.intro rfl (And.intro rfl (And.intro rfl (And.intro rfl trivial))))) h
      · have h := h.2 c36
        refine qr_iload 39 41 rfl (x := v3) rfl dX11_linkToAsk_39 ?_
        refine qr_istore_n 41 42 rfl (by decide) rfl rfl dX11_linkToAsk_41 ?_
        refine qr_iload 42 44 rfl (x := x4) rfl dX11_linkToAsk_42 ?_
        refine qr_istore_n 44 45 rfl (by decide) rfl rfl dX11_linkToAsk_44 ?_
        refine qr_iinc 45 48 rfl (by decide) (x := x4) rfl rfl rfl dX11_linkToAsk_45 ?_
        refine qr_goto 48 8 (by decide) dX11_linkToAsk_48 ?_
        exact qr_cut 8 (ls' := [some (qR 1), some (qI x1), some (qI x4), some (qI v3), some (qI (q_add x4 1)), none]) (And.intro rfl (And.intro rfl (And.intro rfl (And.intro rfl (And.intro rfl trivial))))) h
theorem dX11_mostAlike_0 : decode cX11_mostAlike 0 = .ok (.aload_n 0, 1) := by decide +kernel
theorem dX11_mostAlike_1 : decode cX11_mostAlike 1 = .ok (.getfield 84, 3) := by decide +kernel
theorem dX11_mostAlike_4 : decode cX11_mostAlike 4 = .ok (.invokevirtual 412, 3) := by decide +kernel
theorem dX11_mostAlike_7 : decode cX11_mostAlike 7 = .ok (.astore_n 3, 1) := by decide +kernel
theorem dX11_mostAlike_8 : decode cX11_mostAlike 8 = .ok (.iconst 0, 1) := by decide +kernel
theorem dX11_mostAlike_9 : decode cX11_mostAlike 9 = .ok (.istore 4, 2) := by decide +kernel
theorem dX11_mostAlike_11 : decode cX11_mostAlike 11 = .ok (.iconst 0, 1) := by decide +kernel
theorem dX11_mostAlike_12 : decode cX11_mostAlike 12 = .ok (.istore 5, 2) := by decide +kernel
theorem dX11_mostAlike_14 : decode cX11_mostAlike 14 = .ok (.iload 5, 2) := by decide +kernel
theorem dX11_mostAlike_16 : decode cX11_mostAlike 16 = .ok (.bipush 10, 2) := by decide +kernel
theorem dX11_mostAlike_18 : decode cX11_mostAlike 18 = .ok (.if_icmp .ge 61, 3) := by decide +kernel
theorem dX11_mostAlike_21 : decode cX11_mostAlike 21 = .ok (.iload_n 2, 1) := by decide +kernel
theorem dX11_mostAlike_22 : decode cX11_mostAlike 22 = .ok (.iload 5, 2) := by decide +kernel
theorem dX11_mostAlike_24 : decode cX11_mostAlike 24 = .ok (.ishr, 1) := by decide +kernel
theorem dX11_mostAlike_25 : decode cX11_mostAlike 25 = .ok (.iconst 1, 1) := by decide +kernel
theorem dX11_mostAlike_26 : decode cX11_mostAlike 26 = .ok (.iand, 1) := by decide +kernel
theorem dX11_mostAlike_27 : decode cX11_mostAlike 27 = .ok (.ifCond .eq 46, 3) := by decide +kernel
theorem dX11_mostAlike_30 : decode cX11_mostAlike 30 = .ok (.aload_n 0, 1) := by decide +kernel
theorem dX11_mostAlike_31 : decode cX11_mostAlike 31 = .ok (.getfield 20, 3) := by decide +kernel
theorem dX11_mostAlike_34 : decode cX11_mostAlike 34 = .ok (.iload_n 1, 1) := by decide +kernel
theorem dX11_mostAlike_35 : decode cX11_mostAlike 35 = .ok (.aload_n 0, 1) := by decide +kernel
theorem dX11_mostAlike_36 : decode cX11_mostAlike 36 = .ok (.getfield 37, 3) := by decide +kernel
theorem dX11_mostAlike_39 : decode cX11_mostAlike 39 = .ok (.getfield 182, 3) := by decide +kernel
theorem dX11_mostAlike_42 : decode cX11_mostAlike 42 = .ok (.iload_n 1, 1) := by decide +kernel
theorem dX11_mostAlike_43 : decode cX11_mostAlike 43 = .ok (.iaload, 1) := by decide +kernel
theorem dX11_mostAlike_44 : decode cX11_mostAlike 44 = .ok (.iload 5, 2) := by decide +kernel
theorem dX11_mostAlike_46 : decode cX11_mostAlike 46 = .ok (.invokevirtual 344, 3) := by decide +kernel
theorem dX11_mostAlike_49 : decode cX11_mostAlike 49 = .ok (.bipush 99, 2) := by decide +kernel
theorem dX11_mostAlike_51 : decode cX11_mostAlike 51 = .ok (.iadd, 1) := by decide +kernel
theorem dX11_mostAlike_52 : decode cX11_mostAlike 52 = .ok (.istore 6, 2) := by decide +kernel
theorem dX11_mostAlike_54 : decode cX11_mostAlike 54 = .ok (.aload_n 3, 1) := by decide +kernel
theorem dX11_mostAlike_55 : decode cX11_mostAlike 55 = .ok (.iload 6, 2) := by decide +kernel
theorem dX11_mostAlike_57 : decode cX11_mostAlike 57 = .ok (.dup2, 1) := by decide +kernel
theorem dX11_mostAlike_58 : decode cX11_mostAlike 58 = .ok (.iaload, 1) := by decide +kernel
theorem dX11_mostAlike_59 : decode cX11_mostAlike 59 = .ok (.iconst 1, 1) := by decide +kernel
theorem dX11_mostAlike_60 : decode cX11_mostAlike 60 = .ok (.iadd, 1) := by decide +kernel
theorem dX11_mostAlike_61 : decode cX11_mostAlike 61 = .ok (.iastore, 1) := by decide +kernel
theorem dX11_mostAlike_62 : decode cX11_mostAlike 62 = .ok (.iload 4, 2) := by decide +kernel
theorem dX11_mostAlike_64 : decode cX11_mostAlike 64 = .ok (.aload_n 3, 1) := by decide +kernel
theorem dX11_mostAlike_65 : decode cX11_mostAlike 65 = .ok (.iload 6, 2) := by decide +kernel
theorem dX11_mostAlike_67 : decode cX11_mostAlike 67 = .ok (.iaload, 1) := by decide +kernel
theorem dX11_mostAlike_68 : decode cX11_mostAlike 68 = .ok (.invokestatic 416, 3) := by decide +kernel
theorem dX11_mostAlike_71 : decode cX11_mostAlike 71 = .ok (.istore 4, 2) := by decide +kernel
theorem dX11_mostAlike_73 : decode cX11_mostAlike 73 = .ok (.iinc 5 1, 3) := by decide +kernel
theorem dX11_mostAlike_76 : decode cX11_mostAlike 76 = .ok (.goto (-62), 3) := by decide +kernel
theorem dX11_mostAlike_79 : decode cX11_mostAlike 79 = .ok (.iload 4, 2) := by decide +kernel
theorem dX11_mostAlike_81 : decode cX11_mostAlike 81 = .ok (.ireturn, 1) := by decide +kernel
theorem bX11_mostAlike_0 {d : Nat} {P : Int → q_Mem → Prop} {M : q_Mem} (x1 x2 : Int) (h : q_kR yX8_clearedTally mX8_clearedTally d [qR 117] M (fun v2 M1 => q_v mX11_mostAlike d (qPI P) M1 14 [some (qR 1), some (qI x1), some (qI x2), some (qR v2), some (qI 0), some (qI 0), none] [])) : q_v mX11_mostAlike d (qPI P) M 0 [some (qR 1), some (qI x1), some (qI x2), none, none, none, none] [] := by
  refine qr_aload_n 0 1 rfl (x := 1) rfl dX11_mostAlike_0 ?_
  refine qr_getF 1 4 rfl ck11 17 (by decide) (b := 117) (by decide +kernel) rfl (by decide +kernel) (by decide +kernel) wm_394 rfl dX11_mostAlike_1 ?_
  refine qw_R 4 7 rfl (av := []) ca_X8_clearedTally wm_1232 wm_1233 wm_1231 ck8 (by decide +kernel) rfl rfl (Nat.le_of_ble_eq_true rfl) dX11_mostAlike_4 h (fun v2 M1 h => ?_)
  refine qr_astore_n 7 8 rfl (by decide) rfl rfl dX11_mostAlike_7 ?_
  refine qr_iconst 8 9 rfl (q_l32 _ rfl) dX11_mostAlike_8 ?_
  refine qr_istore 9 11 rfl (by decide) rfl rfl dX11_mostAlike_9 ?_
  refine qr_iconst 11 12 rfl (q_l32 _ rfl) dX11_mostAlike_11 ?_
  refine qr_istore 12 14 rfl (by decide) rfl rfl dX11_mostAlike_12 ?_
  exact h
theorem bX11_mostAlike_14 {d : Nat} {P : Int → q_Mem → Prop} {M : q_Mem} (x1 x2 x3 x4 x5 : Int) (k3 : q_kd x3 = 14) (h : (((10 : Int) ≤ x5) → P x4 M) ∧ ((¬ ((10 : Int) ≤ x5)) → (((q_and (q_shr x2 x5) 1) = 0) → q_v mX11_mostAlike d (qPI P) M 14 [some (qR 1), some (qI x1), some (qI x2), some (qR x3), some (qI x4), some (qI (q_add x5 1)), none] []) ∧ ((¬ ((q_and (q_shr x2 x5) 1) = 0)) → (0 ≤ x1 ∧ x1 < (16 : Int)) ∧ (q_kd (M 1 4) = 4 ∧ (q_kI yX4_weightOf mX4_weightOf d [qR (M 1 4), qI x1, qI (M 51 x1), qI x5] M (fun v4 M3 => ∀ x6_5 : Int, x6_5 = (q_add v4 99) → (0 ≤ x6_5 ∧ x6_5 < (q_ln x3 : Int)) ∧ ((0 ≤ x6_5 ∧ x6_5 < (q_ln x3 : Int)) ∧ (∀ M8 : q_Mem, M8 = q_up M3 x3 x6_5 (q_add (M3 x3 x6_5) 1) → (0 ≤ x6_5 ∧ x6_5 < (q_ln x3 : Int)) ∧ (q_kI yJ9_max_7cf53 mJ9_max_7cf53 d [qI x4, qI (M8 x3 x6_5)] M8 (fun v11 M10 => q_v mX11_mostAlike d (qPI P) M10 14 [some (qR 1), some (qI x1), some (qI x2), some (qR x3), some (qI v11), some (qI (q_add x5 1)), none] [])))))))))) : q_v mX11_mostAlike d (qPI P) M 14 [some (qR 1), some (qI x1), some (qI x2), some (qR x3), some (qI x4), some (qI x5), none] [] := by
  refine qr_iload 14 16 rfl (x := x5) rfl dX11_mostAlike_14 ?_
  refine qr_bipush 16 18 rfl (q_l32 _ rfl) (by decide) dX11_mostAlike_16 ?_
  refine qr_icmp_ge 18 21 79 rfl (by decide) dX11_mostAlike_18 (fun c18 => ?_) (fun c18 => ?_)
  · have h := h.1 c18
    refine qr_iload 79 81 rfl (x := x4) rfl dX11_mostAlike_79 ?_
    exact qe_i 81 rfl dX11_mostAlike_81 h
  · have h := h.2 c18
    refine qr_iload_n 21 22 rfl (x := x2) rfl dX11_mostAlike_21 ?_
    refine qr_iload 22 24 rfl (x := x5) rfl dX11_mostAlike_22 ?_
    refine qr_ishr 24 25 rfl dX11_mostAlike_24 ?_
    refine qr_iconst 25 26 rfl (q_l32 _ rfl) dX11_mostAlike_25 ?_
    refine qr_iand 26 27 rfl dX11_mostAlike_26 ?_
    refine qr_if_eq 27 30 73 rfl (by decide) dX11_mostAlike_27 (fun c27 => ?_) (fun c27 => ?_)
    · have h := h.1 c27
      refine qr_iinc 73 76 rfl (by decide) (x := x5) rfl rfl rfl dX11_mostAlike_73 ?_
      refine qr_goto 76 14 (by decide) dX11_mostAlike_76 ?_
      exact h
    · have h := h.2 c27
      refine qr_aload_n 30 31 rfl (x := 1) rfl dX11_mostAlike_30 ?_
      refine qg_r 31 34 rfl ck11 4 (kk := 4) (by decide) (by decide +kernel) (by decide +kernel) rfl wm_381 rfl dX11_mostAlike_31 ?_
      refine qr_iload_n 34 35 rfl (x := x1) rfl dX11_mostAlike_34 ?_
      refine qr_aload_n 35 36 rfl (x := 1) rfl dX11_mostAlike_35 ?_
      refine qr_getF 36 39 rfl ck11 7 (by decide) (b := 50) (by decide +kernel) rfl (by decide +kernel) (by decide +kernel) wm_384 rfl dX11_mostAlike_36 ?_
      refine qr_getF 39 42 rfl ck7 2 (by decide) (b := 51) (by decide +kernel) rfl (by decide +kernel) (by decide +kernel) wm_173 rfl dX11_mostAlike_39 ?_
      refine qr_iload_n 42 43 rfl (x := x1) rfl dX11_mostAlike_42 ?_
      have hb1 := h.1
      have h := h.2
      refine qi_ld 43 44 rfl (N := 16) (by decide +kernel) (by decide +kernel) hb1.1 hb1.2 dX11_mostAlike_43 ?_
      refine qr_iload 44 46 rfl (x := x5) rfl dX11_mostAlike_44 ?_
      have hk2 := h.1
      have h := h.2
      refine qw_I 46 49 rfl (av := [qI x1, qI (M 51 x1), qI x5]) ca_X4_weightOf wm_798 wm_799 wm_797 ck4 hk2 rfl rfl (Nat.le_of_ble_eq_true rfl) dX11_mostAlike_46 h (fun v4 M3 h => ?_)
      refine qr_bipush 49 51 rfl (q_l32 _ rfl) (by decide) dX11_mostAlike_49 ?_
      refine qr_iadd 51 52 rfl dX11_mostAlike_51 ?_
      refine qn_i 52 (fun x6_5 e_x6_5 => ?_)
      have h := h x6_5 e_x6_5
      refine qr_istore 52 54 rfl (by decide) rfl rfl dX11_mostAlike_52 ?_
      refine qr_aload_n 54 55 rfl (x := x3) rfl dX11_mostAlike_54 ?_
      refine qr_iload 55 57 rfl (x := x6_5) rfl dX11_mostAlike_55 ?_
      refine qr_dup2 57 58 rfl rfl rfl dX11_mostAlike_57 ?_
      have hb6 := h.1
      have h := h.2
      refine qi_ld 58 59 rfl k3 rfl hb6.1 hb6.2 dX11_mostAlike_58 ?_
      refine qr_iconst 59 60 rfl (q_l32 _ rfl) dX11_mostAlike_59 ?_
      refine qr_iadd 60 61 rfl dX11_mostAlike_60 ?_
      have hb7 := h.1
      have h := h.2
      refine qi_st 61 62 rfl k3 rfl hb7.1 hb7.2 dX11_mostAlike_61 (fun M8 e_M8 => ?_)
      have h := h M8 e_M8
      refine qr_iload 62 64 rfl (x := x4) rfl dX11_mostAlike_62 ?_
      refine qr_aload_n 64 65 rfl (x := x3) rfl dX11_mostAlike_64 ?_
      refine qr_iload 65 67 rfl (x := x6_5) rfl dX11_mostAlike_65 ?_
      have hb9 := h.1
      have h := h.2
      refine qi_ld 67 68 rfl k3 rfl hb9.1 hb9.2 dX11_mostAlike_67 ?_
      refine qs_I 68 71 rfl (av := [qI x4, qI (M8 x3 x6_5)]) ca_J9_max_7cf53 wm_520 wm_1235 rfl rfl (Nat.le_of_ble_eq_true rfl) dX11_mostAlike_68 h (fun v11 M10 h => ?_)
      refine qr_istore 71 73 rfl (by decide) rfl rfl dX11_mostAlike_71 ?_
      refine qr_iinc 73 76 rfl (by decide) (x := x5) rfl rfl rfl dX11_mostAlike_73 ?_
      refine qr_goto 76 14 (by decide) dX11_mostAlike_76 ?_
      exact qr_cut 14 (ls' := [some (qR 1), some (qI x1), some (qI x2), some (qR x3), some (qI v11), some (qI (q_add x5 1)), none]) (And.intro rfl (And.intro rfl (And.intro rfl (And.intro rfl (And.intro rfl (And.intro rfl trivial)))))) h
theorem dX11_chance_0 : decode cX11_chance 0 = .ok (.iload_n 3, 1) := by decide +kernel
theorem dX11_chance_1 : decode cX11_chance 1 = .ok (.ifCond .lt 8, 3) := by decide +kernel
theorem dX11_chance_4 : decode cX11_chance 4 = .ok (.iload_n 3, 1) := by decide +kernel
theorem dX11_chance_5 : decode cX11_chance 5 = .ok (.iconst 1, 1) := by decide +kernel
theorem dX11_chance_6 : decode cX11_chance 6 = .ok (.if_icmp .le 6, 3) := by decide +kernel
theorem dX11_chance_9 : decode cX11_chance 9 = .ok (.bipush (-2), 2) := by decide +kernel
theorem dX11_chance_11 : decode cX11_chance 11 = .ok (.ireturn, 1) := by decide +kernel
theorem dX11_chance_12 : decode cX11_chance 12 = .ok (.iload_n 1, 1) := by decide +kernel
theorem dX11_chance_13 : decode cX11_chance 13 = .ok (.sipush (-9999), 3) := by decide +kernel
theorem dX11_chance_16 : decode cX11_chance 16 = .ok (.if_icmp .lt 19, 3) := by decide +kernel
theorem dX11_chance_19 : decode cX11_chance 19 = .ok (.iload_n 1, 1) := by decide +kernel
theorem dX11_chance_20 : decode cX11_chance 20 = .ok (.sipush 9999, 3) := by decide +kernel
theorem dX11_chance_23 : decode cX11_chance 23 = .ok (.if_icmp .gt 12, 3) := by decide +kernel
theorem dX11_chance_26 : decode cX11_chance 26 = .ok (.iload_n 2, 1) := by decide +kernel
theorem dX11_chance_27 : decode cX11_chance 27 = .ok (.ifCond .lt 8, 3) := by decide +kernel
theorem dX11_chance_30 : decode cX11_chance 30 = .ok (.iload_n 2, 1) := by decide +kernel
theorem dX11_chance_31 : decode cX11_chance 31 = .ok (.iconst 4, 1) := by decide +kernel
theorem dX11_chance_32 : decode cX11_chance 32 = .ok (.if_icmp .le 6, 3) := by decide +kernel
theorem dX11_chance_35 : decode cX11_chance 35 = .ok (.bipush (-3), 2) := by decide +kernel
theorem dX11_chance_37 : decode cX11_chance 37 = .ok (.ireturn, 1) := by decide +kernel
theorem dX11_chance_38 : decode cX11_chance 38 = .ok (.aload_n 0, 1) := by decide +kernel
theorem dX11_chance_39 : decode cX11_chance 39 = .ok (.bipush 6, 2) := by decide +kernel
theorem dX11_chance_41 : decode cX11_chance 41 = .ok (.invokevirtual 153, 3) := by decide +kernel
theorem dX11_chance_44 : decode cX11_chance 44 = .ok (.aload_n 0, 1) := by decide +kernel
theorem dX11_chance_45 : decode cX11_chance 45 = .ok (.getfield 84, 3) := by decide +kernel
theorem dX11_chance_48 : decode cX11_chance 48 = .ok (.aload_n 0, 1) := by decide +kernel
theorem dX11_chance_49 : decode cX11_chance 49 = .ok (.getfield 37, 3) := by decide +kernel
theorem dX11_chance_52 : decode cX11_chance 52 = .ok (.getfield 189, 3) := by decide +kernel
theorem dX11_chance_55 : decode cX11_chance 55 = .ok (.iload_n 2, 1) := by decide +kernel
theorem dX11_chance_56 : decode cX11_chance 56 = .ok (.iload_n 1, 1) := by decide +kernel
theorem dX11_chance_57 : decode cX11_chance 57 = .ok (.invokevirtual 419, 3) := by decide +kernel
theorem dX11_chance_60 : decode cX11_chance 60 = .ok (.istore 4, 2) := by decide +kernel
theorem dX11_chance_62 : decode cX11_chance 62 = .ok (.iload 4, 2) := by decide +kernel
theorem dX11_chance_64 : decode cX11_chance 64 = .ok (.iload_n 2, 1) := by decide +kernel
theorem dX11_chance_65 : decode cX11_chance 65 = .ok (.invokestatic 422, 3) := by decide +kernel
theorem dX11_chance_68 : decode cX11_chance 68 = .ok (.iload_n 3, 1) := by decide +kernel
theorem dX11_chance_69 : decode cX11_chance 69 = .ok (.invokestatic 425, 3) := by decide +kernel
theorem dX11_chance_72 : decode cX11_chance 72 = .ok (.ireturn, 1) := by decide +kernel
theorem bX11_chance_0 {d : Nat} {P : Int → q_Mem → Prop} {M : q_Mem} (x1 x2 x3 : Int) (h : ((x3 < 0) → P (-2) M) ∧ ((¬ (x3 < 0)) → ((x3 ≤ (1 : Int)) → ((x1 < ((-9999) : Int)) → P (-3) M) ∧ ((¬ (x1 < ((-9999) : Int))) → (((9999 : Int) < x1) → P (-3) M) ∧ ((¬ ((9999 : Int) < x1)) → ((x2 < 0) → P (-3) M) ∧ ((¬ (x2 < 0)) → ((x2 ≤ (4 : Int)) → q_kU yX11_need mX11_need d [qR 1, qI 6] M (fun M1 => q_kI yX8_drawsWorth mX8_drawsWorth d [qR 117, qI (M1 50 1), qI x2, qI x1] M1 (fun v3 M2 => q_kI yX11_allDraws mX11_allDraws d [qI x2] M2 (fun v5 M4 => q_kI yX11_inLowestTerms mX11_inLowestTerms d [qI v3, qI v5, qI x3] M4 (fun v7 M6 => P v7 M6))))) ∧ ((¬ (x2 ≤ (4 : Int))) → P (-3) M))))) ∧ ((¬ (x3 ≤ (1 : Int))) → P (-2) M))) : q_v mX11_chance d (qPI P) M 0 [some (qR 1), some (qI x1), some (qI x2), some (qI x3), none] [] := by
  refine qr_iload_n 0 1 rfl (x := x3) rfl dX11_chance_0 ?_
  refine qr_if_lt 1 4 9 rfl (by decide) dX11_chance_1 (fun c1 => ?_) (fun c1 => ?_)
  · have h := h.1 c1
    refine qr_bipush 9 11 rfl (q_l32 _ rfl) (by decide) dX11_chance_9 ?_
    exact qe_i 11 rfl dX11_chance_11 h
  · have h := h.2 c1
    refine qr_iload_n 4 5 rfl (x := x3) rfl dX11_chance_4 ?_
    refine qr_iconst 5 6 rfl (q_l32 _ rfl) dX11_chance_5 ?_
    refine qr_icmp_le 6 9 12 rfl (by decide) dX11_chance_6 (fun c6 => ?_) (fun c6 => ?_)
    · have h := h.1 c6
      refine qr_iload_n 12 13 rfl (x := x1) rfl dX11_chance_12 ?_
      refine qr_sipush 13 16 rfl (q_l32 _ rfl) (by decide) dX11_chance_13 ?_
      refine qr_icmp_lt 16 19 35 rfl (by decide) dX11_chance_16 (fun c16 => ?_) (fun c16 => ?_)
      · have h := h.1 c16
        refine qr_bipush 35 37 rfl (q_l32 _ rfl) (by decide) dX11_chance_35 ?_
        exact qe_i 37 rfl dX11_chance_37 h
      · have h := h.2 c16
        refine qr_iload_n 19 20 rfl (x := x1) rfl dX11_chance_19 ?_
        refine qr_sipush 20 23 rfl (q_l32 _ rfl) (by decide) dX11_chance_20 ?_
        refine qr_icmp_gt 23 26 35 rfl (by decide) dX11_chance_23 (fun c23 => ?_) (fun c23 => ?_)
        · have h := h.1 c23
          refine qr_bipush 35 37 rfl (q_l32 _ rfl) (by decide) dX11_chance_35 ?_
          exact qe_i 37 rfl dX11_chance_37 h
        · have h := h.2 c23
          refine qr_iload_n 26 27 rfl (x := x2) rfl dX11_chance_26 ?_
          refine qr_if_lt 27 30 35 rfl (by decide) dX11_chance_27 (fun c27 => ?_) (fun c27 => ?_)
          · have h := h.1 c27
            refine qr_bipush 35 37 rfl (q_l32 _ rfl) (by decide) dX11_chance_35 ?_
            exact qe_i 37 rfl dX11_chance_37 h
          · have h := h.2 c27
            refine qr_iload_n 30 31 rfl (x := x2) rfl dX11_chance_30 ?_
            refine qr_iconst 31 32 rfl (q_l32 _ rfl) dX11_chance_31 ?_
            refine qr_icmp_le 32 35 38 rfl (by decide) dX11_chance_32 (fun c32 => ?_) (fun c32 => ?_)
            · have h := h.1 c32
              refine qr_aload_n 38 39 rfl (x := 1) rfl dX11_chance_38 ?_
              refine qr_bipush 39 41 rfl (q_l32 _ rfl) (by decide) dX11_chance_39 ?_
              refine qw_U 41 44 rfl (av := [qI 6]) ca_X11_need wm_791 wp_35 wm_789 ck11 (by decide +kernel) rfl rfl (Nat.le_of_ble_eq_true rfl) dX11_chance_41 h (fun M1 h => ?_)
              refine qr_aload_n 44 45 rfl (x := 1) rfl dX11_chance_44 ?_
              refine qr_getF 45 48 rfl ck11 17 (by decide) (b := 117) (by decide +kernel) rfl (by decide +kernel) (by decide +kernel) wm_394 rfl dX11_chance_45 ?_
              refine qr_aload_n 48 49 rfl (x := 1) rfl dX11_chance_48 ?_
              refine qr_getF 49 52 rfl ck11 7 (by decide) (b := 50) (by decide +kernel) rfl (by decide +kernel) (by decide +kernel) wm_384 rfl dX11_chance_49 ?_
              refine qg_i 52 55 rfl ck7 1 (kk := 1) (by decide) (by decide +kernel) (by decide +kernel) rfl wm_170 rfl dX11_chance_52 ?_
              refine qr_iload_n 55 56 rfl (x := x2) rfl dX11_chance_55 ?_
              refine qr_iload_n 56 57 rfl (x := x1) rfl dX11_chance_56 ?_
              refine qw_I 57 60 rfl (av := [qI (M1 50 1), qI x2, qI x1]) ca_X8_drawsWorth wm_1241 wm_1242 wm_1240 ck8 (by decide +kernel) rfl rfl (Nat.le_of_ble_eq_true rfl) dX11_chance_57 h (fun v3 M2 h => ?_)
              refine qr_istore 60 62 rfl (by decide) rfl rfl dX11_chance_60 ?_
              refine qr_iload 62 64 rfl (x := v3) rfl dX11_chance_62 ?_
              refine qr_iload_n 64 65 rfl (x := x2) rfl dX11_chance_64 ?_
              refine qs_I 65 68 rfl (av := [qI x2]) ca_X11_allDraws wm_1254 wm_1253 rfl rfl (Nat.le_of_ble_eq_true rfl) dX11_chance_65 h (fun v5 M4 h => ?_)
              refine qr_iload_n 68 69 rfl (x := x3) rfl dX11_chance_68 ?_
              refine qs_I 69 72 rfl (av := [qI v3, qI v5, qI x3]) ca_X11_inLowestTerms wm_1257 wm_1256 rfl rfl (Nat.le_of_ble_eq_true rfl) dX11_chance_69 h (fun v7 M6 h => ?_)
              exact qe_i 72 rfl dX11_chance_72 h
            · have h := h.2 c32
              refine qr_bipush 35 37 rfl (q_l32 _ rfl) (by decide) dX11_chance_35 ?_
              exact qe_i 37 rfl dX11_chance_37 h
    · have h := h.2 c6
      refine qr_bipush 9 11 rfl (q_l32 _ rfl) (by decide) dX11_chance_9 ?_
      exact qe_i 11 rfl dX11_chance_11 h
theorem dX11_mean_0 : decode cX11_mean 0 = .ok (.iload_n 2, 1) := by decide +kernel
theorem dX11_mean_1 : decode cX11_mean 1 = .ok (.ifCond .lt 8, 3) := by decide +kernel
theorem dX11_mean_4 : decode cX11_mean 4 = .ok (.iload_n 2, 1) := by decide +kernel
theorem dX11_mean_5 : decode cX11_mean 5 = .ok (.iconst 1, 1) := by decide +kernel
theorem dX11_mean_6 : decode cX11_mean 6 = .ok (.if_icmp .le 6, 3) := by decide +kernel
theorem dX11_mean_9 : decode cX11_mean 9 = .ok (.ldc 152, 2) := by decide +kernel
theorem dX11_mean_11 : decode cX11_mean 11 = .ok (.ireturn, 1) := by decide +kernel
theorem dX11_mean_12 : decode cX11_mean 12 = .ok (.iload_n 1, 1) := by decide +kernel
theorem dX11_mean_13 : decode cX11_mean 13 = .ok (.ifCond .lt 8, 3) := by decide +kernel
theorem dX11_mean_16 : decode cX11_mean 16 = .ok (.iload_n 1, 1) := by decide +kernel
theorem dX11_mean_17 : decode cX11_mean 17 = .ok (.iconst 4, 1) := by decide +kernel
theorem dX11_mean_18 : decode cX11_mean 18 = .ok (.if_icmp .le 7, 3) := by decide +kernel
theorem dX11_mean_21 : decode cX11_mean 21 = .ok (.ldc_w 428, 3) := by decide +kernel
theorem dX11_mean_24 : decode cX11_mean 24 = .ok (.ireturn, 1) := by decide +kernel
theorem dX11_mean_25 : decode cX11_mean 25 = .ok (.aload_n 0, 1) := by decide +kernel
theorem dX11_mean_26 : decode cX11_mean 26 = .ok (.bipush 6, 2) := by decide +kernel
theorem dX11_mean_28 : decode cX11_mean 28 = .ok (.invokevirtual 153, 3) := by decide +kernel
theorem dX11_mean_31 : decode cX11_mean 31 = .ok (.aload_n 0, 1) := by decide +kernel
theorem dX11_mean_32 : decode cX11_mean 32 = .ok (.getfield 84, 3) := by decide +kernel
theorem dX11_mean_35 : decode cX11_mean 35 = .ok (.aload_n 0, 1) := by decide +kernel
theorem dX11_mean_36 : decode cX11_mean 36 = .ok (.getfield 37, 3) := by decide +kernel
theorem dX11_mean_39 : decode cX11_mean 39 = .ok (.getfield 189, 3) := by decide +kernel
theorem dX11_mean_42 : decode cX11_mean 42 = .ok (.iload_n 1, 1) := by decide +kernel
theorem dX11_mean_43 : decode cX11_mean 43 = .ok (.invokevirtual 429, 3) := by decide +kernel
theorem dX11_mean_46 : decode cX11_mean 46 = .ok (.istore_n 3, 1) := by decide +kernel
theorem dX11_mean_47 : decode cX11_mean 47 = .ok (.iload_n 3, 1) := by decide +kernel
theorem dX11_mean_48 : decode cX11_mean 48 = .ok (.iload_n 1, 1) := by decide +kernel
theorem dX11_mean_49 : decode cX11_mean 49 = .ok (.invokestatic 422, 3) := by decide +kernel
theorem dX11_mean_52 : decode cX11_mean 52 = .ok (.iload_n 2, 1) := by decide +kernel
theorem dX11_mean_53 : decode cX11_mean 53 = .ok (.invokestatic 425, 3) := by decide +kernel
theorem dX11_mean_56 : decode cX11_mean 56 = .ok (.ireturn, 1) := by decide +kernel
theorem bX11_mean_0 {d : Nat} {P : Int → q_Mem → Prop} {M : q_Mem} (x1 x2 : Int) (h : ((x2 < 0) → P (-99000002) M) ∧ ((¬ (x2 < 0)) → ((x2 ≤ (1 : Int)) → ((x1 < 0) → P (-99000003) M) ∧ ((¬ (x1 < 0)) → ((x1 ≤ (4 : Int)) → q_kU yX11_need mX11_need d [qR 1, qI 6] M (fun M1 => q_kI yX8_worthOfDraws mX8_worthOfDraws d [qR 117, qI (M1 50 1), qI x1] M1 (fun v3 M2 => q_kI yX11_allDraws mX11_allDraws d [qI x1] M2 (fun v5 M4 => q_kI yX11_inLowestTerms mX11_inLowestTerms d [qI v3, qI v5, qI x2] M4 (fun v7 M6 => P v7 M6))))) ∧ ((¬ (x1 ≤ (4 : Int))) → P (-99000003) M))) ∧ ((¬ (x2 ≤ (1 : Int))) → P (-99000002) M))) : q_v mX11_mean d (qPI P) M 0 [some (qR 1), some (qI x1), some (qI x2), none] [] := by
  refine qr_iload_n 0 1 rfl (x := x2) rfl dX11_mean_0 ?_
  refine qr_if_lt 1 4 9 rfl (by decide) dX11_mean_1 (fun c1 => ?_) (fun c1 => ?_)
  · have h := h.1 c1
    refine qr_ldc 9 11 rfl (v := (-99000002)) (q_l32 _ rfl) wm_788 dX11_mean_9 ?_
    exact qe_i 11 rfl dX11_mean_11 h
  · have h := h.2 c1
    refine qr_iload_n 4 5 rfl (x := x2) rfl dX11_mean_4 ?_
    refine qr_iconst 5 6 rfl (q_l32 _ rfl) dX11_mean_5 ?_
    refine qr_icmp_le 6 9 12 rfl (by decide) dX11_mean_6 (fun c6 => ?_) (fun c6 => ?_)
    · have h := h.1 c6
      refine qr_iload_n 12 13 rfl (x := x1) rfl dX11_mean_12 ?_
      refine qr_if_lt 13 16 21 rfl (by decide) dX11_mean_13 (fun c13 => ?_) (fun c13 => ?_)
      · have h := h.1 c13
        refine qr_ldc_w 21 24 rfl (v := (-99000003)) (q_l32 _ rfl) wm_1263 dX11_mean_21 ?_
        exact qe_i 24 rfl dX11_mean_24 h
      · have h := h.2 c13
        refine qr_iload_n 16 17 rfl (x := x1) rfl dX11_mean_16 ?_
        refine qr_iconst 17 18 rfl (q_l32 _ rfl) dX11_mean_17 ?_
        refine qr_icmp_le 18 21 25 rfl (by decide) dX11_mean_18 (fun c18 => ?_) (fun c18 => ?_)
        · have h := h.1 c18
          refine qr_aload_n 25 26 rfl (x := 1) rfl dX11_mean_25 ?_
          refine qr_bipush 26 28 rfl (q_l32 _ rfl) (by decide) dX11_mean_26 ?_
          refine qw_U 28 31 rfl (av := [qI 6]) ca_X11_need wm_791 wp_35 wm_789 ck11 (by decide +kernel) rfl rfl (Nat.le_of_ble_eq_true rfl) dX11_mean_28 h (fun M1 h => ?_)
          refine qr_aload_n 31 32 rfl (x := 1) rfl dX11_mean_31 ?_
          refine qr_getF 32 35 rfl ck11 17 (by decide) (b := 117) (by decide +kernel) rfl (by decide +kernel) (by decide +kernel) wm_394 rfl dX11_mean_32 ?_
          refine qr_aload_n 35 36 rfl (x := 1) rfl dX11_mean_35 ?_
          refine qr_getF 36 39 rfl ck11 7 (by decide) (b := 50) (by decide +kernel) rfl (by decide +kernel) (by decide +kernel) wm_384 rfl dX11_mean_36 ?_
          refine qg_i 39 42 rfl ck7 1 (kk := 1) (by decide) (by decide +kernel) (by decide +kernel) rfl wm_170 rfl dX11_mean_39 ?_
          refine qr_iload_n 42 43 rfl (x := x1) rfl dX11_mean_42 ?_
          refine qw_I 43 46 rfl (av := [qI (M1 50 1), qI x1]) ca_X8_worthOfDraws wm_1265 wm_1266 wm_1264 ck8 (by decide +kernel) rfl rfl (Nat.le_of_ble_eq_true rfl) dX11_mean_43 h (fun v3 M2 h => ?_)
          refine qr_istore_n 46 47 rfl (by decide) rfl rfl dX11_mean_46 ?_
          refine qr_iload_n 47 48 rfl (x := v3) rfl dX11_mean_47 ?_
          refine qr_iload_n 48 49 rfl (x := x1) rfl dX11_mean_48 ?_
          refine qs_I 49 52 rfl (av := [qI x1]) ca_X11_allDraws wm_1254 wm_1253 rfl rfl (Nat.le_of_ble_eq_true rfl) dX11_mean_49 h (fun v5 M4 h => ?_)
          refine qr_iload_n 52 53 rfl (x := x2) rfl dX11_mean_52 ?_
          refine qs_I 53 56 rfl (av := [qI v3, qI v5, qI x2]) ca_X11_inLowestTerms wm_1257 wm_1256 rfl rfl (Nat.le_of_ble_eq_true rfl) dX11_mean_53 h (fun v7 M6 h => ?_)
          exact qe_i 56 rfl dX11_mean_56 h
        · have h := h.2 c18
          refine qr_ldc_w 21 24 rfl (v := (-99000003)) (q_l32 _ rfl) wm_1263 dX11_mean_21 ?_
          exact qe_i 24 rfl dX11_mean_24 h
    · have h := h.2 c6
      refine qr_ldc 9 11 rfl (v := (-99000002)) (q_l32 _ rfl) wm_788 dX11_mean_9 ?_
      exact qe_i 11 rfl dX11_mean_11 h
theorem dX11_allDraws_0 : decode cX11_allDraws 0 = .ok (.iconst 1, 1) := by decide +kernel
theorem dX11_allDraws_1 : decode cX11_allDraws 1 = .ok (.istore_n 1, 1) := by decide +kernel
theorem dX11_allDraws_2 : decode cX11_allDraws 2 = .ok (.iconst 0, 1) := by decide +kernel
theorem dX11_allDraws_3 : decode cX11_allDraws 3 = .ok (.istore_n 2, 1) := by decide +kernel
theorem dX11_allDraws_4 : decode cX11_allDraws 4 = .ok (.iload_n 2, 1) := by decide +kernel
theorem dX11_allDraws_5 : decode cX11_allDraws 5 = .ok (.iload_n 0, 1) := by decide +kernel
theorem dX11_allDraws_6 : decode cX11_allDraws 6 = .ok (.if_icmp .ge 14, 3) := by decide +kernel
theorem dX11_allDraws_9 : decode cX11_allDraws 9 = .ok (.iload_n 1, 1) := by decide +kernel
theorem dX11_allDraws_10 : decode cX11_allDraws 10 = .ok (.bipush 10, 2) := by decide +kernel
theorem dX11_allDraws_12 : decode cX11_allDraws 12 = .ok (.imul, 1) := by decide +kernel
theorem dX11_allDraws_13 : decode cX11_allDraws 13 = .ok (.istore_n 1, 1) := by decide +kernel
theorem dX11_allDraws_14 : decode cX11_allDraws 14 = .ok (.iinc 2 1, 3) := by decide +kernel
theorem dX11_allDraws_17 : decode cX11_allDraws 17 = .ok (.goto (-13), 3) := by decide +kernel
theorem dX11_allDraws_20 : decode cX11_allDraws 20 = .ok (.iload_n 1, 1) := by decide +kernel
theorem dX11_allDraws_21 : decode cX11_allDraws 21 = .ok (.ireturn, 1) := by decide +kernel
theorem bX11_allDraws_0 {d : Nat} {P : Int → q_Mem → Prop} {M : q_Mem} (x0 : Int) (h : q_v mX11_allDraws d (qPI P) M 4 [some (qI x0), some (qI 1), some (qI 0)] []) : q_v mX11_allDraws d (qPI P) M 0 [some (qI x0), none, none] [] := by
  refine qr_iconst 0 1 rfl (q_l32 _ rfl) dX11_allDraws_0 ?_
  refine qr_istore_n 1 2 rfl (by decide) rfl rfl dX11_allDraws_1 ?_
  refine qr_iconst 2 3 rfl (q_l32 _ rfl) dX11_allDraws_2 ?_
  refine qr_istore_n 3 4 rfl (by decide) rfl rfl dX11_allDraws_3 ?_
  exact h
theorem bX11_allDraws_4 {d : Nat} {P : Int → q_Mem → Prop} {M : q_Mem} (x0 x1 x2 : Int) (h : ((x0 ≤ x2) → P x1 M) ∧ ((¬ (x0 ≤ x2)) → ∀ x1_1 : Int, x1_1 = (q_mul x1 10) → q_v mX11_allDraws d (qPI P) M 4 [some (qI x0), some (qI x1_1), some (qI (q_add x2 1))] [])) : q_v mX11_allDraws d (qPI P) M 4 [some (qI x0), some (qI x1), some (qI x2)] [] := by
  refine qr_iload_n 4 5 rfl (x := x2) rfl dX11_allDraws_4 ?_
  refine qr_iload_n 5 6 rfl (x := x0) rfl dX11_allDraws_5 ?_
  refine qr_icmp_ge 6 9 20 rfl (by decide) dX11_allDraws_6 (fun c6 => ?_) (fun c6 => ?_)
  · have h := h.1 c6
    refine qr_iload_n 20 21 rfl (x := x1) rfl dX11_allDraws_20 ?_
    exact qe_i 21 rfl dX11_allDraws_21 h
  · have h := h.2 c6
    refine qr_iload_n 9 10 rfl (x := x1) rfl dX11_allDraws_9 ?_
    refine qr_bipush 10 12 rfl (q_l32 _ rfl) (by decide) dX11_allDraws_10 ?_
    refine qr_imul 12 13 rfl dX11_allDraws_12 ?_
    refine qn_i 13 (fun x1_1 e_x1_1 => ?_)
    have h := h x1_1 e_x1_1
    refine qr_istore_n 13 14 rfl (by decide) rfl rfl dX11_allDraws_13 ?_
    refine qr_iinc 14 17 rfl (by decide) (x := x2) rfl rfl rfl dX11_allDraws_14 ?_
    refine qr_goto 17 4 (by decide) dX11_allDraws_17 ?_
    exact h
theorem dX11_inLowestTerms_0 : decode cX11_inLowestTerms 0 = .ok (.iload_n 1, 1) := by decide +kernel
theorem dX11_inLowestTerms_1 : decode cX11_inLowestTerms 1 = .ok (.istore_n 3, 1) := by decide +kernel
theorem dX11_inLowestTerms_2 : decode cX11_inLowestTerms 2 = .ok (.iload_n 0, 1) := by decide +kernel
theorem dX11_inLowestTerms_3 : decode cX11_inLowestTerms 3 = .ok (.invokestatic 353, 3) := by decide +kernel
theorem dX11_inLowestTerms_6 : decode cX11_inLowestTerms 6 = .ok (.istore 4, 2) := by decide +kernel
theorem dX11_inLowestTerms_8 : decode cX11_inLowestTerms 8 = .ok (.iconst 0, 1) := by decide +kernel
theorem dX11_inLowestTerms_9 : decode cX11_inLowestTerms 9 = .ok (.istore 5, 2) := by decide +kernel
theorem dX11_inLowestTerms_11 : decode cX11_inLowestTerms 11 = .ok (.iload 5, 2) := by decide +kernel
theorem dX11_inLowestTerms_13 : decode cX11_inLowestTerms 13 = .ok (.bipush 64, 2) := by decide +kernel
theorem dX11_inLowestTerms_15 : decode cX11_inLowestTerms 15 = .ok (.if_icmp .ge 27, 3) := by decide +kernel
theorem dX11_inLowestTerms_18 : decode cX11_inLowestTerms 18 = .ok (.iload 4, 2) := by decide +kernel
theorem dX11_inLowestTerms_20 : decode cX11_inLowestTerms 20 = .ok (.ifCond .eq 22, 3) := by decide +kernel
theorem dX11_inLowestTerms_23 : decode cX11_inLowestTerms 23 = .ok (.iload_n 3, 1) := by decide +kernel
theorem dX11_inLowestTerms_24 : decode cX11_inLowestTerms 24 = .ok (.iload 4, 2) := by decide +kernel
theorem dX11_inLowestTerms_26 : decode cX11_inLowestTerms 26 = .ok (.irem, 1) := by decide +kernel
theorem dX11_inLowestTerms_27 : decode cX11_inLowestTerms 27 = .ok (.istore 6, 2) := by decide +kernel
theorem dX11_inLowestTerms_29 : decode cX11_inLowestTerms 29 = .ok (.iload 4, 2) := by decide +kernel
theorem dX11_inLowestTerms_31 : decode cX11_inLowestTerms 31 = .ok (.istore_n 3, 1) := by decide +kernel
theorem dX11_inLowestTerms_32 : decode cX11_inLowestTerms 32 = .ok (.iload 6, 2) := by decide +kernel
theorem dX11_inLowestTerms_34 : decode cX11_inLowestTerms 34 = .ok (.istore 4, 2) := by decide +kernel
theorem dX11_inLowestTerms_36 : decode cX11_inLowestTerms 36 = .ok (.iinc 5 1, 3) := by decide +kernel
theorem dX11_inLowestTerms_39 : decode cX11_inLowestTerms 39 = .ok (.goto (-28), 3) := by decide +kernel
theorem dX11_inLowestTerms_42 : decode cX11_inLowestTerms 42 = .ok (.iload_n 3, 1) := by decide +kernel
theorem dX11_inLowestTerms_43 : decode cX11_inLowestTerms 43 = .ok (.iconst 1, 1) := by decide +kernel
theorem dX11_inLowestTerms_44 : decode cX11_inLowestTerms 44 = .ok (.invokestatic 416, 3) := by decide +kernel
theorem dX11_inLowestTerms_47 : decode cX11_inLowestTerms 47 = .ok (.istore 5, 2) := by decide +kernel
theorem dX11_inLowestTerms_49 : decode cX11_inLowestTerms 49 = .ok (.iload_n 2, 1) := by decide +kernel
theorem dX11_inLowestTerms_50 : decode cX11_inLowestTerms 50 = .ok (.ifCond .ne 10, 3) := by decide +kernel
theorem dX11_inLowestTerms_53 : decode cX11_inLowestTerms 53 = .ok (.iload_n 0, 1) := by decide +kernel
theorem dX11_inLowestTerms_54 : decode cX11_inLowestTerms 54 = .ok (.iload 5, 2) := by decide +kernel
theorem dX11_inLowestTerms_56 : decode cX11_inLowestTerms 56 = .ok (.idiv, 1) := by decide +kernel
theorem dX11_inLowestTerms_57 : decode cX11_inLowestTerms 57 = .ok (.goto 7, 3) := by decide +kernel
theorem dX11_inLowestTerms_60 : decode cX11_inLowestTerms 60 = .ok (.iload_n 1, 1) := by decide +kernel
theorem dX11_inLowestTerms_61 : decode cX11_inLowestTerms 61 = .ok (.iload 5, 2) := by decide +kernel
theorem dX11_inLowestTerms_63 : decode cX11_inLowestTerms 63 = .ok (.idiv, 1) := by decide +kernel
theorem dX11_inLowestTerms_64 : decode cX11_inLowestTerms 64 = .ok (.ireturn, 1) := by decide +kernel
theorem bX11_inLowestTerms_0 {d : Nat} {P : Int → q_Mem → Prop} {M : q_Mem} (x0 x1 x2 : Int) (h : q_kI yJ9_abs_0f7a4 mJ9_abs_0f7a4 d [qI x0] M (fun v2 M1 => q_v mX11_inLowestTerms d (qPI P) M1 11 [some (qI x0), some (qI x1), some (qI x2), some (qI x1), some (qI v2), some (qI 0), none] [])) : q_v mX11_inLowestTerms d (qPI P) M 0 [some (qI x0), some (qI x1), some (qI x2), none, none, none, none] [] := by
  refine qr_iload_n 0 1 rfl (x := x1) rfl dX11_inLowestTerms_0 ?_
  refine qr_istore_n 1 2 rfl (by decide) rfl rfl dX11_inLowestTerms_1 ?_
  refine qr_iload_n 2 3 rfl (x := x0) rfl dX11_inLowestTerms_2 ?_
  refine qs_I 3 6 rfl (av := [qI x0]) ca_J9_abs_0f7a4 wm_835 wm_1124 rfl rfl (Nat.le_of_ble_eq_true rfl) dX11_inLowestTerms_3 h (fun v2 M1 h => ?_)
  refine qr_istore 6 8 rfl (by decide) rfl rfl dX11_inLowestTerms_6 ?_
  refine qr_iconst 8 9 rfl (q_l32 _ rfl) dX11_inLowestTerms_8 ?_
  refine qr_istore 9 11 rfl (by decide) rfl rfl dX11_inLowestTerms_9 ?_
  exact h
theorem bX11_inLowestTerms_11 {d : Nat} {P : Int → q_Mem → Prop} {M : q_Mem} (x0 x1 x2 x3 x4 x5 : Int) (h : (((64 : Int) ≤ x5) → q_v mX11_inLowestTerms d (qPI P) M 42 [some (qI x0), some (qI x1), some (qI x2), some (qI x3), none, none, none] []) ∧ ((¬ ((64 : Int) ≤ x5)) → ((x4 = 0) → q_v mX11_inLowestTerms d (qPI P) M 42 [some (qI x0), some (qI x1), some (qI x2), some (qI x3), none, none, none] []) ∧ ((¬ (x4 = 0)) → x4 ≠ 0 ∧ (∀ x6_1 : Int, x6_1 = (q_rem x3 x4) → q_v mX11_inLowestTerms d (qPI P) M 11 [some (qI x0), some (qI x1), some (qI x2), some (qI x4), some (qI x6_1), some (qI (q_add x5 1)), none] [])))) : q_v mX11_inLowestTerms d (qPI P) M 11 [some (qI x0), some (qI x1), some (qI x2), some (qI x3), some (qI x4), some (qI x5), none] [] := by
  refine qr_iload 11 13 rfl (x := x5) rfl dX11_inLowestTerms_11 ?_
  refine qr_bipush 13 15 rfl (q_l32 _ rfl) (by decide) dX11_inLowestTerms_13 ?_
  refine qr_icmp_ge 15 18 42 rfl (by decide) dX11_inLowestTerms_15 (fun c15 => ?_) (fun c15 => ?_)
  · have h := h.1 c15
    exact qr_cut 42 (ls' := [some (qI x0), some (qI x1), some (qI x2), some (qI x3), none, none, none]) (And.intro rfl (And.intro rfl (And.intro rfl (And.intro rfl trivial)))) h
  · have h := h.2 c15
    refine qr_iload 18 20 rfl (x := x4) rfl dX11_inLowestTerms_18 ?_
    refine qr_if_eq 20 23 42 rfl (by decide) dX11_inLowestTerms_20 (fun c20 => ?_) (fun c20 => ?_)
    · have h := h.1 c20
      exact qr_cut 42 (ls' := [some (qI x0), some (qI x1), some (qI x2), some (qI x3), none, none, none]) (And.intro rfl (And.intro rfl (And.intro rfl (And.intro rfl trivial)))) h
    · have h := h.2 c20
      refine qr_iload_n 23 24 rfl (x := x3) rfl dX11_inLowestTerms_23 ?_
      refine qr_iload 24 26 rfl (x := x4) rfl dX11_inLowestTerms_24 ?_
      refine qr_irem 26 27 rfl h.1 dX11_inLowestTerms_26 ?_
      have h := h.2
      refine qn_i 27 (fun x6_1 e_x6_1 => ?_)
      have h := h x6_1 e_x6_1
      refine qr_istore 27 29 rfl (by decide) rfl rfl dX11_inLowestTerms_27 ?_
      refine qr_iload 29 31 rfl (x := x4) rfl dX11_inLowestTerms_29 ?_
      refine qr_istore_n 31 32 rfl (by decide) rfl rfl dX11_inLowestTerms_31 ?_
      refine qr_iload 32 34 rfl (x := x6_1) rfl dX11_inLowestTerms_32 ?_
      refine qr_istore 34 36 rfl (by decide) rfl rfl dX11_inLowestTerms_34 ?_
      refine qr_iinc 36 39 rfl (by decide) (x := x5) rfl rfl rfl dX11_inLowestTerms_36 ?_
      refine qr_goto 39 11 (by decide) dX11_inLowestTerms_39 ?_
      exact qr_cut 11 (ls' := [some (qI x0), some (qI x1), some (qI x2), some (qI x4), some (qI x6_1), some (qI (q_add x5 1)), none]) (And.intro rfl (And.intro rfl (And.intro rfl (And.intro rfl (And.intro rfl (And.intro rfl trivial)))))) h
theorem bX11_inLowestTerms_42 {d : Nat} {P : Int → q_Mem → Prop} {M : q_Mem} (x0 x1 x2 x3 : Int) (h : q_kI yJ9_max_7cf53 mJ9_max_7cf53 d [qI x3, qI 1] M (fun v2 M1 => ((¬ x2 = 0) → v2 ≠ 0 ∧ (P (q_div x1 v2) M1)) ∧ ((x2 = 0) → v2 ≠ 0 ∧ (P (q_div x0 v2) M1)))) : q_v mX11_inLowestTerms d (qPI P) M 42 [some (qI x0), some (qI x1), some (qI x2), some (qI x3), none, none, none] [] := by
  refine qr_iload_n 42 43 rfl (x := x3) rfl dX11_inLowestTerms_42 ?_
  refine qr_iconst 43 44 rfl (q_l32 _ rfl) dX11_inLowestTerms_43 ?_
  refine qs_I 44 47 rfl (av := [qI x3, qI 1]) ca_J9_max_7cf53 wm_520 wm_1235 rfl rfl (Nat.le_of_ble_eq_true rfl) dX11_inLowestTerms_44 h (fun v2 M1 h => ?_)
  refine qr_istore 47 49 rfl (by decide) rfl rfl dX11_inLowestTerms_47 ?_
  refine qr_iload_n 49 50 rfl (x := x2) rfl dX11_inLowestTerms_49 ?_
  refine qr_if_ne 50 53 60 rfl (by decide) dX11_inLowestTerms_50 (fun c50 => ?_) (fun c50 => ?_)
  · have h := h.1 c50
    refine qr_iload_n 60 61 rfl (x := x1) rfl dX11_inLowestTerms_60 ?_
    refine qr_iload 61 63 rfl (x := v2) rfl dX11_inLowestTerms_61 ?_
    refine qr_idiv 63 64 rfl h.1 dX11_inLowestTerms_63 ?_
    have h := h.2
    exact qe_i 64 rfl dX11_inLowestTerms_64 h
  · have h := h.2 c50
    refine qr_iload_n 53 54 rfl (x := x0) rfl dX11_inLowestTerms_53 ?_
    refine qr_iload 54 56 rfl (x := v2) rfl dX11_inLowestTerms_54 ?_
    refine qr_idiv 56 57 rfl h.1 dX11_inLowestTerms_56 ?_
    have h := h.2
    refine qr_goto 57 64 (by decide) dX11_inLowestTerms_57 ?_
    exact qe_i 64 rfl dX11_inLowestTerms_64 h
theorem dX11_numbers_0 : decode cX11_numbers 0 = .ok (.iload_n 1, 1) := by decide +kernel
theorem dX11_numbers_1 : decode cX11_numbers 1 = .ok (.invokestatic 244, 3) := by decide +kernel
theorem dX11_numbers_4 : decode cX11_numbers 4 = .ok (.ifCond .eq 12, 3) := by decide +kernel
theorem dX11_numbers_7 : decode cX11_numbers 7 = .ok (.iload_n 2, 1) := by decide +kernel
theorem dX11_numbers_8 : decode cX11_numbers 8 = .ok (.ifCond .lt 8, 3) := by decide +kernel
theorem dX11_numbers_11 : decode cX11_numbers 11 = .ok (.iload_n 2, 1) := by decide +kernel
theorem dX11_numbers_12 : decode cX11_numbers 12 = .ok (.iconst 4, 1) := by decide +kernel
theorem dX11_numbers_13 : decode cX11_numbers 13 = .ok (.if_icmp .lt 6, 3) := by decide +kernel
theorem dX11_numbers_16 : decode cX11_numbers 16 = .ok (.bipush (-2), 2) := by decide +kernel
theorem dX11_numbers_18 : decode cX11_numbers 18 = .ok (.ireturn, 1) := by decide +kernel
theorem dX11_numbers_19 : decode cX11_numbers 19 = .ok (.iload_n 3, 1) := by decide +kernel
theorem dX11_numbers_20 : decode cX11_numbers 20 = .ok (.ifCond .lt 9, 3) := by decide +kernel
theorem dX11_numbers_23 : decode cX11_numbers 23 = .ok (.iload_n 3, 1) := by decide +kernel
theorem dX11_numbers_24 : decode cX11_numbers 24 = .ok (.bipush 40, 2) := by decide +kernel
theorem dX11_numbers_26 : decode cX11_numbers 26 = .ok (.if_icmp .le 6, 3) := by decide +kernel
theorem dX11_numbers_29 : decode cX11_numbers 29 = .ok (.bipush (-3), 2) := by decide +kernel
theorem dX11_numbers_31 : decode cX11_numbers 31 = .ok (.ireturn, 1) := by decide +kernel
theorem dX11_numbers_32 : decode cX11_numbers 32 = .ok (.aload_n 0, 1) := by decide +kernel
theorem dX11_numbers_33 : decode cX11_numbers 33 = .ok (.getfield 59, 3) := by decide +kernel
theorem dX11_numbers_36 : decode cX11_numbers 36 = .ok (.iload_n 1, 1) := by decide +kernel
theorem dX11_numbers_37 : decode cX11_numbers 37 = .ok (.aaload, 1) := by decide +kernel
theorem dX11_numbers_38 : decode cX11_numbers 38 = .ok (.iload_n 2, 1) := by decide +kernel
theorem dX11_numbers_39 : decode cX11_numbers 39 = .ok (.iload_n 3, 1) := by decide +kernel
theorem dX11_numbers_40 : decode cX11_numbers 40 = .ok (.invokevirtual 432, 3) := by decide +kernel
theorem dX11_numbers_43 : decode cX11_numbers 43 = .ok (.iconst 0, 1) := by decide +kernel
theorem dX11_numbers_44 : decode cX11_numbers 44 = .ok (.ireturn, 1) := by decide +kernel
theorem bX11_numbers_0 {d : Nat} {P : Int → q_Mem → Prop} {M : q_Mem} (x1 x2 x3 : Int) (h : q_kI yX11_hasTray mX11_hasTray d [qI x1] M (fun v2 M1 => ((v2 = 0) → P (-2) M1) ∧ ((¬ (v2 = 0)) → ((x2 < 0) → P (-2) M1) ∧ ((¬ (x2 < 0)) → ((x2 < (4 : Int)) → ((x3 < 0) → P (-3) M1) ∧ ((¬ (x3 < 0)) → ((x3 ≤ (40 : Int)) → (0 ≤ x1 ∧ x1 < (4 : Int)) ∧ (q_kd (q_lay 89 (Int.toNat x1)) = 9 ∧ (q_kU yX9_remake mX9_remake d [qR (q_lay 89 (Int.toNat x1)), qI x2, qI x3] M1 (fun M5 => P 0 M5)))) ∧ ((¬ (x3 ≤ (40 : Int))) → P (-3) M1))) ∧ ((¬ (x2 < (4 : Int))) → P (-2) M1))))) : q_v mX11_numbers d (qPI P) M 0 [some (qR 1), some (qI x1), some (qI x2), some (qI x3)] [] := by
  refine qr_iload_n 0 1 rfl (x := x1) rfl dX11_numbers_0 ?_
  refine qs_I 1 4 rfl (av := [qI x1]) ca_X11_hasTray wm_1024 wm_1023 rfl rfl (Nat.le_of_ble_eq_true rfl) dX11_numbers_1 h (fun v2 M1 h => ?_)
  refine qr_if_eq 4 7 16 rfl (by decide) dX11_numbers_4 (fun c4 => ?_) (fun c4 => ?_)
  · have h := h.1 c4
    refine qr_bipush 16 18 rfl (q_l32 _ rfl) (by decide) dX11_numbers_16 ?_
    exact qe_i 18 rfl dX11_numbers_18 h
  · have h := h.2 c4
    refine qr_iload_n 7 8 rfl (x := x2) rfl dX11_numbers_7 ?_
    refine qr_if_lt 8 11 16 rfl (by decide) dX11_numbers_8 (fun c8 => ?_) (fun c8 => ?_)
    · have h := h.1 c8
      refine qr_bipush 16 18 rfl (q_l32 _ rfl) (by decide) dX11_numbers_16 ?_
      exact qe_i 18 rfl dX11_numbers_18 h
    · have h := h.2 c8
      refine qr_iload_n 11 12 rfl (x := x2) rfl dX11_numbers_11 ?_
      refine qr_iconst 12 13 rfl (q_l32 _ rfl) dX11_numbers_12 ?_
      refine qr_icmp_lt 13 16 19 rfl (by decide) dX11_numbers_13 (fun c13 => ?_) (fun c13 => ?_)
      · have h := h.1 c13
        refine qr_iload_n 19 20 rfl (x := x3) rfl dX11_numbers_19 ?_
        refine qr_if_lt 20 23 29 rfl (by decide) dX11_numbers_20 (fun c20 => ?_) (fun c20 => ?_)
        · have h := h.1 c20
          refine qr_bipush 29 31 rfl (q_l32 _ rfl) (by decide) dX11_numbers_29 ?_
          exact qe_i 31 rfl dX11_numbers_31 h
        · have h := h.2 c20
          refine qr_iload_n 23 24 rfl (x := x3) rfl dX11_numbers_23 ?_
          refine qr_bipush 24 26 rfl (q_l32 _ rfl) (by decide) dX11_numbers_24 ?_
          refine qr_icmp_le 26 29 32 rfl (by decide) dX11_numbers_26 (fun c26 => ?_) (fun c26 => ?_)
          · have h := h.1 c26
            refine qr_aload_n 32 33 rfl (x := 1) rfl dX11_numbers_32 ?_
            refine qr_getF 33 36 rfl ck11 11 (by decide) (b := 89) (by decide +kernel) rfl (by decide +kernel) (by decide +kernel) wm_388 rfl dX11_numbers_33 ?_
            refine qr_iload_n 36 37 rfl (x := x1) rfl dX11_numbers_36 ?_
            have hb3 := h.1
            have h := h.2
            refine qa_ld 37 38 rfl (N := 4) (by decide +kernel) (by decide +kernel) hb3.1 hb3.2 dX11_numbers_37 ?_
            refine qr_iload_n 38 39 rfl (x := x2) rfl dX11_numbers_38 ?_
            refine qr_iload_n 39 40 rfl (x := x3) rfl dX11_numbers_39 ?_
            have hk4 := h.1
            have h := h.2
            refine qw_U 40 43 rfl (av := [qI x2, qI x3]) ca_X9_remake wm_1273 wm_1274 wm_1272 ck9 hk4 rfl rfl (Nat.le_of_ble_eq_true rfl) dX11_numbers_40 h (fun M5 h => ?_)
            refine qr_iconst 43 44 rfl (q_l32 _ rfl) dX11_numbers_43 ?_
            exact qe_i 44 rfl dX11_numbers_44 h
          · have h := h.2 c26
            refine qr_bipush 29 31 rfl (q_l32 _ rfl) (by decide) dX11_numbers_29 ?_
            exact qe_i 31 rfl dX11_numbers_31 h
      · have h := h.2 c13
        refine qr_bipush 16 18 rfl (q_l32 _ rfl) (by decide) dX11_numbers_16 ?_
        exact qe_i 18 rfl dX11_numbers_18 h
theorem dX11_write_0 : decode cX11_write 0 = .ok (.iload_n 1, 1) := by decide +kernel
theorem dX11_write_1 : decode cX11_write 1 = .ok (.invokestatic 244, 3) := by decide +kernel
theorem dX11_write_4 : decode cX11_write 4 = .ok (.ifCond .ne 7, 3) := by decide +kernel
theorem dX11_write_7 : decode cX11_write 7 = .ok (.ldc2_w 435, 3) := by decide +kernel
theorem dX11_write_10 : decode cX11_write 10 = .ok (.lreturn, 1) := by decide +kernel
theorem dX11_write_11 : decode cX11_write 11 = .ok (.aload_n 0, 1) := by decide +kernel
theorem dX11_write_12 : decode cX11_write 12 = .ok (.getfield 59, 3) := by decide +kernel
theorem dX11_write_15 : decode cX11_write 15 = .ok (.iload_n 1, 1) := by decide +kernel
theorem dX11_write_16 : decode cX11_write 16 = .ok (.aaload, 1) := by decide +kernel
theorem dX11_write_17 : decode cX11_write 17 = .ok (.astore 5, 2) := by decide +kernel
theorem dX11_write_19 : decode cX11_write 19 = .ok (.aload 5, 2) := by decide +kernel
theorem dX11_write_21 : decode cX11_write 21 = .ok (.getfield 247, 3) := by decide +kernel
theorem dX11_write_24 : decode cX11_write 24 = .ok (.ifCond .ge 7, 3) := by decide +kernel
theorem dX11_write_27 : decode cX11_write 27 = .ok (.ldc2_w 437, 3) := by decide +kernel
theorem dX11_write_30 : decode cX11_write 30 = .ok (.lreturn, 1) := by decide +kernel
theorem dX11_write_31 : decode cX11_write 31 = .ok (.iload_n 2, 1) := by decide +kernel
theorem dX11_write_32 : decode cX11_write 32 = .ok (.ifCond .lt 12, 3) := by decide +kernel
theorem dX11_write_35 : decode cX11_write 35 = .ok (.iload_n 2, 1) := by decide +kernel
theorem dX11_write_36 : decode cX11_write 36 = .ok (.aload 5, 2) := by decide +kernel
theorem dX11_write_38 : decode cX11_write 38 = .ok (.getfield 247, 3) := by decide +kernel
theorem dX11_write_41 : decode cX11_write 41 = .ok (.if_icmp .lt 7, 3) := by decide +kernel
theorem dX11_write_44 : decode cX11_write 44 = .ok (.ldc2_w 439, 3) := by decide +kernel
theorem dX11_write_47 : decode cX11_write 47 = .ok (.lreturn, 1) := by decide +kernel
theorem dX11_write_48 : decode cX11_write 48 = .ok (.aload 5, 2) := by decide +kernel
theorem dX11_write_50 : decode cX11_write 50 = .ok (.getfield 268, 3) := by decide +kernel
theorem dX11_write_53 : decode cX11_write 53 = .ok (.iload_n 2, 1) := by decide +kernel
theorem dX11_write_54 : decode cX11_write 54 = .ok (.aload 5, 2) := by decide +kernel
theorem dX11_write_56 : decode cX11_write 56 = .ok (.lload_n 3, 1) := by decide +kernel
theorem dX11_write_57 : decode cX11_write 57 = .ok (.invokevirtual 441, 3) := by decide +kernel
theorem dX11_write_60 : decode cX11_write 60 = .ok (.lastore, 1) := by decide +kernel
theorem dX11_write_61 : decode cX11_write 61 = .ok (.aload 5, 2) := by decide +kernel
theorem dX11_write_63 : decode cX11_write 63 = .ok (.getfield 268, 3) := by decide +kernel
theorem dX11_write_66 : decode cX11_write 66 = .ok (.iload_n 2, 1) := by decide +kernel
theorem dX11_write_67 : decode cX11_write 67 = .ok (.laload, 1) := by decide +kernel
theorem dX11_write_68 : decode cX11_write 68 = .ok (.lreturn, 1) := by decide +kernel
theorem bX11_write_0 {d : Nat} {P : Int → q_Mem → Prop} {M : q_Mem} (x1 x2 x3 : Int) (h : q_kI yX11_hasTray mX11_hasTray d [qI x1] M (fun v2 M1 => ((¬ v2 = 0) → (0 ≤ x1 ∧ x1 < (4 : Int)) ∧ (∀ x5_4 : Int, x5_4 = (q_lay 89 (Int.toNat x1)) → q_kd x5_4 = 9 ∧ (((0 ≤ (M1 x5_4 0)) → ((x2 < 0) → P (-7) M1) ∧ ((¬ (x2 < 0)) → ((x2 < (M1 x5_4 0)) → q_kL yX9_cutToSort mX9_cutToSort d [qR x5_4, qL x3] M1 (fun v7 M6 => (0 ≤ x2 ∧ x2 < (40 : Int)) ∧ (∀ M9 : q_Mem, M9 = q_up M6 (q_lay x5_4 2) x2 v7 → (0 ≤ x2 ∧ x2 < (40 : Int)) ∧ (P (M9 (q_lay x5_4 2) x2) M9)))) ∧ ((¬ (x2 < (M1 x5_4 0))) → P (-7) M1))) ∧ ((¬ (0 ≤ (M1 x5_4 0))) → P (-6) M1)))) ∧ ((v2 = 0) → P (-2) M1))) : q_v mX11_write d (qPL P) M 0 [some (qR 1), some (qI x1), some (qI x2), some (qL x3), none, none] [] := by
  refine qr_iload_n 0 1 rfl (x := x1) rfl dX11_write_0 ?_
  refine qs_I 1 4 rfl (av := [qI x1]) ca_X11_hasTray wm_1024 wm_1023 rfl rfl (Nat.le_of_ble_eq_true rfl) dX11_write_1 h (fun v2 M1 h => ?_)
  refine qr_if_ne 4 7 11 rfl (by decide) dX11_write_4 (fun c4 => ?_) (fun c4 => ?_)
  · have h := h.1 c4
    refine qr_aload_n 11 12 rfl (x := 1) rfl dX11_write_11 ?_
    refine qr_getF 12 15 rfl ck11 11 (by decide) (b := 89) (by decide +kernel) rfl (by decide +kernel) (by decide +kernel) wm_388 rfl dX11_write_12 ?_
    refine qr_iload_n 15 16 rfl (x := x1) rfl dX11_write_15 ?_
    have hb3 := h.1
    have h := h.2
    refine qa_ld 16 17 rfl (N := 4) (by decide +kernel) (by decide +kernel) hb3.1 hb3.2 dX11_write_16 ?_
    refine qn_r 17 (fun x5_4 e_x5_4 => ?_)
    have h := h x5_4 e_x5_4
    refine qr_astore 17 19 rfl (by decide) rfl rfl dX11_write_17 ?_
    refine qr_aload 19 21 rfl (x := x5_4) rfl dX11_write_19 ?_
    have hk5 := h.1
    have h := h.2
    refine qg_i 21 24 rfl ck9 0 (kk := 0) (by decide) hk5 (by decide +kernel) rfl wm_336 rfl dX11_write_21 ?_
    refine qr_if_ge 24 27 31 rfl (by decide) dX11_write_24 (fun c24 => ?_) (fun c24 => ?_)
    · have h := h.1 c24
      refine qr_iload_n 31 32 rfl (x := x2) rfl dX11_write_31 ?_
      refine qr_if_lt 32 35 44 rfl (by decide) dX11_write_32 (fun c32 => ?_) (fun c32 => ?_)
      · have h := h.1 c32
        refine qr_ldc2 44 47 rfl (v := (-7)) (q_l64 _ rfl) wm_1285 dX11_write_44 ?_
        exact qe_l 47 rfl dX11_write_47 h
      · have h := h.2 c32
        refine qr_iload_n 35 36 rfl (x := x2) rfl dX11_write_35 ?_
        refine qr_aload 36 38 rfl (x := x5_4) rfl dX11_write_36 ?_
        refine qg_i 38 41 rfl ck9 0 (kk := 0) (by decide) hk5 (by decide +kernel) rfl wm_336 rfl dX11_write_38 ?_
        refine qr_icmp_lt 41 44 48 rfl (by decide) dX11_write_41 (fun c41 => ?_) (fun c41 => ?_)
        · have h := h.1 c41
          refine qr_aload 48 50 rfl (x := x5_4) rfl dX11_write_48 ?_
          refine qr_getF 50 53 rfl ck9 2 (by decide) (b := (q_lay x5_4 2)) hk5 rfl (by decide +kernel) rfl wm_339 rfl dX11_write_50 ?_
          refine qr_iload_n 53 54 rfl (x := x2) rfl dX11_write_53 ?_
          refine qr_aload 54 56 rfl (x := x5_4) rfl dX11_write_54 ?_
          refine qr_lload_n 56 57 rfl (x := x3) rfl dX11_write_56 ?_
          refine qw_L 57 60 rfl (av := [qL x3]) ca_X9_cutToSort wm_1287 wm_1288 wm_1286 ck9 hk5 rfl rfl (Nat.le_of_ble_eq_true rfl) dX11_write_57 h (fun v7 M6 h => ?_)
          have hb8 := h.1
          have h := h.2
          refine ql_st 60 61 rfl (N := 40) (lk9_2 _ hk5) (ll9_2 _ hk5) hb8.1 hb8.2 dX11_write_60 (fun M9 e_M9 => ?_)
          have h := h M9 e_M9
          refine qr_aload 61 63 rfl (x := x5_4) rfl dX11_write_61 ?_
          refine qr_getF 63 66 rfl ck9 2 (by decide) (b := (q_lay x5_4 2)) hk5 rfl (by decide +kernel) rfl wm_339 rfl dX11_write_63 ?_
          refine qr_iload_n 66 67 rfl (x := x2) rfl dX11_write_66 ?_
          have hb10 := h.1
          have h := h.2
          refine ql_ld 67 68 rfl (N := 40) (lk9_2 _ hk5) (ll9_2 _ hk5) hb10.1 hb10.2 dX11_write_67 ?_
          exact qe_l 68 rfl dX11_write_68 h
        · have h := h.2 c41
          refine qr_ldc2 44 47 rfl (v := (-7)) (q_l64 _ rfl) wm_1285 dX11_write_44 ?_
          exact qe_l 47 rfl dX11_write_47 h
    · have h := h.2 c24
      refine qr_ldc2 27 30 rfl (v := (-6)) (q_l64 _ rfl) wm_1284 dX11_write_27 ?_
      exact qe_l 30 rfl dX11_write_30 h
  · have h := h.2 c4
    refine qr_ldc2 7 10 rfl (v := (-2)) (q_l64 _ rfl) wm_1283 dX11_write_7 ?_
    exact qe_l 10 rfl dX11_write_10 h
theorem dX11_lists_0 : decode cX11_lists 0 = .ok (.iload_n 1, 1) := by decide +kernel
theorem dX11_lists_1 : decode cX11_lists 1 = .ok (.invokestatic 244, 3) := by decide +kernel
theorem dX11_lists_4 : decode cX11_lists 4 = .ok (.ifCond .eq 11, 3) := by decide +kernel
theorem dX11_lists_7 : decode cX11_lists 7 = .ok (.aload_n 0, 1) := by decide +kernel
theorem dX11_lists_8 : decode cX11_lists 8 = .ok (.iload_n 2, 1) := by decide +kernel
theorem dX11_lists_9 : decode cX11_lists 9 = .ok (.invokevirtual 298, 3) := by decide +kernel
theorem dX11_lists_12 : decode cX11_lists 12 = .ok (.ifCond .ne 6, 3) := by decide +kernel
theorem dX11_lists_15 : decode cX11_lists 15 = .ok (.bipush (-2), 2) := by decide +kernel
theorem dX11_lists_17 : decode cX11_lists 17 = .ok (.ireturn, 1) := by decide +kernel
theorem dX11_lists_18 : decode cX11_lists 18 = .ok (.aload_n 0, 1) := by decide +kernel
theorem dX11_lists_19 : decode cX11_lists 19 = .ok (.getfield 59, 3) := by decide +kernel
theorem dX11_lists_22 : decode cX11_lists 22 = .ok (.iload_n 1, 1) := by decide +kernel
theorem dX11_lists_23 : decode cX11_lists 23 = .ok (.aaload, 1) := by decide +kernel
theorem dX11_lists_24 : decode cX11_lists 24 = .ok (.astore_n 3, 1) := by decide +kernel
theorem dX11_lists_25 : decode cX11_lists 25 = .ok (.aload_n 3, 1) := by decide +kernel
theorem dX11_lists_26 : decode cX11_lists 26 = .ok (.getfield 247, 3) := by decide +kernel
theorem dX11_lists_29 : decode cX11_lists 29 = .ok (.ifCond .ge 6, 3) := by decide +kernel
theorem dX11_lists_32 : decode cX11_lists 32 = .ok (.bipush (-6), 2) := by decide +kernel
theorem dX11_lists_34 : decode cX11_lists 34 = .ok (.ireturn, 1) := by decide +kernel
theorem dX11_lists_35 : decode cX11_lists 35 = .ok (.aload_n 3, 1) := by decide +kernel
theorem dX11_lists_36 : decode cX11_lists 36 = .ok (.getfield 247, 3) := by decide +kernel
theorem dX11_lists_39 : decode cX11_lists 39 = .ok (.aload_n 0, 1) := by decide +kernel
theorem dX11_lists_40 : decode cX11_lists 40 = .ok (.getfield 70, 3) := by decide +kernel
theorem dX11_lists_43 : decode cX11_lists 43 = .ok (.getfield 301, 3) := by decide +kernel
theorem dX11_lists_46 : decode cX11_lists 46 = .ok (.iload_n 2, 1) := by decide +kernel
theorem dX11_lists_47 : decode cX11_lists 47 = .ok (.iaload, 1) := by decide +kernel
theorem dX11_lists_48 : decode cX11_lists 48 = .ok (.invokestatic 445, 3) := by decide +kernel
theorem dX11_lists_51 : decode cX11_lists 51 = .ok (.istore 4, 2) := by decide +kernel
theorem dX11_lists_53 : decode cX11_lists 53 = .ok (.iconst 0, 1) := by decide +kernel
theorem dX11_lists_54 : decode cX11_lists 54 = .ok (.istore 5, 2) := by decide +kernel
theorem dX11_lists_56 : decode cX11_lists 56 = .ok (.iload 5, 2) := by decide +kernel
theorem dX11_lists_58 : decode cX11_lists 58 = .ok (.iload 4, 2) := by decide +kernel
theorem dX11_lists_60 : decode cX11_lists 60 = .ok (.if_icmp .ge 27, 3) := by decide +kernel
theorem dX11_lists_63 : decode cX11_lists 63 = .ok (.aload_n 3, 1) := by decide +kernel
theorem dX11_lists_64 : decode cX11_lists 64 = .ok (.getfield 268, 3) := by decide +kernel
theorem dX11_lists_67 : decode cX11_lists 67 = .ok (.iload 5, 2) := by decide +kernel
theorem dX11_lists_69 : decode cX11_lists 69 = .ok (.aload_n 0, 1) := by decide +kernel
theorem dX11_lists_70 : decode cX11_lists 70 = .ok (.getfield 70, 3) := by decide +kernel
theorem dX11_lists_73 : decode cX11_lists 73 = .ok (.iload_n 2, 1) := by decide +kernel
theorem dX11_lists_74 : decode cX11_lists 74 = .ok (.iload 5, 2) := by decide +kernel
theorem dX11_lists_76 : decode cX11_lists 76 = .ok (.invokevirtual 316, 3) := by decide +kernel
theorem dX11_lists_79 : decode cX11_lists 79 = .ok (.i2l, 1) := by decide +kernel
theorem dX11_lists_80 : decode cX11_lists 80 = .ok (.lastore, 1) := by decide +kernel
theorem dX11_lists_81 : decode cX11_lists 81 = .ok (.iinc 5 1, 3) := by decide +kernel
theorem dX11_lists_84 : decode cX11_lists 84 = .ok (.goto (-28), 3) := by decide +kernel
theorem dX11_lists_87 : decode cX11_lists 87 = .ok (.iload 4, 2) := by decide +kernel
theorem dX11_lists_89 : decode cX11_lists 89 = .ok (.ireturn, 1) := by decide +kernel
theorem bX11_lists_0 {d : Nat} {P : Int → q_Mem → Prop} {M : q_Mem} (x1 x2 : Int) (h : q_kI yX11_hasTray mX11_hasTray d [qI x1] M (fun v2 M1 => ((v2 = 0) → P (-2) M1) ∧ ((¬ (v2 = 0)) → q_kI yX11_hasFace mX11_hasFace d [qR 1, qI x2] M1 (fun v4 M3 => ((¬ v4 = 0) → (0 ≤ x1 ∧ x1 < (4 : Int)) ∧ (∀ x3_6 : Int, x3_6 = (q_lay 89 (Int.toNat x1)) → q_kd x3_6 = 9 ∧ (((0 ≤ (M3 x3_6 0)) → (0 ≤ x2 ∧ x2 < (16 : Int)) ∧ (q_kI yJ9_min_7cf53 mJ9_min_7cf53 d [qI (M3 x3_6 0), qI (M3 95 x2)] M3 (fun v10 M9 => q_v mX11_lists d (qPI P) M9 56 [some (qR 1), none, some (qI x2), some (qR x3_6), some (qI v10), some (qI 0)] []))) ∧ ((¬ (0 ≤ (M3 x3_6 0))) → P (-6) M3)))) ∧ ((v4 = 0) → P (-2) M3))))) : q_v mX11_lists d (qPI P) M 0 [some (qR 1), some (qI x1), some (qI x2), none, none, none] [] := by
  refine qr_iload_n 0 1 rfl (x := x1) rfl dX11_lists_0 ?_
  refine qs_I 1 4 rfl (av := [qI x1]) ca_X11_hasTray wm_1024 wm_1023 rfl rfl (Nat.le_of_ble_eq_true rfl) dX11_lists_1 h (fun v2 M1 h => ?_)
  refine qr_if_eq 4 7 15 rfl (by decide) dX11_lists_4 (fun c4 => ?_) (fun c4 => ?_)
  · have h := h.1 c4
    refine qr_bipush 15 17 rfl (q_l32 _ rfl) (by decide) dX11_lists_15 ?_
    exact qe_i 17 rfl dX11_lists_17 h
  · have h := h.2 c4
    refine qr_aload_n 7 8 rfl (x := 1) rfl dX11_lists_7 ?_
    refine qr_iload_n 8 9 rfl (x := x2) rfl dX11_lists_8 ?_
    refine qw_I 9 12 rfl (av := [qI x2]) ca_X11_hasFace wm_1077 wp_63 wm_1075 ck11 (by decide +kernel) rfl rfl (Nat.le_of_ble_eq_true rfl) dX11_lists_9 h (fun v4 M3 h => ?_)
    refine qr_if_ne 12 15 18 rfl (by decide) dX11_lists_12 (fun c12 => ?_) (fun c12 => ?_)
    · have h := h.1 c12
      refine qr_aload_n 18 19 rfl (x := 1) rfl dX11_lists_18 ?_
      refine qr_getF 19 22 rfl ck11 11 (by decide) (b := 89) (by decide +kernel) rfl (by decide +kernel) (by decide +kernel) wm_388 rfl dX11_lists_19 ?_
      refine qr_iload_n 22 23 rfl (x := x1) rfl dX11_lists_22 ?_
      have hb5 := h.1
      have h := h.2
      refine qa_ld 23 24 rfl (N := 4) (by decide +kernel) (by decide +kernel) hb5.1 hb5.2 dX11_lists_23 ?_
      refine qn_r 24 (fun x3_6 e_x3_6 => ?_)
      have h := h x3_6 e_x3_6
      refine qr_astore_n 24 25 rfl (by decide) rfl rfl dX11_lists_24 ?_
      refine qr_aload_n 25 26 rfl (x := x3_6) rfl dX11_lists_25 ?_
      have hk7 := h.1
      have h := h.2
      refine qg_i 26 29 rfl ck9 0 (kk := 0) (by decide) hk7 (by decide +kernel) rfl wm_336 rfl dX11_lists_26 ?_
      refine qr_if_ge 29 32 35 rfl (by decide) dX11_lists_29 (fun c29 => ?_) (fun c29 => ?_)
      · have h := h.1 c29
        refine qr_aload_n 35 36 rfl (x := x3_6) rfl dX11_lists_35 ?_
        refine qg_i 36 39 rfl ck9 0 (kk := 0) (by decide) hk7 (by decide +kernel) rfl wm_336 rfl dX11_lists_36 ?_
        refine qr_aload_n 39 40 rfl (x := 1) rfl dX11_lists_39 ?_
        refine qr_getF 40 43 rfl ck11 13 (by decide) (b := 91) (by decide +kernel) rfl (by decide +kernel) (by decide +kernel) wm_390 rfl dX11_lists_40 ?_
        refine qr_getF 43 46 rfl ck6 6 (by decide) (b := 95) (by decide +kernel) rfl (by decide +kernel) (by decide +kernel) wm_231 rfl dX11_lists_43 ?_
        refine qr_iload_n 46 47 rfl (x := x2) rfl dX11_lists_46 ?_
        have hb8 := h.1
        have h := h.2
        refine qi_ld 47 48 rfl (N := 16) (by decide +kernel) (by decide +kernel) hb8.1 hb8.2 dX11_lists_47 ?_
        refine qs_I 48 51 rfl (av := [qI (M3 x3_6 0), qI (M3 95 x2)]) ca_J9_min_7cf53 wm_452 wm_1294 rfl rfl (Nat.le_of_ble_eq_true rfl) dX11_lists_48 h (fun v10 M9 h => ?_)
        refine qr_istore 51 53 rfl (by decide) rfl rfl dX11_lists_51 ?_
        refine qr_iconst 53 54 rfl (q_l32 _ rfl) dX11_lists_53 ?_
        refine qr_istore 54 56 rfl (by decide) rfl rfl dX11_lists_54 ?_
        exact qr_cut 56 (ls' := [some (qR 1), none, some (qI x2), some (qR x3_6), some (qI v10), some (qI 0)]) (And.intro rfl (And.intro rfl (And.intro rfl (And.intro rfl (And.intro rfl trivial))))) h
      · have h := h.2 c29
        refine qr_bipush 32 34 rfl (q_l32 _ rfl) (by decide) dX11_lists_32 ?_
        exact qe_i 34 rfl dX11_lists_34 h
    · have h := h.2 c12
      refine qr_bipush 15 17 rfl (q_l32 _ rfl) (by decide) dX11_lists_15 ?_
      exact qe_i 17 rfl dX11_lists_17 h
theorem bX11_lists_56 {d : Nat} {P : Int → q_Mem → Prop} {M : q_Mem} (x2 x3 x4 x5 : Int) (k3 : q_kd x3 = 9) (h : ((x4 ≤ x5) → P x4 M) ∧ ((¬ (x4 ≤ x5)) → q_kI yX6_dartAt mX6_dartAt d [qR 91, qI x2, qI x5] M (fun v2 M1 => (0 ≤ x5 ∧ x5 < (40 : Int)) ∧ (∀ M4 : q_Mem, M4 = q_up M1 (q_lay x3 2) x5 v2 → q_v mX11_lists d (qPI P) M4 56 [some (qR 1), none, some (qI x2), some (qR x3), some (qI x4), some (qI (q_add x5 1))] [])))) : q_v mX11_lists d (qPI P) M 56 [some (qR 1), none, some (qI x2), some (qR x3), some (qI x4), some (qI x5)] [] := by
  refine qr_iload 56 58 rfl (x := x5) rfl dX11_lists_56 ?_
  refine qr_iload 58 60 rfl (x := x4) rfl dX11_lists_58 ?_
  refine qr_icmp_ge 60 63 87 rfl (by decide) dX11_lists_60 (fun c60 => ?_) (fun c60 => ?_)
  · have h := h.1 c60
    refine qr_iload 87 89 rfl (x := x4) rfl dX11_lists_87 ?_
    exact qe_i 89 rfl dX11_lists_89 h
  · have h := h.2 c60
    refine qr_aload_n 63 64 rfl (x := x3) rfl dX11_lists_63 ?_
    refine qr_getF 64 67 rfl ck9 2 (by decide) (b := (q_lay x3 2)) k3 rfl (by decide +kernel) rfl wm_339 rfl dX11_lists_64 ?_
    refine qr_iload 67 69 rfl (x := x5) rfl dX11_lists_67 ?_
    refine qr_aload_n 69 70 rfl (x := 1) rfl dX11_lists_69 ?_
    refine qr_getF 70 73 rfl ck11 13 (by decide) (b := 91) (by decide +kernel) rfl (by decide +kernel) (by decide +kernel) wm_390 rfl dX11_lists_70 ?_
    refine qr_iload_n 73 74 rfl (x := x2) rfl dX11_lists_73 ?_
    refine qr_iload 74 76 rfl (x := x5) rfl dX11_lists_74 ?_
    refine qw_I 76 79 rfl (av := [qI x2, qI x5]) ca_X6_dartAt wm_1084 wm_1085 wm_1083 ck6 (by decide +kernel) rfl rfl (Nat.le_of_ble_eq_true rfl) dX11_lists_76 h (fun v2 M1 h => ?_)
    refine qr_i2l 79 80 rfl dX11_lists_79 ?_
    have hb3 := h.1
    have h := h.2
    refine ql_st 80 81 rfl (N := 40) (lk9_2 _ k3) (ll9_2 _ k3) hb3.1 hb3.2 dX11_lists_80 (fun M4 e_M4 => ?_)
    have h := h M4 e_M4
    refine qr_iinc 81 84 rfl (by decide) (x := x5) rfl rfl rfl dX11_lists_81 ?_
    refine qr_goto 84 56 (by decide) dX11_lists_84 ?_
    exact h
theorem dX11_image_0 : decode cX11_image 0 = .ok (.iload_n 1, 1) := by decide +kernel
theorem dX11_image_1 : decode cX11_image 1 = .ok (.ifCond .lt 8, 3) := by decide +kernel
theorem dX11_image_4 : decode cX11_image 4 = .ok (.iload_n 1, 1) := by decide +kernel
theorem dX11_image_5 : decode cX11_image 5 = .ok (.iconst 2, 1) := by decide +kernel
theorem dX11_image_6 : decode cX11_image 6 = .ok (.if_icmp .lt 6, 3) := by decide +kernel
theorem dX11_image_9 : decode cX11_image 9 = .ok (.bipush (-2), 2) := by decide +kernel
theorem dX11_image_11 : decode cX11_image 11 = .ok (.ireturn, 1) := by decide +kernel
theorem dX11_image_12 : decode cX11_image 12 = .ok (.aload_n 0, 1) := by decide +kernel
theorem dX11_image_13 : decode cX11_image 13 = .ok (.getfield 53, 3) := by decide +kernel
theorem dX11_image_16 : decode cX11_image 16 = .ok (.iload_n 1, 1) := by decide +kernel
theorem dX11_image_17 : decode cX11_image 17 = .ok (.aaload, 1) := by decide +kernel
theorem dX11_image_18 : decode cX11_image 18 = .ok (.astore_n 2, 1) := by decide +kernel
theorem dX11_image_19 : decode cX11_image 19 = .ok (.aload_n 2, 1) := by decide +kernel
theorem dX11_image_20 : decode cX11_image 20 = .ok (.getfield 448, 3) := by decide +kernel
theorem dX11_image_23 : decode cX11_image 23 = .ok (.aload_n 0, 1) := by decide +kernel
theorem dX11_image_24 : decode cX11_image 24 = .ok (.getfield 20, 3) := by decide +kernel
theorem dX11_image_27 : decode cX11_image 27 = .ok (.invokevirtual 449, 3) := by decide +kernel
theorem dX11_image_30 : decode cX11_image 30 = .ok (.aload_n 2, 1) := by decide +kernel
theorem dX11_image_31 : decode cX11_image 31 = .ok (.getfield 452, 3) := by decide +kernel
theorem dX11_image_34 : decode cX11_image 34 = .ok (.aload_n 0, 1) := by decide +kernel
theorem dX11_image_35 : decode cX11_image 35 = .ok (.getfield 37, 3) := by decide +kernel
theorem dX11_image_38 : decode cX11_image 38 = .ok (.invokevirtual 248, 3) := by decide +kernel
theorem dX11_image_41 : decode cX11_image 41 = .ok (.aload_n 2, 1) := by decide +kernel
theorem dX11_image_42 : decode cX11_image 42 = .ok (.iconst 1, 1) := by decide +kernel
theorem dX11_image_43 : decode cX11_image 43 = .ok (.putfield 453, 3) := by decide +kernel
theorem dX11_image_46 : decode cX11_image 46 = .ok (.iconst 0, 1) := by decide +kernel
theorem dX11_image_47 : decode cX11_image 47 = .ok (.ireturn, 1) := by decide +kernel
theorem bX11_image_0 {d : Nat} {P : Int → q_Mem → Prop} {M : q_Mem} (x1 : Int) (h : ((x1 < 0) → P (-2) M) ∧ ((¬ (x1 < 0)) → ((x1 < (2 : Int)) → (0 ≤ x1 ∧ x1 < (2 : Int)) ∧ (∀ x2_2 : Int, x2_2 = (q_lay 88 (Int.toNat x1)) → q_kd x2_2 = 1 ∧ (q_kU yX4_takeFrom mX4_takeFrom d [qR (q_lay x2_2 1), qR (M 1 4)] M (fun M4 => q_kU yX7_takeFrom mX7_takeFrom d [qR (q_lay x2_2 2), qR 50] M4 (fun M5 => (∀ M6 : q_Mem, M6 = q_up M5 x2_2 0 1 → P 0 M6)))))) ∧ ((¬ (x1 < (2 : Int))) → P (-2) M))) : q_v mX11_image d (qPI P) M 0 [some (qR 1), some (qI x1), none] [] := by
  refine qr_iload_n 0 1 rfl (x := x1) rfl dX11_image_0 ?_
  refine qr_if_lt 1 4 9 rfl (by decide) dX11_image_1 (fun c1 => ?_) (fun c1 => ?_)
  · have h := h.1 c1
    refine qr_bipush 9 11 rfl (q_l32 _ rfl) (by decide) dX11_image_9 ?_
    exact qe_i 11 rfl dX11_image_11 h
  · have h := h.2 c1
    refine qr_iload_n 4 5 rfl (x := x1) rfl dX11_image_4 ?_
    refine qr_iconst 5 6 rfl (q_l32 _ rfl) dX11_image_5 ?_
    refine qr_icmp_lt 6 9 12 rfl (by decide) dX11_image_6 (fun c6 => ?_) (fun c6 => ?_)
    · have h := h.1 c6
      refine qr_aload_n 12 13 rfl (x := 1) rfl dX11_image_12 ?_
      refine qr_getF 13 16 rfl ck11 10 (by decide) (b := 88) (by decide +kernel) rfl (by decide +kernel) (by decide +kernel) wm_387 rfl dX11_image_13 ?_
      refine qr_iload_n 16 17 rfl (x := x1) rfl dX11_image_16 ?_
      have hb1 := h.1
      have h := h.2
      refine qa_ld 17 18 rfl (N := 2) (by decide +kernel) (by decide +kernel) hb1.1 hb1.2 dX11_image_17 ?_
      refine qn_r 18 (fun x2_2 e_x2_2 => ?_)
      have h := h x2_2 e_x2_2
      refine qr_astore_n 18 19 rfl (by decide) rfl rfl dX11_image_18 ?_
      refine qr_aload_n 19 20 rfl (x := x2_2) rfl dX11_image_19 ?_
      have hk3 := h.1
      have h := h.2
      refine qr_getF 20 23 rfl ck1 1 (by decide) (b := (q_lay x2_2 1)) hk3 rfl (by decide +kernel) rfl wm_320 rfl dX11_image_20 ?_
      refine qr_aload_n 23 24 rfl (x := 1) rfl dX11_image_23 ?_
      refine qg_r 24 27 rfl ck11 4 (kk := 4) (by decide) (by decide +kernel) (by decide +kernel) rfl wm_381 rfl dX11_image_24 ?_
      refine qw_U 27 30 rfl (av := [qR (M 1 4)]) ca_X4_takeFrom wm_1300 wm_1301 wm_1299 ck4 (lk1_1 _ hk3) rfl rfl (Nat.le_of_ble_eq_true rfl) dX11_image_27 h (fun M4 h => ?_)
      refine qr_aload_n 30 31 rfl (x := x2_2) rfl dX11_image_30 ?_
      refine qr_getF 31 34 rfl ck1 2 (by decide) (b := (q_lay x2_2 2)) hk3 rfl (by decide +kernel) rfl wm_322 rfl dX11_image_31 ?_
      refine qr_aload_n 34 35 rfl (x := 1) rfl dX11_image_34 ?_
      refine qr_getF 35 38 rfl ck11 7 (by decide) (b := 50) (by decide +kernel) rfl (by decide +kernel) (by decide +kernel) wm_384 rfl dX11_image_35 ?_
      refine qw_U 38 41 rfl (av := [qR 50]) ca_X7_takeFrom wm_916 wm_917 wm_1026 ck7 (lk1_2 _ hk3) rfl rfl (Nat.le_of_ble_eq_true rfl) dX11_image_38 h (fun M5 h => ?_)
      refine qr_aload_n 41 42 rfl (x := x2_2) rfl dX11_image_41 ?_
      refine qr_iconst 42 43 rfl (q_l32 _ rfl) dX11_image_42 ?_
      refine qp_z 43 46 rfl ck1 0 (kk := 0) (by decide) hk3 (by decide) rfl (by decide) rfl wm_318 rfl dX11_image_43 (fun M6 e_M6 => ?_)
      have h := h M6 e_M6
      refine qr_iconst 46 47 rfl (q_l32 _ rfl) dX11_image_46 ?_
      exact qe_i 47 rfl dX11_image_47 h
    · have h := h.2 c6
      refine qr_bipush 9 11 rfl (q_l32 _ rfl) (by decide) dX11_image_9 ?_
      exact qe_i 11 rfl dX11_image_11 h
theorem dX11_restore_0 : decode cX11_restore 0 = .ok (.iload_n 1, 1) := by decide +kernel
theorem dX11_restore_1 : decode cX11_restore 1 = .ok (.ifCond .lt 8, 3) := by decide +kernel
theorem dX11_restore_4 : decode cX11_restore 4 = .ok (.iload_n 1, 1) := by decide +kernel
theorem dX11_restore_5 : decode cX11_restore 5 = .ok (.iconst 2, 1) := by decide +kernel
theorem dX11_restore_6 : decode cX11_restore 6 = .ok (.if_icmp .lt 6, 3) := by decide +kernel
theorem dX11_restore_9 : decode cX11_restore 9 = .ok (.bipush (-2), 2) := by decide +kernel
theorem dX11_restore_11 : decode cX11_restore 11 = .ok (.ireturn, 1) := by decide +kernel
theorem dX11_restore_12 : decode cX11_restore 12 = .ok (.aload_n 0, 1) := by decide +kernel
theorem dX11_restore_13 : decode cX11_restore 13 = .ok (.getfield 53, 3) := by decide +kernel
theorem dX11_restore_16 : decode cX11_restore 16 = .ok (.iload_n 1, 1) := by decide +kernel
theorem dX11_restore_17 : decode cX11_restore 17 = .ok (.aaload, 1) := by decide +kernel
theorem dX11_restore_18 : decode cX11_restore 18 = .ok (.astore_n 2, 1) := by decide +kernel
theorem dX11_restore_19 : decode cX11_restore 19 = .ok (.aload_n 2, 1) := by decide +kernel
theorem dX11_restore_20 : decode cX11_restore 20 = .ok (.getfield 453, 3) := by decide +kernel
theorem dX11_restore_23 : decode cX11_restore 23 = .ok (.ifCond .ne 6, 3) := by decide +kernel
theorem dX11_restore_26 : decode cX11_restore 26 = .ok (.bipush (-5), 2) := by decide +kernel
theorem dX11_restore_28 : decode cX11_restore 28 = .ok (.ireturn, 1) := by decide +kernel
theorem dX11_restore_29 : decode cX11_restore 29 = .ok (.aload_n 0, 1) := by decide +kernel
theorem dX11_restore_30 : decode cX11_restore 30 = .ok (.getfield 20, 3) := by decide +kernel
theorem dX11_restore_33 : decode cX11_restore 33 = .ok (.aload_n 2, 1) := by decide +kernel
theorem dX11_restore_34 : decode cX11_restore 34 = .ok (.getfield 448, 3) := by decide +kernel
theorem dX11_restore_37 : decode cX11_restore 37 = .ok (.invokevirtual 449, 3) := by decide +kernel
theorem dX11_restore_40 : decode cX11_restore 40 = .ok (.aload_n 0, 1) := by decide +kernel
theorem dX11_restore_41 : decode cX11_restore 41 = .ok (.getfield 37, 3) := by decide +kernel
theorem dX11_restore_44 : decode cX11_restore 44 = .ok (.aload_n 2, 1) := by decide +kernel
theorem dX11_restore_45 : decode cX11_restore 45 = .ok (.getfield 452, 3) := by decide +kernel
theorem dX11_restore_48 : decode cX11_restore 48 = .ok (.invokevirtual 248, 3) := by decide +kernel
theorem dX11_restore_51 : decode cX11_restore 51 = .ok (.aload_n 0, 1) := by decide +kernel
theorem dX11_restore_52 : decode cX11_restore 52 = .ok (.getfield 47, 3) := by decide +kernel
theorem dX11_restore_55 : decode cX11_restore 55 = .ok (.invokevirtual 127, 3) := by decide +kernel
theorem dX11_restore_58 : decode cX11_restore 58 = .ok (.aload_n 0, 1) := by decide +kernel
theorem dX11_restore_59 : decode cX11_restore 59 = .ok (.iconst 0, 1) := by decide +kernel
theorem dX11_restore_60 : decode cX11_restore 60 = .ok (.putfield 130, 3) := by decide +kernel
theorem dX11_restore_63 : decode cX11_restore 63 = .ok (.iconst 0, 1) := by decide +kernel
theorem dX11_restore_64 : decode cX11_restore 64 = .ok (.ireturn, 1) := by decide +kernel
theorem bX11_restore_0 {d : Nat} {P : Int → q_Mem → Prop} {M : q_Mem} (x1 : Int) (h : ((x1 < 0) → P (-2) M) ∧ ((¬ (x1 < 0)) → ((x1 < (2 : Int)) → (0 ≤ x1 ∧ x1 < (2 : Int)) ∧ (∀ x2_2 : Int, x2_2 = (q_lay 88 (Int.toNat x1)) → q_kd x2_2 = 1 ∧ (((¬ (M x2_2 0) = 0) → q_kd (M 1 4) = 4 ∧ (q_kU yX4_takeFrom mX4_takeFrom d [qR (M 1 4), qR (q_lay x2_2 1)] M (fun M5 => q_kU yX7_takeFrom mX7_takeFrom d [qR 50, qR (q_lay x2_2 2)] M5 (fun M6 => q_kU yX0_forget mX0_forget d [qR 56] M6 (fun M7 => (∀ M8 : q_Mem, M8 = q_up M7 1 18 0 → P 0 M8)))))) ∧ (((M x2_2 0) = 0) → P (-5) M)))) ∧ ((¬ (x1 < (2 : Int))) → P (-2) M))) : q_v mX11_restore d (qPI P) M 0 [some (qR 1), some (qI x1), none] [] := by
  refine qr_iload_n 0 1 rfl (x := x1) rfl dX11_restore_0 ?_
  refine qr_if_lt 1 4 9 rfl (by decide) dX11_restore_1 (fun c1 => ?_) (fun c1 => ?_)
  · have h := h.1 c1
    refine qr_bipush 9 11 rfl (q_l32 _ rfl) (by decide) dX11_restore_9 ?_
    exact qe_i 11 rfl dX11_restore_11 h
  · have h := h.2 c1
    refine qr_iload_n 4 5 rfl (x := x1) rfl dX11_restore_4 ?_
    refine qr_iconst 5 6 rfl (q_l32 _ rfl) dX11_restore_5 ?_
    refine qr_icmp_lt 6 9 12 rfl (by decide) dX11_restore_6 (fun c6 => ?_) (fun c6 => ?_)
    · have h := h.1 c6
      refine qr_aload_n 12 13 rfl (x := 1) rfl dX11_restore_12 ?_
      refine qr_getF 13 16 rfl ck11 10 (by decide) (b := 88) (by decide +kernel) rfl (by decide +kernel) (by decide +kernel) wm_387 rfl dX11_restore_13 ?_
      refine qr_iload_n 16 17 rfl (x := x1) rfl dX11_restore_16 ?_
      have hb1 := h.1
      have h := h.2
      refine qa_ld 17 18 rfl (N := 2) (by decide +kernel) (by decide +kernel) hb1.1 hb1.2 dX11_restore_17 ?_
      refine qn_r 18 (fun x2_2 e_x2_2 => ?_)
      have h := h x2_2 e_x2_2
      refine qr_astore_n 18 19 rfl (by decide) rfl rfl dX11_restore_18 ?_
      refine qr_aload_n 19 20 rfl (x := x2_2) rfl dX11_restore_19 ?_
      have hk3 := h.1
      have h := h.2
      refine qg_i 20 23 rfl ck1 0 (kk := 0) (by decide) hk3 (by decide +kernel) rfl wm_318 rfl dX11_restore_20 ?_
      refine qr_if_ne 23 26 29 rfl (by decide) dX11_restore_23 (fun c23 => ?_) (fun c23 => ?_)
      · have h := h.1 c23
        refine qr_aload_n 29 30 rfl (x := 1) rfl dX11_restore_29 ?_
        refine qg_r 30 33 rfl ck11 4 (kk := 4) (by decide) (by decide +kernel) (by decide +kernel) rfl wm_381 rfl dX11_restore_30 ?_
        refine qr_aload_n 33 34 rfl (x := x2_2) rfl dX11_restore_33 ?_
        refine qr_getF 34 37 rfl ck1 1 (by decide) (b := (q_lay x2_2 1)) hk3 rfl (by decide +kernel) rfl wm_320 rfl dX11_restore_34 ?_
        have hk4 := h.1
        have h := h.2
        refine qw_U 37 40 rfl (av := [qR (q_lay x2_2 1)]) ca_X4_takeFrom wm_1300 wm_1301 wm_1299 ck4 hk4 rfl rfl (Nat.le_of_ble_eq_true rfl) dX11_restore_37 h (fun M5 h => ?_)
        refine qr_aload_n 40 41 rfl (x := 1) rfl dX11_restore_40 ?_
        refine qr_getF 41 44 rfl ck11 7 (by decide) (b := 50) (by decide +kernel) rfl (by decide +kernel) (by decide +kernel) wm_384 rfl dX11_restore_41 ?_
        refine qr_aload_n 44 45 rfl (x := x2_2) rfl dX11_restore_44 ?_
        refine qr_getF 45 48 rfl ck1 2 (by decide) (b := (q_lay x2_2 2)) hk3 rfl (by decide +kernel) rfl wm_322 rfl dX11_restore_45 ?_
        refine qw_U 48 51 rfl (av := [qR (q_lay x2_2 2)]) ca_X7_takeFrom wm_916 wm_917 wm_1026 ck7 (by decide +kernel) rfl rfl (Nat.le_of_ble_eq_true rfl) dX11_restore_48 h (fun M6 h => ?_)
        refine qr_aload_n 51 52 rfl (x := 1) rfl dX11_restore_51 ?_
        refine qr_getF 52 55 rfl ck11 9 (by decide) (b := 56) (by decide +kernel) rfl (by decide +kernel) (by decide +kernel) wm_386 rfl dX11_restore_52 ?_
        refine qw_U 55 58 rfl (av := []) ca_X0_forget wm_738 wm_739 wm_737 ck0 (by decide +kernel) rfl rfl (Nat.le_of_ble_eq_true rfl) dX11_restore_55 h (fun M7 h => ?_)
        refine qr_aload_n 58 59 rfl (x := 1) rfl dX11_restore_58 ?_
        refine qr_iconst 59 60 rfl (q_l32 _ rfl) dX11_restore_59 ?_
        refine qp_i 60 63 rfl ck11 18 (kk := 18) (by decide) (by decide +kernel) (by decide) rfl rfl wm_395 rfl dX11_restore_60 (fun M8 e_M8 => ?_)
        have h := h M8 e_M8
        refine qr_iconst 63 64 rfl (q_l32 _ rfl) dX11_restore_63 ?_
        exact qe_i 64 rfl dX11_restore_64 h
      · have h := h.2 c23
        refine qr_bipush 26 28 rfl (q_l32 _ rfl) (by decide) dX11_restore_26 ?_
        exact qe_i 28 rfl dX11_restore_28 h
    · have h := h.2 c6
      refine qr_bipush 9 11 rfl (q_l32 _ rfl) (by decide) dX11_restore_9 ?_
      exact qe_i 11 rfl dX11_restore_11 h
theorem dX11_count_0 : decode cX11_count 0 = .ok (.iload_n 1, 1) := by decide +kernel
theorem dX11_count_1 : decode cX11_count 1 = .ok (.tableswitch 120 0 8 #[51, 59, 67, 75, 83, 94, 99, 107, 112], 51) := by decide +kernel
theorem dX11_count_52 : decode cX11_count 52 = .ok (.aload_n 0, 1) := by decide +kernel
theorem dX11_count_53 : decode cX11_count 53 = .ok (.getfield 20, 3) := by decide +kernel
theorem dX11_count_56 : decode cX11_count 56 = .ok (.getfield 171, 3) := by decide +kernel
theorem dX11_count_59 : decode cX11_count 59 = .ok (.ireturn, 1) := by decide +kernel
theorem dX11_count_60 : decode cX11_count 60 = .ok (.aload_n 0, 1) := by decide +kernel
theorem dX11_count_61 : decode cX11_count 61 = .ok (.getfield 20, 3) := by decide +kernel
theorem dX11_count_64 : decode cX11_count 64 = .ok (.getfield 165, 3) := by decide +kernel
theorem dX11_count_67 : decode cX11_count 67 = .ok (.ireturn, 1) := by decide +kernel
theorem dX11_count_68 : decode cX11_count 68 = .ok (.aload_n 0, 1) := by decide +kernel
theorem dX11_count_69 : decode cX11_count 69 = .ok (.getfield 37, 3) := by decide +kernel
theorem dX11_count_72 : decode cX11_count 72 = .ok (.getfield 208, 3) := by decide +kernel
theorem dX11_count_75 : decode cX11_count 75 = .ok (.ireturn, 1) := by decide +kernel
theorem dX11_count_76 : decode cX11_count 76 = .ok (.aload_n 0, 1) := by decide +kernel
theorem dX11_count_77 : decode cX11_count 77 = .ok (.getfield 37, 3) := by decide +kernel
theorem dX11_count_80 : decode cX11_count 80 = .ok (.getfield 189, 3) := by decide +kernel
theorem dX11_count_83 : decode cX11_count 83 = .ok (.ireturn, 1) := by decide +kernel
theorem dX11_count_84 : decode cX11_count 84 = .ok (.aload_n 0, 1) := by decide +kernel
theorem dX11_count_85 : decode cX11_count 85 = .ok (.iconst 2, 1) := by decide +kernel
theorem dX11_count_86 : decode cX11_count 86 = .ok (.invokevirtual 153, 3) := by decide +kernel
theorem dX11_count_89 : decode cX11_count 89 = .ok (.aload_n 0, 1) := by decide +kernel
theorem dX11_count_90 : decode cX11_count 90 = .ok (.iconst 1, 1) := by decide +kernel
theorem dX11_count_91 : decode cX11_count 91 = .ok (.invokevirtual 307, 3) := by decide +kernel
theorem dX11_count_94 : decode cX11_count 94 = .ok (.ireturn, 1) := by decide +kernel
theorem dX11_count_95 : decode cX11_count 95 = .ok (.aload_n 0, 1) := by decide +kernel
theorem dX11_count_96 : decode cX11_count 96 = .ok (.invokevirtual 259, 3) := by decide +kernel
theorem dX11_count_99 : decode cX11_count 99 = .ok (.ireturn, 1) := by decide +kernel
theorem dX11_count_100 : decode cX11_count 100 = .ok (.aload_n 0, 1) := by decide +kernel
theorem dX11_count_101 : decode cX11_count 101 = .ok (.getfield 47, 3) := by decide +kernel
theorem dX11_count_104 : decode cX11_count 104 = .ok (.getfield 237, 3) := by decide +kernel
theorem dX11_count_107 : decode cX11_count 107 = .ok (.ireturn, 1) := by decide +kernel
theorem dX11_count_108 : decode cX11_count 108 = .ok (.aload_n 0, 1) := by decide +kernel
theorem dX11_count_109 : decode cX11_count 109 = .ok (.getfield 103, 3) := by decide +kernel
theorem dX11_count_112 : decode cX11_count 112 = .ok (.ireturn, 1) := by decide +kernel
theorem dX11_count_113 : decode cX11_count 113 = .ok (.aload_n 0, 1) := by decide +kernel
theorem dX11_count_114 : decode cX11_count 114 = .ok (.getfield 20, 3) := by decide +kernel
theorem dX11_count_117 : decode cX11_count 117 = .ok (.getfield 133, 3) := by decide +kernel
theorem dX11_count_120 : decode cX11_count 120 = .ok (.ireturn, 1) := by decide +kernel
theorem dX11_count_121 : decode cX11_count 121 = .ok (.iconst (-1), 1) := by decide +kernel
theorem dX11_count_122 : decode cX11_count 122 = .ok (.ireturn, 1) := by decide +kernel
theorem txX11_count_1 (x : Int) (h : ¬ (x < 0 ∨ 8 < x)) (h0 : ¬ x = 0) (h1 : ¬ x = 1) (h2 : ¬ x = 2) (h3 : ¬ x = 3) (h4 : ¬ x = 4) (h5 : ¬ x = 5) (h6 : ¬ x = 6) (h7 : ¬ x = 7) (h8 : ¬ x = 8) : False := by omega
theorem bX11_count_0 {d : Nat} {P : Int → q_Mem → Prop} {M : q_Mem} (x1 : Int) (h : (((x1 < 0 ∨ 8 < x1) → P (-1) M) ∧ (((x1 = 0) → q_kd (M 1 4) = 4 ∧ (P (M (M 1 4) 0) M)) ∧ (((x1 = 1) → q_kd (M 1 4) = 4 ∧ (P (M (M 1 4) 1) M)) ∧ (((x1 = 2) → P (M 50 0) M) ∧ (((x1 = 3) → P (M 50 1) M) ∧ (((x1 = 4) → q_kU yX11_need mX11_need d [qR 1, qI 2] M (fun M3 => q_kI yX11_goodLinks mX11_goodLinks d [qR 1, qI 1] M3 (fun v5 M4 => P v5 M4))) ∧ (((x1 = 5) → q_kI yX11_cutBits mX11_cutBits d [qR 1] M (fun v7 M6 => P v7 M6)) ∧ (((x1 = 6) → P (M 56 0) M) ∧ (((x1 = 7) → P (M 1 1) M) ∧ (((x1 = 8) → q_kd (M 1 4) = 4 ∧ (P (M (M 1 4) 2) M))))))))))))) : q_v mX11_count d (qPI P) M 0 [some (qR 1), some (qI x1)] [] := by
  refine qr_iload_n 0 1 rfl (x := x1) rfl dX11_count_0 ?_
  by_cases c1 : x1 < 0 ∨ 8 < x1
  · have h := h.1 c1
    refine qr_tabOut 1 121 c1 (by decide) dX11_count_1 ?_
    refine qr_iconst 121 122 rfl (q_l32 _ rfl) dX11_count_121 ?_
    exact qe_i 122 rfl dX11_count_122 h
  have h := h.2
  by_cases e1_0 : x1 = 0
  · have h := h.1 e1_0
    refine qr_tabIn 1 52 0 (e1_0.trans (by decide)) (by decide) rfl (by decide) dX11_count_1 ?_
    refine qr_aload_n 52 53 rfl (x := 1) rfl dX11_count_52 ?_
    refine qg_r 53 56 rfl ck11 4 (kk := 4) (by decide) (by decide +kernel) (by decide +kernel) rfl wm_381 rfl dX11_count_53 ?_
    have hk1 := h.1
    have h := h.2
    refine qg_i 56 59 rfl ck4 0 (kk := 0) (by decide) hk1 (by decide +kernel) rfl wm_63 rfl dX11_count_56 ?_
    exact qe_i 59 rfl dX11_count_59 h
  have h := h.2
  by_cases e1_1 : x1 = 1
  · have h := h.1 e1_1
    refine qr_tabIn 1 60 1 (e1_1.trans (by decide)) (by decide) rfl (by decide) dX11_count_1 ?_
    refine qr_aload_n 60 61 rfl (x := 1) rfl dX11_count_60 ?_
    refine qg_r 61 64 rfl ck11 4 (kk := 4) (by decide) (by decide +kernel) (by decide +kernel) rfl wm_381 rfl dX11_count_61 ?_
    have hk2 := h.1
    have h := h.2
    refine qg_i 64 67 rfl ck4 1 (kk := 1) (by decide) hk2 (by decide +kernel) rfl wm_68 rfl dX11_count_64 ?_
    exact qe_i 67 rfl dX11_count_67 h
  have h := h.2
  by_cases e1_2 : x1 = 2
  · have h := h.1 e1_2
    refine qr_tabIn 1 68 2 (e1_2.trans (by decide)) (by decide) rfl (by decide) dX11_count_1 ?_
    refine qr_aload_n 68 69 rfl (x := 1) rfl dX11_count_68 ?_
    refine qr_getF 69 72 rfl ck11 7 (by decide) (b := 50) (by decide +kernel) rfl (by decide +kernel) (by decide +kernel) wm_384 rfl dX11_count_69 ?_
    refine qg_i 72 75 rfl ck7 0 (kk := 0) (by decide) (by decide +kernel) (by decide +kernel) rfl wm_167 rfl dX11_count_72 ?_
    exact qe_i 75 rfl dX11_count_75 h
  have h := h.2
  by_cases e1_3 : x1 = 3
  · have h := h.1 e1_3
    refine qr_tabIn 1 76 3 (e1_3.trans (by decide)) (by decide) rfl (by decide) dX11_count_1 ?_
    refine qr_aload_n 76 77 rfl (x := 1) rfl dX11_count_76 ?_
    refine qr_getF 77 80 rfl ck11 7 (by decide) (b := 50) (by decide +kernel) rfl (by decide +kernel) (by decide +kernel) wm_384 rfl dX11_count_77 ?_
    refine qg_i 80 83 rfl ck7 1 (kk := 1) (by decide) (by decide +kernel) (by decide +kernel) rfl wm_170 rfl dX11_count_80 ?_
    exact qe_i 83 rfl dX11_count_83 h
  have h := h.2
  by_cases e1_4 : x1 = 4
  · have h := h.1 e1_4
    refine qr_tabIn 1 84 4 (e1_4.trans (by decide)) (by decide) rfl (by decide) dX11_count_1 ?_
    refine qr_aload_n 84 85 rfl (x := 1) rfl dX11_count_84 ?_
    refine qr_iconst 85 86 rfl (q_l32 _ rfl) dX11_count_85 ?_
    refine qw_U 86 89 rfl (av := [qI 2]) ca_X11_need wm_791 wp_35 wm_789 ck11 (by decide +kernel) rfl rfl (Nat.le_of_ble_eq_true rfl) dX11_count_86 h (fun M3 h => ?_)
    refine qr_aload_n 89 90 rfl (x := 1) rfl dX11_count_89 ?_
    refine qr_iconst 90 91 rfl (q_l32 _ rfl) dX11_count_90 ?_
    refine qw_I 91 94 rfl (av := [qI 1]) ca_X11_goodLinks wm_844 wp_39 wm_842 ck11 (by decide +kernel) rfl rfl (Nat.le_of_ble_eq_true rfl) dX11_count_91 h (fun v5 M4 h => ?_)
    exact qe_i 94 rfl dX11_count_94 h
  have h := h.2
  by_cases e1_5 : x1 = 5
  · have h := h.1 e1_5
    refine qr_tabIn 1 95 5 (e1_5.trans (by decide)) (by decide) rfl (by decide) dX11_count_1 ?_
    refine qr_aload_n 95 96 rfl (x := 1) rfl dX11_count_95 ?_
    refine qw_I 96 99 rfl (av := []) ca_X11_cutBits wm_935 wp_47 wm_933 ck11 (by decide +kernel) rfl rfl (Nat.le_of_ble_eq_true rfl) dX11_count_96 h (fun v7 M6 h => ?_)
    exact qe_i 99 rfl dX11_count_99 h
  have h := h.2
  by_cases e1_6 : x1 = 6
  · have h := h.1 e1_6
    refine qr_tabIn 1 100 6 (e1_6.trans (by decide)) (by decide) rfl (by decide) dX11_count_1 ?_
    refine qr_aload_n 100 101 rfl (x := 1) rfl dX11_count_100 ?_
    refine qr_getF 101 104 rfl ck11 9 (by decide) (b := 56) (by decide +kernel) rfl (by decide +kernel) (by decide +kernel) wm_386 rfl dX11_count_101 ?_
    refine qg_i 104 107 rfl ck0 0 (kk := 0) (by decide) (by decide +kernel) (by decide +kernel) rfl wm_196 rfl dX11_count_104 ?_
    exact qe_i 107 rfl dX11_count_107 h
  have h := h.2
  by_cases e1_7 : x1 = 7
  · have h := h.1 e1_7
    refine qr_tabIn 1 108 7 (e1_7.trans (by decide)) (by decide) rfl (by decide) dX11_count_1 ?_
    refine qr_aload_n 108 109 rfl (x := 1) rfl dX11_count_108 ?_
    refine qg_i 109 112 rfl ck11 1 (kk := 1) (by decide) (by decide +kernel) (by decide +kernel) rfl wm_378 rfl dX11_count_109 ?_
    exact qe_i 112 rfl dX11_count_112 h
  have h := h.2
  by_cases e1_8 : x1 = 8
  · have h := h e1_8
    refine qr_tabIn 1 113 8 (e1_8.trans (by decide)) (by decide) rfl (by decide) dX11_count_1 ?_
    refine qr_aload_n 113 114 rfl (x := 1) rfl dX11_count_113 ?_
    refine qg_r 114 117 rfl ck11 4 (kk := 4) (by decide) (by decide +kernel) (by decide +kernel) rfl wm_381 rfl dX11_count_114 ?_
    have hk8 := h.1
    have h := h.2
    refine qg_i 117 120 rfl ck4 2 (kk := 2) (by decide) hk8 (by decide +kernel) rfl wm_71 rfl dX11_count_117 ?_
    exact qe_i 120 rfl dX11_count_120 h
  exact (txX11_count_1 x1 c1 e1_0 e1_1 e1_2 e1_3 e1_4 e1_5 e1_6 e1_7 e1_8).elim
theorem dX11_hasTray_0 : decode cX11_hasTray 0 = .ok (.iload_n 0, 1) := by decide +kernel
theorem dX11_hasTray_1 : decode cX11_hasTray 1 = .ok (.ifCond .lt 12, 3) := by decide +kernel
theorem dX11_hasTray_4 : decode cX11_hasTray 4 = .ok (.iload_n 0, 1) := by decide +kernel
theorem dX11_hasTray_5 : decode cX11_hasTray 5 = .ok (.iconst 4, 1) := by decide +kernel
theorem dX11_hasTray_6 : decode cX11_hasTray 6 = .ok (.if_icmp .ge 7, 3) := by decide +kernel
theorem dX11_hasTray_9 : decode cX11_hasTray 9 = .ok (.iconst 1, 1) := by decide +kernel
theorem dX11_hasTray_10 : decode cX11_hasTray 10 = .ok (.goto 4, 3) := by decide +kernel
theorem dX11_hasTray_13 : decode cX11_hasTray 13 = .ok (.iconst 0, 1) := by decide +kernel
theorem dX11_hasTray_14 : decode cX11_hasTray 14 = .ok (.ireturn, 1) := by decide +kernel
theorem bX11_hasTray_0 {d : Nat} {P : Int → q_Mem → Prop} {M : q_Mem} (x0 : Int) (h : ((x0 < 0) → P 0 M) ∧ ((¬ (x0 < 0)) → (((4 : Int) ≤ x0) → P 0 M) ∧ ((¬ ((4 : Int) ≤ x0)) → P 1 M))) : q_v mX11_hasTray d (qPI P) M 0 [some (qI x0)] [] := by
  refine qr_iload_n 0 1 rfl (x := x0) rfl dX11_hasTray_0 ?_
  refine qr_if_lt 1 4 13 rfl (by decide) dX11_hasTray_1 (fun c1 => ?_) (fun c1 => ?_)
  · have h := h.1 c1
    refine qr_iconst 13 14 rfl (q_l32 _ rfl) dX11_hasTray_13 ?_
    exact qe_z 14 rfl (by decide) dX11_hasTray_14 h
  · have h := h.2 c1
    refine qr_iload_n 4 5 rfl (x := x0) rfl dX11_hasTray_4 ?_
    refine qr_iconst 5 6 rfl (q_l32 _ rfl) dX11_hasTray_5 ?_
    refine qr_icmp_ge 6 9 13 rfl (by decide) dX11_hasTray_6 (fun c6 => ?_) (fun c6 => ?_)
    · have h := h.1 c6
      refine qr_iconst 13 14 rfl (q_l32 _ rfl) dX11_hasTray_13 ?_
      exact qe_z 14 rfl (by decide) dX11_hasTray_14 h
    · have h := h.2 c6
      refine qr_iconst 9 10 rfl (q_l32 _ rfl) dX11_hasTray_9 ?_
      refine qr_goto 10 14 (by decide) dX11_hasTray_10 ?_
      exact qe_z 14 rfl (by decide) dX11_hasTray_14 h
