-- blocks of methods (by program)
theorem dX12_perform_0 : decode cX12_perform 0 = .ok (.aload_n 0, 1) := by decide +kernel
theorem dX12_perform_1 : decode cX12_perform 1 = .ok (.iconst 0, 1) := by decide +kernel
theorem dX12_perform_2 : decode cX12_perform 2 = .ok (.putfield 1, 3) := by decide +kernel
theorem dX12_perform_5 : decode cX12_perform 5 = .ok (.aload_n 0, 1) := by decide +kernel
theorem dX12_perform_6 : decode cX12_perform 6 = .ok (.iload_n 1, 1) := by decide +kernel
theorem dX12_perform_7 : decode cX12_perform 7 = .ok (.invokevirtual 367, 3) := by decide +kernel
theorem dX12_perform_10 : decode cX12_perform 10 = .ok (.istore_n 2, 1) := by decide +kernel
theorem dX12_perform_11 : decode cX12_perform 11 = .ok (.iload_n 2, 1) := by decide +kernel
theorem dX12_perform_12 : decode cX12_perform 12 = .ok (.ifCond .eq 5, 3) := by decide +kernel
theorem dX12_perform_15 : decode cX12_perform 15 = .ok (.iload_n 2, 1) := by decide +kernel
theorem dX12_perform_16 : decode cX12_perform 16 = .ok (.ireturn, 1) := by decide +kernel
theorem dX12_perform_17 : decode cX12_perform 17 = .ok (.aload_n 0, 1) := by decide +kernel
theorem dX12_perform_18 : decode cX12_perform 18 = .ok (.invokevirtual 311, 3) := by decide +kernel
theorem dX12_perform_21 : decode cX12_perform 21 = .ok (.aload_n 0, 1) := by decide +kernel
theorem dX12_perform_22 : decode cX12_perform 22 = .ok (.iload_n 1, 1) := by decide +kernel
theorem dX12_perform_23 : decode cX12_perform 23 = .ok (.invokevirtual 370, 3) := by decide +kernel
theorem dX12_perform_26 : decode cX12_perform 26 = .ok (.istore_n 3, 1) := by decide +kernel
theorem dX12_perform_27 : decode cX12_perform 27 = .ok (.iload_n 3, 1) := by decide +kernel
theorem dX12_perform_28 : decode cX12_perform 28 = .ok (.iconst (-1), 1) := by decide +kernel
theorem dX12_perform_29 : decode cX12_perform 29 = .ok (.if_icmp .ne 10, 3) := by decide +kernel
theorem dX12_perform_32 : decode cX12_perform 32 = .ok (.aload_n 0, 1) := by decide +kernel
theorem dX12_perform_33 : decode cX12_perform 33 = .ok (.getfield 101, 3) := by decide +kernel
theorem dX12_perform_36 : decode cX12_perform 36 = .ok (.iload_n 1, 1) := by decide +kernel
theorem dX12_perform_37 : decode cX12_perform 37 = .ok (.iaload, 1) := by decide +kernel
theorem dX12_perform_38 : decode cX12_perform 38 = .ok (.istore_n 3, 1) := by decide +kernel
theorem dX12_perform_39 : decode cX12_perform 39 = .ok (.iload_n 3, 1) := by decide +kernel
theorem dX12_perform_40 : decode cX12_perform 40 = .ok (.ifCond .le 7, 3) := by decide +kernel
theorem dX12_perform_43 : decode cX12_perform 43 = .ok (.aload_n 0, 1) := by decide +kernel
theorem dX12_perform_44 : decode cX12_perform 44 = .ok (.invokevirtual 314, 3) := by decide +kernel
theorem dX12_perform_47 : decode cX12_perform 47 = .ok (.iload_n 3, 1) := by decide +kernel
theorem dX12_perform_48 : decode cX12_perform 48 = .ok (.ireturn, 1) := by decide +kernel
theorem bX12_perform_0 {d : Nat} {P : Int → q_Mem → Prop} {M : q_Mem} (x1 : Int) (h : (∀ M1 : q_Mem, M1 = q_up M 178 0 0 → q_kI yX12_noTray mX12_noTray d [qR 178, qI x1] M1 (fun v3 M2 => ((v3 = 0) → q_kU yX12_stores mX12_stores d [qR 178] M2 (fun M4 => q_kI yX12_tells mX12_tells d [qR 178, qI x1] M4 (fun v6 M5 => ((¬ v6 = ((-1) : Int)) → q_v mX12_perform d (qPI P) M5 39 [some (qR 178), none, none, some (qI v6)] []) ∧ ((v6 = ((-1) : Int)) → (0 ≤ x1 ∧ x1 < (4 : Int)) ∧ (∀ x3_8 : Int, x3_8 = (M5 206 x1) → q_v mX12_perform d (qPI P) M5 39 [some (qR 178), none, none, some (qI x3_8)] []))))) ∧ ((¬ (v3 = 0)) → P v3 M2)))) : q_v mX12_perform d (qPI P) M 0 [some (qR 178), some (qI x1), none, none] [] := by
  refine qr_aload_n 0 1 rfl (x := 178) rfl dX12_perform_0 ?_
  refine qr_iconst 1 2 rfl (q_l32 _ rfl) dX12_perform_1 ?_
  refine qp_i 2 5 rfl ck12 0 (kk := 0) (by decide) (by decide +kernel) (by decide) rfl rfl wm_1326 rfl dX12_perform_2 (fun M1 e_M1 => ?_)
  have h := h M1 e_M1
  refine qr_aload_n 5 6 rfl (x := 178) rfl dX12_perform_5 ?_
  refine qr_iload_n 6 7 rfl (x := x1) rfl dX12_perform_6 ?_
  refine qw_I 7 10 rfl (av := [qI x1]) ca_X12_noTray wm_1803 wp_131 wm_1801 ck12 (by decide +kernel) rfl rfl (Nat.le_of_ble_eq_true rfl) dX12_perform_7 h (fun v3 M2 h => ?_)
  refine qr_istore_n 10 11 rfl (by decide) rfl rfl dX12_perform_10 ?_
  refine qr_iload_n 11 12 rfl (x := v3) rfl dX12_perform_11 ?_
  refine qr_if_eq 12 15 17 rfl (by decide) dX12_perform_12 (fun c12 => ?_) (fun c12 => ?_)
  · have h := h.1 c12
    refine qr_aload_n 17 18 rfl (x := 178) rfl dX12_perform_17 ?_
    refine qw_U 18 21 rfl (av := []) ca_X12_stores wm_1671 wp_109 wm_1669 ck12 (by decide +kernel) rfl rfl (Nat.le_of_ble_eq_true rfl) dX12_perform_18 h (fun M4 h => ?_)
    refine qr_aload_n 21 22 rfl (x := 178) rfl dX12_perform_21 ?_
    refine qr_iload_n 22 23 rfl (x := x1) rfl dX12_perform_22 ?_
    refine qw_I 23 26 rfl (av := [qI x1]) ca_X12_tells wm_1807 wp_132 wm_1805 ck12 (by decide +kernel) rfl rfl (Nat.le_of_ble_eq_true rfl) dX12_perform_23 h (fun v6 M5 h => ?_)
    refine qr_istore_n 26 27 rfl (by decide) rfl rfl dX12_perform_26 ?_
    refine qr_iload_n 27 28 rfl (x := v6) rfl dX12_perform_27 ?_
    refine qr_iconst 28 29 rfl (q_l32 _ rfl) dX12_perform_28 ?_
    refine qr_icmp_ne 29 32 39 rfl (by decide) dX12_perform_29 (fun c29 => ?_) (fun c29 => ?_)
    · have h := h.1 c29
      exact qr_cut 39 (ls' := [some (qR 178), none, none, some (qI v6)]) (And.intro rfl (And.intro rfl trivial)) h
    · have h := h.2 c29
      refine qr_aload_n 32 33 rfl (x := 178) rfl dX12_perform_32 ?_
      refine qr_getF 33 36 rfl ck12 46 (by decide) (b := 206) (by decide +kernel) rfl (by decide +kernel) (by decide +kernel) wm_1372 rfl dX12_perform_33 ?_
      refine qr_iload_n 36 37 rfl (x := x1) rfl dX12_perform_36 ?_
      have hb7 := h.1
      have h := h.2
      refine qi_ld 37 38 rfl (N := 4) (by decide +kernel) (by decide +kernel) hb7.1 hb7.2 dX12_perform_37 ?_
      refine qn_i 38 (fun x3_8 e_x3_8 => ?_)
      have h := h x3_8 e_x3_8
      refine qr_istore_n 38 39 rfl (by decide) rfl rfl dX12_perform_38 ?_
      exact qr_cut 39 (ls' := [some (qR 178), none, none, some (qI x3_8)]) (And.intro rfl (And.intro rfl trivial)) h
  · have h := h.2 c12
    refine qr_iload_n 15 16 rfl (x := v3) rfl dX12_perform_15 ?_
    exact qe_i 16 rfl dX12_perform_16 h
theorem bX12_perform_39 {d : Nat} {P : Int → q_Mem → Prop} {M : q_Mem} (x3 : Int) (h : ((x3 ≤ 0) → P x3 M) ∧ ((¬ (x3 ≤ 0)) → q_kU yX12_notes mX12_notes d [qR 178] M (fun M1 => P x3 M1))) : q_v mX12_perform d (qPI P) M 39 [some (qR 178), none, none, some (qI x3)] [] := by
  refine qr_iload_n 39 40 rfl (x := x3) rfl dX12_perform_39 ?_
  refine qr_if_le 40 43 47 rfl (by decide) dX12_perform_40 (fun c40 => ?_) (fun c40 => ?_)
  · have h := h.1 c40
    refine qr_iload_n 47 48 rfl (x := x3) rfl dX12_perform_47 ?_
    exact qe_i 48 rfl dX12_perform_48 h
  · have h := h.2 c40
    refine qr_aload_n 43 44 rfl (x := 178) rfl dX12_perform_43 ?_
    refine qw_U 44 47 rfl (av := []) ca_X12_notes wm_1675 wp_110 wm_1673 ck12 (by decide +kernel) rfl rfl (Nat.le_of_ble_eq_true rfl) dX12_perform_44 h (fun M1 h => ?_)
    refine qr_iload_n 47 48 rfl (x := x3) rfl dX12_perform_47 ?_
    exact qe_i 48 rfl dX12_perform_48 h
theorem dX12_draw_0 : decode cX12_draw 0 = .ok (.aload_n 0, 1) := by decide +kernel
theorem dX12_draw_1 : decode cX12_draw 1 = .ok (.ldc_w 376, 3) := by decide +kernel
theorem dX12_draw_4 : decode cX12_draw 4 = .ok (.aload_n 0, 1) := by decide +kernel
theorem dX12_draw_5 : decode cX12_draw 5 = .ok (.getfield 377, 3) := by decide +kernel
theorem dX12_draw_8 : decode cX12_draw 8 = .ok (.imul, 1) := by decide +kernel
theorem dX12_draw_9 : decode cX12_draw 9 = .ok (.sipush 12345, 3) := by decide +kernel
theorem dX12_draw_12 : decode cX12_draw 12 = .ok (.iadd, 1) := by decide +kernel
theorem dX12_draw_13 : decode cX12_draw 13 = .ok (.putfield 377, 3) := by decide +kernel
theorem dX12_draw_16 : decode cX12_draw 16 = .ok (.aload_n 0, 1) := by decide +kernel
theorem dX12_draw_17 : decode cX12_draw 17 = .ok (.getfield 377, 3) := by decide +kernel
theorem dX12_draw_20 : decode cX12_draw 20 = .ok (.bipush 16, 2) := by decide +kernel
theorem dX12_draw_22 : decode cX12_draw 22 = .ok (.iushr, 1) := by decide +kernel
theorem dX12_draw_23 : decode cX12_draw 23 = .ok (.iload_n 1, 1) := by decide +kernel
theorem dX12_draw_24 : decode cX12_draw 24 = .ok (.irem, 1) := by decide +kernel
theorem dX12_draw_25 : decode cX12_draw 25 = .ok (.ireturn, 1) := by decide +kernel
theorem bX12_draw_0 {d : Nat} {P : Int → q_Mem → Prop} {M : q_Mem} (x1 : Int) (h : (∀ M1 : q_Mem, M1 = q_up M 178 28 (q_add (q_mul 1103515245 (M 178 28)) 12345) → x1 ≠ 0 ∧ (P (q_rem (q_ushr (M1 178 28) 16) x1) M1))) : q_v mX12_draw d (qPI P) M 0 [some (qR 178), some (qI x1)] [] := by
  refine qr_aload_n 0 1 rfl (x := 178) rfl dX12_draw_0 ?_
  refine qr_ldc_w 1 4 rfl (v := 1103515245) (q_l32 _ rfl) wm_1844 dX12_draw_1 ?_
  refine qr_aload_n 4 5 rfl (x := 178) rfl dX12_draw_4 ?_
  refine qg_i 5 8 rfl ck12 28 (kk := 28) (by decide) (by decide +kernel) (by decide +kernel) rfl wm_1354 rfl dX12_draw_5 ?_
  refine qr_imul 8 9 rfl dX12_draw_8 ?_
  refine qr_sipush 9 12 rfl (q_l32 _ rfl) (by decide) dX12_draw_9 ?_
  refine qr_iadd 12 13 rfl dX12_draw_12 ?_
  refine qp_i 13 16 rfl ck12 28 (kk := 28) (by decide) (by decide +kernel) (by decide) rfl rfl wm_1354 rfl dX12_draw_13 (fun M1 e_M1 => ?_)
  have h := h M1 e_M1
  refine qr_aload_n 16 17 rfl (x := 178) rfl dX12_draw_16 ?_
  refine qg_i 17 20 rfl ck12 28 (kk := 28) (by decide) (by decide +kernel) (by decide +kernel) rfl wm_1354 rfl dX12_draw_17 ?_
  refine qr_bipush 20 22 rfl (q_l32 _ rfl) (by decide) dX12_draw_20 ?_
  refine qr_iushr 22 23 rfl dX12_draw_22 ?_
  refine qr_iload_n 23 24 rfl (x := x1) rfl dX12_draw_23 ?_
  refine qr_irem 24 25 rfl h.1 dX12_draw_24 ?_
  have h := h.2
  exact qe_i 25 rfl dX12_draw_25 h
theorem dX12_drawn_0 : decode cX12_drawn 0 = .ok (.aload_n 0, 1) := by decide +kernel
theorem dX12_drawn_1 : decode cX12_drawn 1 = .ok (.bipush 6, 2) := by decide +kernel
theorem dX12_drawn_3 : decode cX12_drawn 3 = .ok (.invokevirtual 380, 3) := by decide +kernel
theorem dX12_drawn_6 : decode cX12_drawn 6 = .ok (.istore_n 1, 1) := by decide +kernel
theorem dX12_drawn_7 : decode cX12_drawn 7 = .ok (.iload_n 1, 1) := by decide +kernel
theorem dX12_drawn_8 : decode cX12_drawn 8 = .ok (.iconst 2, 1) := by decide +kernel
theorem dX12_drawn_9 : decode cX12_drawn 9 = .ok (.if_icmp .ge 10, 3) := by decide +kernel
theorem dX12_drawn_12 : decode cX12_drawn 12 = .ok (.aload_n 0, 1) := by decide +kernel
theorem dX12_drawn_13 : decode cX12_drawn 13 = .ok (.bipush 10, 2) := by decide +kernel
theorem dX12_drawn_15 : decode cX12_drawn 15 = .ok (.invokevirtual 380, 3) := by decide +kernel
theorem dX12_drawn_18 : decode cX12_drawn 18 = .ok (.ireturn, 1) := by decide +kernel
theorem dX12_drawn_19 : decode cX12_drawn 19 = .ok (.iload_n 1, 1) := by decide +kernel
theorem dX12_drawn_20 : decode cX12_drawn 20 = .ok (.iconst 2, 1) := by decide +kernel
theorem dX12_drawn_21 : decode cX12_drawn 21 = .ok (.if_icmp .ne 13, 3) := by decide +kernel
theorem dX12_drawn_24 : decode cX12_drawn 24 = .ok (.bipush 10, 2) := by decide +kernel
theorem dX12_drawn_26 : decode cX12_drawn 26 = .ok (.aload_n 0, 1) := by decide +kernel
theorem dX12_drawn_27 : decode cX12_drawn 27 = .ok (.bipush 10, 2) := by decide +kernel
theorem dX12_drawn_29 : decode cX12_drawn 29 = .ok (.invokevirtual 380, 3) := by decide +kernel
theorem dX12_drawn_32 : decode cX12_drawn 32 = .ok (.iadd, 1) := by decide +kernel
theorem dX12_drawn_33 : decode cX12_drawn 33 = .ok (.ireturn, 1) := by decide +kernel
theorem dX12_drawn_34 : decode cX12_drawn 34 = .ok (.iload_n 1, 1) := by decide +kernel
theorem dX12_drawn_35 : decode cX12_drawn 35 = .ok (.iconst 3, 1) := by decide +kernel
theorem dX12_drawn_36 : decode cX12_drawn 36 = .ok (.if_icmp .ne 14, 3) := by decide +kernel
theorem dX12_drawn_39 : decode cX12_drawn 39 = .ok (.bipush 100, 2) := by decide +kernel
theorem dX12_drawn_41 : decode cX12_drawn 41 = .ok (.aload_n 0, 1) := by decide +kernel
theorem dX12_drawn_42 : decode cX12_drawn 42 = .ok (.sipush 160, 3) := by decide +kernel
theorem dX12_drawn_45 : decode cX12_drawn 45 = .ok (.invokevirtual 380, 3) := by decide +kernel
theorem dX12_drawn_48 : decode cX12_drawn 48 = .ok (.iadd, 1) := by decide +kernel
theorem dX12_drawn_49 : decode cX12_drawn 49 = .ok (.ireturn, 1) := by decide +kernel
theorem dX12_drawn_50 : decode cX12_drawn 50 = .ok (.sipush 1000, 3) := by decide +kernel
theorem dX12_drawn_53 : decode cX12_drawn 53 = .ok (.sipush 1000, 3) := by decide +kernel
theorem dX12_drawn_56 : decode cX12_drawn 56 = .ok (.aload_n 0, 1) := by decide +kernel
theorem dX12_drawn_57 : decode cX12_drawn 57 = .ok (.bipush 16, 2) := by decide +kernel
theorem dX12_drawn_59 : decode cX12_drawn 59 = .ok (.invokevirtual 380, 3) := by decide +kernel
theorem dX12_drawn_62 : decode cX12_drawn 62 = .ok (.imul, 1) := by decide +kernel
theorem dX12_drawn_63 : decode cX12_drawn 63 = .ok (.iadd, 1) := by decide +kernel
theorem dX12_drawn_64 : decode cX12_drawn 64 = .ok (.istore_n 2, 1) := by decide +kernel
theorem dX12_drawn_65 : decode cX12_drawn 65 = .ok (.iload_n 2, 1) := by decide +kernel
theorem dX12_drawn_66 : decode cX12_drawn 66 = .ok (.aload_n 0, 1) := by decide +kernel
theorem dX12_drawn_67 : decode cX12_drawn 67 = .ok (.sipush 199, 3) := by decide +kernel
theorem dX12_drawn_70 : decode cX12_drawn 70 = .ok (.invokevirtual 380, 3) := by decide +kernel
theorem dX12_drawn_73 : decode cX12_drawn 73 = .ok (.iadd, 1) := by decide +kernel
theorem dX12_drawn_74 : decode cX12_drawn 74 = .ok (.ireturn, 1) := by decide +kernel
theorem bX12_drawn_0 {d : Nat} {P : Int → q_Mem → Prop} {M : q_Mem} (h : q_kI yX12_draw mX12_draw d [qR 178, qI 6] M (fun v2 M1 => (((2 : Int) ≤ v2) → ((¬ v2 = (2 : Int)) → ((¬ v2 = (3 : Int)) → q_kI yX12_draw mX12_draw d [qR 178, qI 16] M1 (fun v4 M3 => ∀ x2_5 : Int, x2_5 = (q_add 1000 (q_mul 1000 v4)) → q_kI yX12_draw mX12_draw d [qR 178, qI 199] M3 (fun v7 M6 => P (q_add x2_5 v7) M6))) ∧ ((v2 = (3 : Int)) → q_kI yX12_draw mX12_draw d [qR 178, qI 160] M1 (fun v9 M8 => P (q_add 100 v9) M8))) ∧ ((v2 = (2 : Int)) → q_kI yX12_draw mX12_draw d [qR 178, qI 10] M1 (fun v11 M10 => P (q_add 10 v11) M10))) ∧ ((¬ ((2 : Int) ≤ v2)) → q_kI yX12_draw mX12_draw d [qR 178, qI 10] M1 (fun v13 M12 => P v13 M12)))) : q_v mX12_drawn d (qPI P) M 0 [some (qR 178), none, none] [] := by
  refine qr_aload_n 0 1 rfl (x := 178) rfl dX12_drawn_0 ?_
  refine qr_bipush 1 3 rfl (q_l32 _ rfl) (by decide) dX12_drawn_1 ?_
  refine qw_I 3 6 rfl (av := [qI 6]) ca_X12_draw wm_1842 wp_137 wm_1840 ck12 (by decide +kernel) rfl rfl (Nat.le_of_ble_eq_true rfl) dX12_drawn_3 h (fun v2 M1 h => ?_)
  refine qr_istore_n 6 7 rfl (by decide) rfl rfl dX12_drawn_6 ?_
  refine qr_iload_n 7 8 rfl (x := v2) rfl dX12_drawn_7 ?_
  refine qr_iconst 8 9 rfl (q_l32 _ rfl) dX12_drawn_8 ?_
  refine qr_icmp_ge 9 12 19 rfl (by decide) dX12_drawn_9 (fun c9 => ?_) (fun c9 => ?_)
  · have h := h.1 c9
    refine qr_iload_n 19 20 rfl (x := v2) rfl dX12_drawn_19 ?_
    refine qr_iconst 20 21 rfl (q_l32 _ rfl) dX12_drawn_20 ?_
    refine qr_icmp_ne 21 24 34 rfl (by decide) dX12_drawn_21 (fun c21 => ?_) (fun c21 => ?_)
    · have h := h.1 c21
      refine qr_iload_n 34 35 rfl (x := v2) rfl dX12_drawn_34 ?_
      refine qr_iconst 35 36 rfl (q_l32 _ rfl) dX12_drawn_35 ?_
      refine qr_icmp_ne 36 39 50 rfl (by decide) dX12_drawn_36 (fun c36 => ?_) (fun c36 => ?_)
      · have h := h.1 c36
        refine qr_sipush 50 53 rfl (q_l32 _ rfl) (by decide) dX12_drawn_50 ?_
        refine qr_sipush 53 56 rfl (q_l32 _ rfl) (by decide) dX12_drawn_53 ?_
        refine qr_aload_n 56 57 rfl (x := 178) rfl dX12_drawn_56 ?_
        refine qr_bipush 57 59 rfl (q_l32 _ rfl) (by decide) dX12_drawn_57 ?_
        refine qw_I 59 62 rfl (av := [qI 16]) ca_X12_draw wm_1842 wp_137 wm_1840 ck12 (by decide +kernel) rfl rfl (Nat.le_of_ble_eq_true rfl) dX12_drawn_59 h (fun v4 M3 h => ?_)
        refine qr_imul 62 63 rfl dX12_drawn_62 ?_
        refine qr_iadd 63 64 rfl dX12_drawn_63 ?_
        refine qn_i 64 (fun x2_5 e_x2_5 => ?_)
        have h := h x2_5 e_x2_5
        refine qr_istore_n 64 65 rfl (by decide) rfl rfl dX12_drawn_64 ?_
        refine qr_iload_n 65 66 rfl (x := x2_5) rfl dX12_drawn_65 ?_
        refine qr_aload_n 66 67 rfl (x := 178) rfl dX12_drawn_66 ?_
        refine qr_sipush 67 70 rfl (q_l32 _ rfl) (by decide) dX12_drawn_67 ?_
        refine qw_I 70 73 rfl (av := [qI 199]) ca_X12_draw wm_1842 wp_137 wm_1840 ck12 (by decide +kernel) rfl rfl (Nat.le_of_ble_eq_true rfl) dX12_drawn_70 h (fun v7 M6 h => ?_)
        refine qr_iadd 73 74 rfl dX12_drawn_73 ?_
        exact qe_i 74 rfl dX12_drawn_74 h
      · have h := h.2 c36
        refine qr_bipush 39 41 rfl (q_l32 _ rfl) (by decide) dX12_drawn_39 ?_
        refine qr_aload_n 41 42 rfl (x := 178) rfl dX12_drawn_41 ?_
        refine qr_sipush 42 45 rfl (q_l32 _ rfl) (by decide) dX12_drawn_42 ?_
        refine qw_I 45 48 rfl (av := [qI 160]) ca_X12_draw wm_1842 wp_137 wm_1840 ck12 (by decide +kernel) rfl rfl (Nat.le_of_ble_eq_true rfl) dX12_drawn_45 h (fun v9 M8 h => ?_)
        refine qr_iadd 48 49 rfl dX12_drawn_48 ?_
        exact qe_i 49 rfl dX12_drawn_49 h
    · have h := h.2 c21
      refine qr_bipush 24 26 rfl (q_l32 _ rfl) (by decide) dX12_drawn_24 ?_
      refine qr_aload_n 26 27 rfl (x := 178) rfl dX12_drawn_26 ?_
      refine qr_bipush 27 29 rfl (q_l32 _ rfl) (by decide) dX12_drawn_27 ?_
      refine qw_I 29 32 rfl (av := [qI 10]) ca_X12_draw wm_1842 wp_137 wm_1840 ck12 (by decide +kernel) rfl rfl (Nat.le_of_ble_eq_true rfl) dX12_drawn_29 h (fun v11 M10 h => ?_)
      refine qr_iadd 32 33 rfl dX12_drawn_32 ?_
      exact qe_i 33 rfl dX12_drawn_33 h
  · have h := h.2 c9
    refine qr_aload_n 12 13 rfl (x := 178) rfl dX12_drawn_12 ?_
    refine qr_bipush 13 15 rfl (q_l32 _ rfl) (by decide) dX12_drawn_13 ?_
    refine qw_I 15 18 rfl (av := [qI 10]) ca_X12_draw wm_1842 wp_137 wm_1840 ck12 (by decide +kernel) rfl rfl (Nat.le_of_ble_eq_true rfl) dX12_drawn_15 h (fun v13 M12 h => ?_)
    exact qe_i 18 rfl dX12_drawn_18 h
theorem dX12_day_0 : decode cX12_day 0 = .ok (.aload_n 0, 1) := by decide +kernel
theorem dX12_day_1 : decode cX12_day 1 = .ok (.iconst 0, 1) := by decide +kernel
theorem dX12_day_2 : decode cX12_day 2 = .ok (.putfield 1, 3) := by decide +kernel
theorem dX12_day_5 : decode cX12_day 5 = .ok (.iload_n 2, 1) := by decide +kernel
theorem dX12_day_6 : decode cX12_day 6 = .ok (.i2l, 1) := by decide +kernel
theorem dX12_day_7 : decode cX12_day 7 = .ok (.lconst 1, 1) := by decide +kernel
theorem dX12_day_8 : decode cX12_day 8 = .ok (.ldc2_w 383, 3) := by decide +kernel
theorem dX12_day_11 : decode cX12_day 11 = .ok (.invokestatic 176, 3) := by decide +kernel
theorem dX12_day_14 : decode cX12_day 14 = .ok (.ifCond .ne 6, 3) := by decide +kernel
theorem dX12_day_17 : decode cX12_day 17 = .ok (.bipush (-3), 2) := by decide +kernel
theorem dX12_day_19 : decode cX12_day 19 = .ok (.ireturn, 1) := by decide +kernel
theorem dX12_day_20 : decode cX12_day 20 = .ok (.aload_n 0, 1) := by decide +kernel
theorem dX12_day_21 : decode cX12_day 21 = .ok (.invokevirtual 311, 3) := by decide +kernel
theorem dX12_day_24 : decode cX12_day 24 = .ok (.aload_n 0, 1) := by decide +kernel
theorem dX12_day_25 : decode cX12_day 25 = .ok (.iload_n 1, 1) := by decide +kernel
theorem dX12_day_26 : decode cX12_day 26 = .ok (.putfield 377, 3) := by decide +kernel
theorem dX12_day_29 : decode cX12_day 29 = .ok (.iconst 0, 1) := by decide +kernel
theorem dX12_day_30 : decode cX12_day 30 = .ok (.istore_n 3, 1) := by decide +kernel
theorem dX12_day_31 : decode cX12_day 31 = .ok (.iconst 0, 1) := by decide +kernel
theorem dX12_day_32 : decode cX12_day 32 = .ok (.istore 4, 2) := by decide +kernel
theorem dX12_day_34 : decode cX12_day 34 = .ok (.iload 4, 2) := by decide +kernel
theorem dX12_day_36 : decode cX12_day 36 = .ok (.iload_n 2, 1) := by decide +kernel
theorem dX12_day_37 : decode cX12_day 37 = .ok (.if_icmp .ge 37, 3) := by decide +kernel
theorem dX12_day_40 : decode cX12_day 40 = .ok (.aload_n 0, 1) := by decide +kernel
theorem dX12_day_41 : decode cX12_day 41 = .ok (.invokevirtual 385, 3) := by decide +kernel
theorem dX12_day_44 : decode cX12_day 44 = .ok (.istore 5, 2) := by decide +kernel
theorem dX12_day_46 : decode cX12_day 46 = .ok (.aload_n 0, 1) := by decide +kernel
theorem dX12_day_47 : decode cX12_day 47 = .ok (.iload 5, 2) := by decide +kernel
theorem dX12_day_49 : decode cX12_day 49 = .ok (.i2l, 1) := by decide +kernel
theorem dX12_day_50 : decode cX12_day 50 = .ok (.invokevirtual 361, 3) := by decide +kernel
theorem dX12_day_53 : decode cX12_day 53 = .ok (.ifCond .ne 6, 3) := by decide +kernel
theorem dX12_day_56 : decode cX12_day 56 = .ok (.goto 12, 3) := by decide +kernel
theorem dX12_day_59 : decode cX12_day 59 = .ok (.aload_n 0, 1) := by decide +kernel
theorem dX12_day_60 : decode cX12_day 60 = .ok (.iload 5, 2) := by decide +kernel
theorem dX12_day_62 : decode cX12_day 62 = .ok (.invokevirtual 364, 3) := by decide +kernel
theorem dX12_day_65 : decode cX12_day 65 = .ok (.iinc 3 1, 3) := by decide +kernel
theorem dX12_day_68 : decode cX12_day 68 = .ok (.iinc 4 1, 3) := by decide +kernel
theorem dX12_day_71 : decode cX12_day 71 = .ok (.goto (-37), 3) := by decide +kernel
theorem dX12_day_74 : decode cX12_day 74 = .ok (.iload_n 3, 1) := by decide +kernel
theorem dX12_day_75 : decode cX12_day 75 = .ok (.ifCond .le 7, 3) := by decide +kernel
theorem dX12_day_78 : decode cX12_day 78 = .ok (.aload_n 0, 1) := by decide +kernel
theorem dX12_day_79 : decode cX12_day 79 = .ok (.invokevirtual 314, 3) := by decide +kernel
theorem dX12_day_82 : decode cX12_day 82 = .ok (.iload_n 3, 1) := by decide +kernel
theorem dX12_day_83 : decode cX12_day 83 = .ok (.ireturn, 1) := by decide +kernel
theorem bX12_day_0 {d : Nat} {P : Int → q_Mem → Prop} {M : q_Mem} (x1 x2 : Int) (h : (∀ M1 : q_Mem, M1 = q_up M 178 0 0 → q_kI yX12_within mX12_within d [qL x2, qL 1, qL 40] M1 (fun v3 M2 => ((¬ v3 = 0) → q_kU yX12_stores mX12_stores d [qR 178] M2 (fun M4 => (∀ M5 : q_Mem, M5 = q_up M4 178 28 x1 → q_v mX12_day d (qPI P) M5 34 [some (qR 178), none, some (qI x2), some (qI 0), some (qI 0), none] []))) ∧ ((v3 = 0) → P (-3) M2)))) : q_v mX12_day d (qPI P) M 0 [some (qR 178), some (qI x1), some (qI x2), none, none, none] [] := by
  refine qr_aload_n 0 1 rfl (x := 178) rfl dX12_day_0 ?_
  refine qr_iconst 1 2 rfl (q_l32 _ rfl) dX12_day_1 ?_
  refine qp_i 2 5 rfl ck12 0 (kk := 0) (by decide) (by decide +kernel) (by decide) rfl rfl wm_1326 rfl dX12_day_2 (fun M1 e_M1 => ?_)
  have h := h M1 e_M1
  refine qr_iload_n 5 6 rfl (x := x2) rfl dX12_day_5 ?_
  refine qr_i2l 6 7 rfl dX12_day_6 ?_
  refine qr_lconst 7 8 rfl (w := 1) (q_l64 _ rfl) (by decide) dX12_day_7 ?_
  refine qr_ldc2 8 11 rfl (v := 40) (q_l64 _ rfl) wm_1835 dX12_day_8 ?_
  refine qs_I 11 14 rfl (av := [qL x2, qL 1, qL 40]) ca_X12_within wm_1481 wm_1480 rfl rfl (Nat.le_of_ble_eq_true rfl) dX12_day_11 h (fun v3 M2 h => ?_)
  refine qr_if_ne 14 17 20 rfl (by decide) dX12_day_14 (fun c14 => ?_) (fun c14 => ?_)
  · have h := h.1 c14
    refine qr_aload_n 20 21 rfl (x := 178) rfl dX12_day_20 ?_
    refine qw_U 21 24 rfl (av := []) ca_X12_stores wm_1671 wp_109 wm_1669 ck12 (by decide +kernel) rfl rfl (Nat.le_of_ble_eq_true rfl) dX12_day_21 h (fun M4 h => ?_)
    refine qr_aload_n 24 25 rfl (x := 178) rfl dX12_day_24 ?_
    refine qr_iload_n 25 26 rfl (x := x1) rfl dX12_day_25 ?_
    refine qp_i 26 29 rfl ck12 28 (kk := 28) (by decide) (by decide +kernel) (by decide) rfl rfl wm_1354 rfl dX12_day_26 (fun M5 e_M5 => ?_)
    have h := h M5 e_M5
    refine qr_iconst 29 30 rfl (q_l32 _ rfl) dX12_day_29 ?_
    refine qr_istore_n 30 31 rfl (by decide) rfl rfl dX12_day_30 ?_
    refine qr_iconst 31 32 rfl (q_l32 _ rfl) dX12_day_31 ?_
    refine qr_istore 32 34 rfl (by decide) rfl rfl dX12_day_32 ?_
    exact qr_cut 34 (ls' := [some (qR 178), none, some (qI x2), some (qI 0), some (qI 0), none]) (And.intro rfl (And.intro rfl (And.intro rfl (And.intro rfl trivial)))) h
  · have h := h.2 c14
    refine qr_bipush 17 19 rfl (q_l32 _ rfl) (by decide) dX12_day_17 ?_
    exact qe_i 19 rfl dX12_day_19 h
theorem bX12_day_34 {d : Nat} {P : Int → q_Mem → Prop} {M : q_Mem} (x2 x3 x4 : Int) (h : ((x2 ≤ x4) → ((x3 ≤ 0) → P x3 M) ∧ ((¬ (x3 ≤ 0)) → q_kU yX12_notes mX12_notes d [qR 178] M (fun M1 => P x3 M1))) ∧ ((¬ (x2 ≤ x4)) → q_kI yX12_drawn mX12_drawn d [qR 178] M (fun v3 M2 => q_kI yX12_canBe mX12_canBe d [qR 178, qL v3] M2 (fun v5 M4 => ((¬ v5 = 0) → q_kU yX12_does mX12_does d [qR 178, qI v3] M4 (fun M6 => q_v mX12_day d (qPI P) M6 34 [some (qR 178), none, some (qI x2), some (qI (q_add x3 1)), some (qI (q_add x4 1)), none] [])) ∧ ((v5 = 0) → q_v mX12_day d (qPI P) M4 34 [some (qR 178), none, some (qI x2), some (qI x3), some (qI (q_add x4 1)), none] []))))) : q_v mX12_day d (qPI P) M 34 [some (qR 178), none, some (qI x2), some (qI x3), some (qI x4), none] [] := by
  refine qr_iload 34 36 rfl (x := x4) rfl dX12_day_34 ?_
  refine qr_iload_n 36 37 rfl (x := x2) rfl dX12_day_36 ?_
  refine qr_icmp_ge 37 40 74 rfl (by decide) dX12_day_37 (fun c37 => ?_) (fun c37 => ?_)
  · have h := h.1 c37
    refine qr_iload_n 74 75 rfl (x := x3) rfl dX12_day_74 ?_
    refine qr_if_le 75 78 82 rfl (by decide) dX12_day_75 (fun c75 => ?_) (fun c75 => ?_)
    · have h := h.1 c75
      refine qr_iload_n 82 83 rfl (x := x3) rfl dX12_day_82 ?_
      exact qe_i 83 rfl dX12_day_83 h
    · have h := h.2 c75
      refine qr_aload_n 78 79 rfl (x := 178) rfl dX12_day_78 ?_
      refine qw_U 79 82 rfl (av := []) ca_X12_notes wm_1675 wp_110 wm_1673 ck12 (by decide +kernel) rfl rfl (Nat.le_of_ble_eq_true rfl) dX12_day_79 h (fun M1 h => ?_)
      refine qr_iload_n 82 83 rfl (x := x3) rfl dX12_day_82 ?_
      exact qe_i 83 rfl dX12_day_83 h
  · have h := h.2 c37
    refine qr_aload_n 40 41 rfl (x := 178) rfl dX12_day_40 ?_
    refine qw_I 41 44 rfl (av := []) ca_X12_drawn wm_1838 wp_136 wm_1836 ck12 (by decide +kernel) rfl rfl (Nat.le_of_ble_eq_true rfl) dX12_day_41 h (fun v3 M2 h => ?_)
    refine qr_istore 44 46 rfl (by decide) rfl rfl dX12_day_44 ?_
    refine qr_aload_n 46 47 rfl (x := 178) rfl dX12_day_46 ?_
    refine qr_iload 47 49 rfl (x := v3) rfl dX12_day_47 ?_
    refine qr_i2l 49 50 rfl dX12_day_49 ?_
    refine qw_I 50 53 rfl (av := [qL v3]) ca_X12_canBe wm_1811 wp_133 wm_1809 ck12 (by decide +kernel) rfl rfl (Nat.le_of_ble_eq_true rfl) dX12_day_50 h (fun v5 M4 h => ?_)
    refine qr_if_ne 53 56 59 rfl (by decide) dX12_day_53 (fun c53 => ?_) (fun c53 => ?_)
    · have h := h.1 c53
      refine qr_aload_n 59 60 rfl (x := 178) rfl dX12_day_59 ?_
      refine qr_iload 60 62 rfl (x := v3) rfl dX12_day_60 ?_
      refine qw_U 62 65 rfl (av := [qI v3]) ca_X12_does wm_1821 wp_134 wm_1819 ck12 (by decide +kernel) rfl rfl (Nat.le_of_ble_eq_true rfl) dX12_day_62 h (fun M6 h => ?_)
      refine qr_iinc 65 68 rfl (by decide) (x := x3) rfl rfl rfl dX12_day_65 ?_
      refine qr_iinc 68 71 rfl (by decide) (x := x4) rfl rfl rfl dX12_day_68 ?_
      refine qr_goto 71 34 (by decide) dX12_day_71 ?_
      exact qr_cut 34 (ls' := [some (qR 178), none, some (qI x2), some (qI (q_add x3 1)), some (qI (q_add x4 1)), none]) (And.intro rfl (And.intro rfl (And.intro rfl (And.intro rfl trivial)))) h
    · have h := h.2 c53
      refine qr_goto 56 68 (by decide) dX12_day_56 ?_
      refine qr_iinc 68 71 rfl (by decide) (x := x4) rfl rfl rfl dX12_day_68 ?_
      refine qr_goto 71 34 (by decide) dX12_day_71 ?_
      exact qr_cut 34 (ls' := [some (qR 178), none, some (qI x2), some (qI x3), some (qI (q_add x4 1)), none]) (And.intro rfl (And.intro rfl (And.intro rfl (And.intro rfl trivial)))) h
theorem dX12_faces_0 : decode cX12_faces 0 = .ok (.aload_n 0, 1) := by decide +kernel
theorem dX12_faces_1 : decode cX12_faces 1 = .ok (.iconst 0, 1) := by decide +kernel
theorem dX12_faces_2 : decode cX12_faces 2 = .ok (.putfield 1, 3) := by decide +kernel
theorem dX12_faces_5 : decode cX12_faces 5 = .ok (.aload_n 0, 1) := by decide +kernel
theorem dX12_faces_6 : decode cX12_faces 6 = .ok (.invokevirtual 290, 3) := by decide +kernel
theorem dX12_faces_9 : decode cX12_faces 9 = .ok (.aload_n 0, 1) := by decide +kernel
theorem dX12_faces_10 : decode cX12_faces 10 = .ok (.getfield 281, 3) := by decide +kernel
theorem dX12_faces_13 : decode cX12_faces 13 = .ok (.ireturn, 1) := by decide +kernel
theorem bX12_faces_0 {d : Nat} {P : Int → q_Mem → Prop} {M : q_Mem} (h : (∀ M1 : q_Mem, M1 = q_up M 178 0 0 → q_kU yX12_laysFaces mX12_laysFaces d [qR 178] M1 (fun M2 => P (M2 178 25) M2))) : q_v mX12_faces d (qPI P) M 0 [some (qR 178)] [] := by
  refine qr_aload_n 0 1 rfl (x := 178) rfl dX12_faces_0 ?_
  refine qr_iconst 1 2 rfl (q_l32 _ rfl) dX12_faces_1 ?_
  refine qp_i 2 5 rfl ck12 0 (kk := 0) (by decide) (by decide +kernel) (by decide) rfl rfl wm_1326 rfl dX12_faces_2 (fun M1 e_M1 => ?_)
  have h := h M1 e_M1
  refine qr_aload_n 5 6 rfl (x := 178) rfl dX12_faces_5 ?_
  refine qw_U 6 9 rfl (av := []) ca_X12_laysFaces wm_1615 wp_102 wm_1613 ck12 (by decide +kernel) rfl rfl (Nat.le_of_ble_eq_true rfl) dX12_faces_6 h (fun M2 h => ?_)
  refine qr_aload_n 9 10 rfl (x := 178) rfl dX12_faces_9 ?_
  refine qg_i 10 13 rfl ck12 25 (kk := 25) (by decide) (by decide +kernel) (by decide +kernel) rfl wm_1351 rfl dX12_faces_10 ?_
  exact qe_i 13 rfl dX12_faces_13 h
theorem dX12_face_0 : decode cX12_face 0 = .ok (.aload_n 0, 1) := by decide +kernel
theorem dX12_face_1 : decode cX12_face 1 = .ok (.iconst 0, 1) := by decide +kernel
theorem dX12_face_2 : decode cX12_face 2 = .ok (.putfield 1, 3) := by decide +kernel
theorem dX12_face_5 : decode cX12_face 5 = .ok (.aload_n 0, 1) := by decide +kernel
theorem dX12_face_6 : decode cX12_face 6 = .ok (.invokevirtual 290, 3) := by decide +kernel
theorem dX12_face_9 : decode cX12_face 9 = .ok (.aload_n 0, 1) := by decide +kernel
theorem dX12_face_10 : decode cX12_face 10 = .ok (.iload_n 1, 1) := by decide +kernel
theorem dX12_face_11 : decode cX12_face 11 = .ok (.i2l, 1) := by decide +kernel
theorem dX12_face_12 : decode cX12_face 12 = .ok (.invokevirtual 388, 3) := by decide +kernel
theorem dX12_face_15 : decode cX12_face 15 = .ok (.ifCond .eq 15, 3) := by decide +kernel
theorem dX12_face_18 : decode cX12_face 18 = .ok (.iload_n 2, 1) := by decide +kernel
theorem dX12_face_19 : decode cX12_face 19 = .ok (.i2l, 1) := by decide +kernel
theorem dX12_face_20 : decode cX12_face 20 = .ok (.lconst 0, 1) := by decide +kernel
theorem dX12_face_21 : decode cX12_face 21 = .ok (.ldc2_w 300, 3) := by decide +kernel
theorem dX12_face_24 : decode cX12_face 24 = .ok (.invokestatic 176, 3) := by decide +kernel
theorem dX12_face_27 : decode cX12_face 27 = .ok (.ifCond .ne 6, 3) := by decide +kernel
theorem dX12_face_30 : decode cX12_face 30 = .ok (.bipush (-2), 2) := by decide +kernel
theorem dX12_face_32 : decode cX12_face 32 = .ok (.ireturn, 1) := by decide +kernel
theorem dX12_face_33 : decode cX12_face 33 = .ok (.aload_n 0, 1) := by decide +kernel
theorem dX12_face_34 : decode cX12_face 34 = .ok (.invokevirtual 266, 3) := by decide +kernel
theorem dX12_face_37 : decode cX12_face 37 = .ok (.aload_n 0, 1) := by decide +kernel
theorem dX12_face_38 : decode cX12_face 38 = .ok (.iconst 1, 1) := by decide +kernel
theorem dX12_face_39 : decode cX12_face 39 = .ok (.invokevirtual 391, 3) := by decide +kernel
theorem dX12_face_42 : decode cX12_face 42 = .ok (.iload_n 2, 1) := by decide +kernel
theorem dX12_face_43 : decode cX12_face 43 = .ok (.ifCond .ne 12, 3) := by decide +kernel
theorem dX12_face_46 : decode cX12_face 46 = .ok (.aload_n 0, 1) := by decide +kernel
theorem dX12_face_47 : decode cX12_face 47 = .ok (.getfield 51, 3) := by decide +kernel
theorem dX12_face_50 : decode cX12_face 50 = .ok (.iload_n 1, 1) := by decide +kernel
theorem dX12_face_51 : decode cX12_face 51 = .ok (.iaload, 1) := by decide +kernel
theorem dX12_face_52 : decode cX12_face 52 = .ok (.goto 44, 3) := by decide +kernel
theorem dX12_face_55 : decode cX12_face 55 = .ok (.iload_n 2, 1) := by decide +kernel
theorem dX12_face_56 : decode cX12_face 56 = .ok (.iconst 1, 1) := by decide +kernel
theorem dX12_face_57 : decode cX12_face 57 = .ok (.if_icmp .ne 12, 3) := by decide +kernel
theorem dX12_face_60 : decode cX12_face 60 = .ok (.aload_n 0, 1) := by decide +kernel
theorem dX12_face_61 : decode cX12_face 61 = .ok (.getfield 48, 3) := by decide +kernel
theorem dX12_face_64 : decode cX12_face 64 = .ok (.iload_n 1, 1) := by decide +kernel
theorem dX12_face_65 : decode cX12_face 65 = .ok (.iaload, 1) := by decide +kernel
theorem dX12_face_66 : decode cX12_face 66 = .ok (.goto 30, 3) := by decide +kernel
theorem dX12_face_69 : decode cX12_face 69 = .ok (.iload_n 2, 1) := by decide +kernel
theorem dX12_face_70 : decode cX12_face 70 = .ok (.iconst 2, 1) := by decide +kernel
theorem dX12_face_71 : decode cX12_face 71 = .ok (.if_icmp .ne 20, 3) := by decide +kernel
theorem dX12_face_74 : decode cX12_face 74 = .ok (.aload_n 0, 1) := by decide +kernel
theorem dX12_face_75 : decode cX12_face 75 = .ok (.getfield 57, 3) := by decide +kernel
theorem dX12_face_78 : decode cX12_face 78 = .ok (.iload_n 1, 1) := by decide +kernel
theorem dX12_face_79 : decode cX12_face 79 = .ok (.baload, 1) := by decide +kernel
theorem dX12_face_80 : decode cX12_face 80 = .ok (.ifCond .eq 7, 3) := by decide +kernel
theorem dX12_face_83 : decode cX12_face 83 = .ok (.iconst 1, 1) := by decide +kernel
theorem dX12_face_84 : decode cX12_face 84 = .ok (.goto 12, 3) := by decide +kernel
theorem dX12_face_87 : decode cX12_face 87 = .ok (.iconst 0, 1) := by decide +kernel
theorem dX12_face_88 : decode cX12_face 88 = .ok (.goto 8, 3) := by decide +kernel
theorem dX12_face_91 : decode cX12_face 91 = .ok (.aload_n 0, 1) := by decide +kernel
theorem dX12_face_92 : decode cX12_face 92 = .ok (.iload_n 1, 1) := by decide +kernel
theorem dX12_face_93 : decode cX12_face 93 = .ok (.invokevirtual 394, 3) := by decide +kernel
theorem dX12_face_96 : decode cX12_face 96 = .ok (.ireturn, 1) := by decide +kernel
theorem bX12_face_0 {d : Nat} {P : Int → q_Mem → Prop} {M : q_Mem} (x1 x2 : Int) (h : (∀ M1 : q_Mem, M1 = q_up M 178 0 0 → q_kU yX12_laysFaces mX12_laysFaces d [qR 178] M1 (fun M2 => q_kI yX12_isFace mX12_isFace d [qR 178, qL x1] M2 (fun v4 M3 => ((v4 = 0) → P (-2) M3) ∧ ((¬ (v4 = 0)) → q_kI yX12_within mX12_within d [qL x2, qL 0, qL 3] M3 (fun v6 M5 => ((¬ v6 = 0) → q_kU yX12_laysWeights mX12_laysWeights d [qR 178] M5 (fun M7 => q_kU yX12_laysOdd mX12_laysOdd d [qR 178, qI 1] M7 (fun M8 => ((¬ x2 = 0) → ((¬ x2 = (1 : Int)) → ((¬ x2 = (2 : Int)) → q_kI yX12_meets mX12_meets d [qR 178, qI x1] M8 (fun v10 M9 => P v10 M9)) ∧ ((x2 = (2 : Int)) → (0 ≤ x1 ∧ x1 < (16 : Int)) ∧ ((((M8 192 x1) = 0) → P 0 M8) ∧ ((¬ ((M8 192 x1) = 0)) → P 1 M8)))) ∧ ((x2 = (1 : Int)) → (0 ≤ x1 ∧ x1 < (16 : Int)) ∧ (P (M8 189 x1) M8))) ∧ ((x2 = 0) → (0 ≤ x1 ∧ x1 < (16 : Int)) ∧ (P (M8 190 x1) M8))))) ∧ ((v6 = 0) → P (-2) M5))))))) : q_v mX12_face d (qPI P) M 0 [some (qR 178), some (qI x1), some (qI x2)] [] := by
  refine qr_aload_n 0 1 rfl (x := 178) rfl dX12_face_0 ?_
  refine qr_iconst 1 2 rfl (q_l32 _ rfl) dX12_face_1 ?_
  refine qp_i 2 5 rfl ck12 0 (kk := 0) (by decide) (by decide +kernel) (by decide) rfl rfl wm_1326 rfl dX12_face_2 (fun M1 e_M1 => ?_)
  have h := h M1 e_M1
  refine qr_aload_n 5 6 rfl (x := 178) rfl dX12_face_5 ?_
  refine qw_U 6 9 rfl (av := []) ca_X12_laysFaces wm_1615 wp_102 wm_1613 ck12 (by decide +kernel) rfl rfl (Nat.le_of_ble_eq_true rfl) dX12_face_6 h (fun M2 h => ?_)
  refine qr_aload_n 9 10 rfl (x := 178) rfl dX12_face_9 ?_
  refine qr_iload_n 10 11 rfl (x := x1) rfl dX12_face_10 ?_
  refine qr_i2l 11 12 rfl dX12_face_11 ?_
  refine qw_I 12 15 rfl (av := [qL x1]) ca_X12_isFace wm_1855 wp_138 wm_1853 ck12 (by decide +kernel) rfl rfl (Nat.le_of_ble_eq_true rfl) dX12_face_12 h (fun v4 M3 h => ?_)
  refine qr_if_eq 15 18 30 rfl (by decide) dX12_face_15 (fun c15 => ?_) (fun c15 => ?_)
  · have h := h.1 c15
    refine qr_bipush 30 32 rfl (q_l32 _ rfl) (by decide) dX12_face_30 ?_
    exact qe_i 32 rfl dX12_face_32 h
  · have h := h.2 c15
    refine qr_iload_n 18 19 rfl (x := x2) rfl dX12_face_18 ?_
    refine qr_i2l 19 20 rfl dX12_face_19 ?_
    refine qr_lconst 20 21 rfl (w := 0) (q_l64 _ rfl) (by decide) dX12_face_20 ?_
    refine qr_ldc2 21 24 rfl (v := 3) (q_l64 _ rfl) wm_1612 dX12_face_21 ?_
    refine qs_I 24 27 rfl (av := [qL x2, qL 0, qL 3]) ca_X12_within wm_1481 wm_1480 rfl rfl (Nat.le_of_ble_eq_true rfl) dX12_face_24 h (fun v6 M5 h => ?_)
    refine qr_if_ne 27 30 33 rfl (by decide) dX12_face_27 (fun c27 => ?_) (fun c27 => ?_)
    · have h := h.1 c27
      refine qr_aload_n 33 34 rfl (x := 178) rfl dX12_face_33 ?_
      refine qw_U 34 37 rfl (av := []) ca_X12_laysWeights wm_1687 wp_112 wm_1685 ck12 (by decide +kernel) rfl rfl (Nat.le_of_ble_eq_true rfl) dX12_face_34 h (fun M7 h => ?_)
      refine qr_aload_n 37 38 rfl (x := 178) rfl dX12_face_37 ?_
      refine qr_iconst 38 39 rfl (q_l32 _ rfl) dX12_face_38 ?_
      refine qw_U 39 42 rfl (av := [qI 1]) ca_X12_laysOdd wm_1739 wp_120 wm_1737 ck12 (by decide +kernel) rfl rfl (Nat.le_of_ble_eq_true rfl) dX12_face_39 h (fun M8 h => ?_)
      refine qr_iload_n 42 43 rfl (x := x2) rfl dX12_face_42 ?_
      refine qr_if_ne 43 46 55 rfl (by decide) dX12_face_43 (fun c43 => ?_) (fun c43 => ?_)
      · have h := h.1 c43
        refine qr_iload_n 55 56 rfl (x := x2) rfl dX12_face_55 ?_
        refine qr_iconst 56 57 rfl (q_l32 _ rfl) dX12_face_56 ?_
        refine qr_icmp_ne 57 60 69 rfl (by decide) dX12_face_57 (fun c57 => ?_) (fun c57 => ?_)
        · have h := h.1 c57
          refine qr_iload_n 69 70 rfl (x := x2) rfl dX12_face_69 ?_
          refine qr_iconst 70 71 rfl (q_l32 _ rfl) dX12_face_70 ?_
          refine qr_icmp_ne 71 74 91 rfl (by decide) dX12_face_71 (fun c71 => ?_) (fun c71 => ?_)
          · have h := h.1 c71
            refine qr_aload_n 91 92 rfl (x := 178) rfl dX12_face_91 ?_
            refine qr_iload_n 92 93 rfl (x := x1) rfl dX12_face_92 ?_
            refine qw_I 93 96 rfl (av := [qI x1]) ca_X12_meets wm_1859 wp_139 wm_1857 ck12 (by decide +kernel) rfl rfl (Nat.le_of_ble_eq_true rfl) dX12_face_93 h (fun v10 M9 h => ?_)
            exact qe_i 96 rfl dX12_face_96 h
          · have h := h.2 c71
            refine qr_aload_n 74 75 rfl (x := 178) rfl dX12_face_74 ?_
            refine qr_getF 75 78 rfl ck12 24 (by decide) (b := 192) (by decide +kernel) rfl (by decide +kernel) (by decide +kernel) wm_1350 rfl dX12_face_75 ?_
            refine qr_iload_n 78 79 rfl (x := x1) rfl dX12_face_78 ?_
            have hb11 := h.1
            have h := h.2
            refine qz_ld 79 80 rfl (N := 16) (by decide +kernel) (by decide +kernel) hb11.1 hb11.2 dX12_face_79 ?_
            refine qr_if_eq 80 83 87 rfl (by decide) dX12_face_80 (fun c80 => ?_) (fun c80 => ?_)
            · have h := h.1 c80
              refine qr_iconst 87 88 rfl (q_l32 _ rfl) dX12_face_87 ?_
              refine qr_goto 88 96 (by decide) dX12_face_88 ?_
              exact qe_i 96 rfl dX12_face_96 h
            · have h := h.2 c80
              refine qr_iconst 83 84 rfl (q_l32 _ rfl) dX12_face_83 ?_
              refine qr_goto 84 96 (by decide) dX12_face_84 ?_
              exact qe_i 96 rfl dX12_face_96 h
        · have h := h.2 c57
          refine qr_aload_n 60 61 rfl (x := 178) rfl dX12_face_60 ?_
          refine qr_getF 61 64 rfl ck12 21 (by decide) (b := 189) (by decide +kernel) rfl (by decide +kernel) (by decide +kernel) wm_1347 rfl dX12_face_61 ?_
          refine qr_iload_n 64 65 rfl (x := x1) rfl dX12_face_64 ?_
          have hb12 := h.1
          have h := h.2
          refine qi_ld 65 66 rfl (N := 16) (by decide +kernel) (by decide +kernel) hb12.1 hb12.2 dX12_face_65 ?_
          refine qr_goto 66 96 (by decide) dX12_face_66 ?_
          exact qe_i 96 rfl dX12_face_96 h
      · have h := h.2 c43
        refine qr_aload_n 46 47 rfl (x := 178) rfl dX12_face_46 ?_
        refine qr_getF 47 50 rfl ck12 22 (by decide) (b := 190) (by decide +kernel) rfl (by decide +kernel) (by decide +kernel) wm_1348 rfl dX12_face_47 ?_
        refine qr_iload_n 50 51 rfl (x := x1) rfl dX12_face_50 ?_
        have hb13 := h.1
        have h := h.2
        refine qi_ld 51 52 rfl (N := 16) (by decide +kernel) (by decide +kernel) hb13.1 hb13.2 dX12_face_51 ?_
        refine qr_goto 52 96 (by decide) dX12_face_52 ?_
        exact qe_i 96 rfl dX12_face_96 h
    · have h := h.2 c27
      refine qr_bipush 30 32 rfl (q_l32 _ rfl) (by decide) dX12_face_30 ?_
      exact qe_i 32 rfl dX12_face_32 h
theorem dX12_dart_0 : decode cX12_dart 0 = .ok (.aload_n 0, 1) := by decide +kernel
theorem dX12_dart_1 : decode cX12_dart 1 = .ok (.iconst 0, 1) := by decide +kernel
theorem dX12_dart_2 : decode cX12_dart 2 = .ok (.putfield 1, 3) := by decide +kernel
theorem dX12_dart_5 : decode cX12_dart 5 = .ok (.aload_n 0, 1) := by decide +kernel
theorem dX12_dart_6 : decode cX12_dart 6 = .ok (.invokevirtual 290, 3) := by decide +kernel
theorem dX12_dart_9 : decode cX12_dart 9 = .ok (.aload_n 0, 1) := by decide +kernel
theorem dX12_dart_10 : decode cX12_dart 10 = .ok (.iload_n 1, 1) := by decide +kernel
theorem dX12_dart_11 : decode cX12_dart 11 = .ok (.i2l, 1) := by decide +kernel
theorem dX12_dart_12 : decode cX12_dart 12 = .ok (.invokevirtual 388, 3) := by decide +kernel
theorem dX12_dart_15 : decode cX12_dart 15 = .ok (.ifCond .ne 6, 3) := by decide +kernel
theorem dX12_dart_18 : decode cX12_dart 18 = .ok (.bipush (-2), 2) := by decide +kernel
theorem dX12_dart_20 : decode cX12_dart 20 = .ok (.ireturn, 1) := by decide +kernel
theorem dX12_dart_21 : decode cX12_dart 21 = .ok (.iload_n 2, 1) := by decide +kernel
theorem dX12_dart_22 : decode cX12_dart 22 = .ok (.ifCond .ge 6, 3) := by decide +kernel
theorem dX12_dart_25 : decode cX12_dart 25 = .ok (.bipush (-3), 2) := by decide +kernel
theorem dX12_dart_27 : decode cX12_dart 27 = .ok (.ireturn, 1) := by decide +kernel
theorem dX12_dart_28 : decode cX12_dart 28 = .ok (.iload_n 2, 1) := by decide +kernel
theorem dX12_dart_29 : decode cX12_dart 29 = .ok (.aload_n 0, 1) := by decide +kernel
theorem dX12_dart_30 : decode cX12_dart 30 = .ok (.getfield 51, 3) := by decide +kernel
theorem dX12_dart_33 : decode cX12_dart 33 = .ok (.iload_n 1, 1) := by decide +kernel
theorem dX12_dart_34 : decode cX12_dart 34 = .ok (.iaload, 1) := by decide +kernel
theorem dX12_dart_35 : decode cX12_dart 35 = .ok (.if_icmp .ge 12, 3) := by decide +kernel
theorem dX12_dart_38 : decode cX12_dart 38 = .ok (.aload_n 0, 1) := by decide +kernel
theorem dX12_dart_39 : decode cX12_dart 39 = .ok (.iload_n 1, 1) := by decide +kernel
theorem dX12_dart_40 : decode cX12_dart 40 = .ok (.iload_n 2, 1) := by decide +kernel
theorem dX12_dart_41 : decode cX12_dart 41 = .ok (.invokevirtual 397, 3) := by decide +kernel
theorem dX12_dart_44 : decode cX12_dart 44 = .ok (.goto 4, 3) := by decide +kernel
theorem dX12_dart_47 : decode cX12_dart 47 = .ok (.iconst (-1), 1) := by decide +kernel
theorem dX12_dart_48 : decode cX12_dart 48 = .ok (.ireturn, 1) := by decide +kernel
theorem bX12_dart_0 {d : Nat} {P : Int → q_Mem → Prop} {M : q_Mem} (x1 x2 : Int) (h : (∀ M1 : q_Mem, M1 = q_up M 178 0 0 → q_kU yX12_laysFaces mX12_laysFaces d [qR 178] M1 (fun M2 => q_kI yX12_isFace mX12_isFace d [qR 178, qL x1] M2 (fun v4 M3 => ((¬ v4 = 0) → ((0 ≤ x2) → (0 ≤ x1 ∧ x1 < (16 : Int)) ∧ ((((M3 190 x1) ≤ x2) → P (-1) M3) ∧ ((¬ ((M3 190 x1) ≤ x2)) → q_kI yX12_dartAt mX12_dartAt d [qR 178, qI x1, qI x2] M3 (fun v7 M6 => P v7 M6)))) ∧ ((¬ (0 ≤ x2)) → P (-3) M3)) ∧ ((v4 = 0) → P (-2) M3))))) : q_v mX12_dart d (qPI P) M 0 [some (qR 178), some (qI x1), some (qI x2)] [] := by
  refine qr_aload_n 0 1 rfl (x := 178) rfl dX12_dart_0 ?_
  refine qr_iconst 1 2 rfl (q_l32 _ rfl) dX12_dart_1 ?_
  refine qp_i 2 5 rfl ck12 0 (kk := 0) (by decide) (by decide +kernel) (by decide) rfl rfl wm_1326 rfl dX12_dart_2 (fun M1 e_M1 => ?_)
  have h := h M1 e_M1
  refine qr_aload_n 5 6 rfl (x := 178) rfl dX12_dart_5 ?_
  refine qw_U 6 9 rfl (av := []) ca_X12_laysFaces wm_1615 wp_102 wm_1613 ck12 (by decide +kernel) rfl rfl (Nat.le_of_ble_eq_true rfl) dX12_dart_6 h (fun M2 h => ?_)
  refine qr_aload_n 9 10 rfl (x := 178) rfl dX12_dart_9 ?_
  refine qr_iload_n 10 11 rfl (x := x1) rfl dX12_dart_10 ?_
  refine qr_i2l 11 12 rfl dX12_dart_11 ?_
  refine qw_I 12 15 rfl (av := [qL x1]) ca_X12_isFace wm_1855 wp_138 wm_1853 ck12 (by decide +kernel) rfl rfl (Nat.le_of_ble_eq_true rfl) dX12_dart_12 h (fun v4 M3 h => ?_)
  refine qr_if_ne 15 18 21 rfl (by decide) dX12_dart_15 (fun c15 => ?_) (fun c15 => ?_)
  · have h := h.1 c15
    refine qr_iload_n 21 22 rfl (x := x2) rfl dX12_dart_21 ?_
    refine qr_if_ge 22 25 28 rfl (by decide) dX12_dart_22 (fun c22 => ?_) (fun c22 => ?_)
    · have h := h.1 c22
      refine qr_iload_n 28 29 rfl (x := x2) rfl dX12_dart_28 ?_
      refine qr_aload_n 29 30 rfl (x := 178) rfl dX12_dart_29 ?_
      refine qr_getF 30 33 rfl ck12 22 (by decide) (b := 190) (by decide +kernel) rfl (by decide +kernel) (by decide +kernel) wm_1348 rfl dX12_dart_30 ?_
      refine qr_iload_n 33 34 rfl (x := x1) rfl dX12_dart_33 ?_
      have hb5 := h.1
      have h := h.2
      refine qi_ld 34 35 rfl (N := 16) (by decide +kernel) (by decide +kernel) hb5.1 hb5.2 dX12_dart_34 ?_
      refine qr_icmp_ge 35 38 47 rfl (by decide) dX12_dart_35 (fun c35 => ?_) (fun c35 => ?_)
      · have h := h.1 c35
        refine qr_iconst 47 48 rfl (q_l32 _ rfl) dX12_dart_47 ?_
        exact qe_i 48 rfl dX12_dart_48 h
      · have h := h.2 c35
        refine qr_aload_n 38 39 rfl (x := 178) rfl dX12_dart_38 ?_
        refine qr_iload_n 39 40 rfl (x := x1) rfl dX12_dart_39 ?_
        refine qr_iload_n 40 41 rfl (x := x2) rfl dX12_dart_40 ?_
        refine qw_I 41 44 rfl (av := [qI x1, qI x2]) ca_X12_dartAt wm_1867 wp_140 wm_1865 ck12 (by decide +kernel) rfl rfl (Nat.le_of_ble_eq_true rfl) dX12_dart_41 h (fun v7 M6 h => ?_)
        refine qr_goto 44 48 (by decide) dX12_dart_44 ?_
        exact qe_i 48 rfl dX12_dart_48 h
    · have h := h.2 c22
      refine qr_bipush 25 27 rfl (q_l32 _ rfl) (by decide) dX12_dart_25 ?_
      exact qe_i 27 rfl dX12_dart_27 h
  · have h := h.2 c15
    refine qr_bipush 18 20 rfl (q_l32 _ rfl) (by decide) dX12_dart_18 ?_
    exact qe_i 20 rfl dX12_dart_20 h
theorem dX12_parts_0 : decode cX12_parts 0 = .ok (.aload_n 0, 1) := by decide +kernel
theorem dX12_parts_1 : decode cX12_parts 1 = .ok (.iconst 0, 1) := by decide +kernel
theorem dX12_parts_2 : decode cX12_parts 2 = .ok (.putfield 1, 3) := by decide +kernel
theorem dX12_parts_5 : decode cX12_parts 5 = .ok (.aload_n 0, 1) := by decide +kernel
theorem dX12_parts_6 : decode cX12_parts 6 = .ok (.invokevirtual 293, 3) := by decide +kernel
theorem dX12_parts_9 : decode cX12_parts 9 = .ok (.aload_n 0, 1) := by decide +kernel
theorem dX12_parts_10 : decode cX12_parts 10 = .ok (.getfield 287, 3) := by decide +kernel
theorem dX12_parts_13 : decode cX12_parts 13 = .ok (.ireturn, 1) := by decide +kernel
theorem bX12_parts_0 {d : Nat} {P : Int → q_Mem → Prop} {M : q_Mem} (h : (∀ M1 : q_Mem, M1 = q_up M 178 0 0 → q_kU yX12_laysParts mX12_laysParts d [qR 178] M1 (fun M2 => P (M2 178 26) M2))) : q_v mX12_parts d (qPI P) M 0 [some (qR 178)] [] := by
  refine qr_aload_n 0 1 rfl (x := 178) rfl dX12_parts_0 ?_
  refine qr_iconst 1 2 rfl (q_l32 _ rfl) dX12_parts_1 ?_
  refine qp_i 2 5 rfl ck12 0 (kk := 0) (by decide) (by decide +kernel) (by decide) rfl rfl wm_1326 rfl dX12_parts_2 (fun M1 e_M1 => ?_)
  have h := h M1 e_M1
  refine qr_aload_n 5 6 rfl (x := 178) rfl dX12_parts_5 ?_
  refine qw_U 6 9 rfl (av := []) ca_X12_laysParts wm_1714 wp_117 wm_1712 ck12 (by decide +kernel) rfl rfl (Nat.le_of_ble_eq_true rfl) dX12_parts_6 h (fun M2 h => ?_)
  refine qr_aload_n 9 10 rfl (x := 178) rfl dX12_parts_9 ?_
  refine qg_i 10 13 rfl ck12 26 (kk := 26) (by decide) (by decide +kernel) (by decide +kernel) rfl wm_1352 rfl dX12_parts_10 ?_
  exact qe_i 13 rfl dX12_parts_13 h
theorem dX12_twists_0 : decode cX12_twists 0 = .ok (.aload_n 0, 1) := by decide +kernel
theorem dX12_twists_1 : decode cX12_twists 1 = .ok (.iconst 0, 1) := by decide +kernel
theorem dX12_twists_2 : decode cX12_twists 2 = .ok (.putfield 1, 3) := by decide +kernel
theorem dX12_twists_5 : decode cX12_twists 5 = .ok (.aload_n 0, 1) := by decide +kernel
theorem dX12_twists_6 : decode cX12_twists 6 = .ok (.invokevirtual 327, 3) := by decide +kernel
theorem dX12_twists_9 : decode cX12_twists 9 = .ok (.ireturn, 1) := by decide +kernel
theorem bX12_twists_0 {d : Nat} {P : Int → q_Mem → Prop} {M : q_Mem} (h : (∀ M1 : q_Mem, M1 = q_up M 178 0 0 → q_kI yX12_twistsNow mX12_twistsNow d [qR 178] M1 (fun v3 M2 => P v3 M2))) : q_v mX12_twists d (qPI P) M 0 [some (qR 178)] [] := by
  refine qr_aload_n 0 1 rfl (x := 178) rfl dX12_twists_0 ?_
  refine qr_iconst 1 2 rfl (q_l32 _ rfl) dX12_twists_1 ?_
  refine qp_i 2 5 rfl ck12 0 (kk := 0) (by decide) (by decide +kernel) (by decide) rfl rfl wm_1326 rfl dX12_twists_2 (fun M1 e_M1 => ?_)
  have h := h M1 e_M1
  refine qr_aload_n 5 6 rfl (x := 178) rfl dX12_twists_5 ?_
  refine qw_I 6 9 rfl (av := []) ca_X12_twistsNow wm_1710 wp_116 wm_1708 ck12 (by decide +kernel) rfl rfl (Nat.le_of_ble_eq_true rfl) dX12_twists_6 h (fun v3 M2 h => ?_)
  exact qe_i 9 rfl dX12_twists_9 h
theorem dX12_odd_0 : decode cX12_odd 0 = .ok (.aload_n 0, 1) := by decide +kernel
theorem dX12_odd_1 : decode cX12_odd 1 = .ok (.iconst 0, 1) := by decide +kernel
theorem dX12_odd_2 : decode cX12_odd 2 = .ok (.putfield 1, 3) := by decide +kernel
theorem dX12_odd_5 : decode cX12_odd 5 = .ok (.aload_n 0, 1) := by decide +kernel
theorem dX12_odd_6 : decode cX12_odd 6 = .ok (.invokevirtual 290, 3) := by decide +kernel
theorem dX12_odd_9 : decode cX12_odd 9 = .ok (.aload_n 0, 1) := by decide +kernel
theorem dX12_odd_10 : decode cX12_odd 10 = .ok (.invokevirtual 266, 3) := by decide +kernel
theorem dX12_odd_13 : decode cX12_odd 13 = .ok (.aload_n 0, 1) := by decide +kernel
theorem dX12_odd_14 : decode cX12_odd 14 = .ok (.iconst 1, 1) := by decide +kernel
theorem dX12_odd_15 : decode cX12_odd 15 = .ok (.invokevirtual 391, 3) := by decide +kernel
theorem dX12_odd_18 : decode cX12_odd 18 = .ok (.iconst 0, 1) := by decide +kernel
theorem dX12_odd_19 : decode cX12_odd 19 = .ok (.istore_n 1, 1) := by decide +kernel
theorem dX12_odd_20 : decode cX12_odd 20 = .ok (.iconst 0, 1) := by decide +kernel
theorem dX12_odd_21 : decode cX12_odd 21 = .ok (.istore_n 2, 1) := by decide +kernel
theorem dX12_odd_22 : decode cX12_odd 22 = .ok (.iload_n 2, 1) := by decide +kernel
theorem dX12_odd_23 : decode cX12_odd 23 = .ok (.aload_n 0, 1) := by decide +kernel
theorem dX12_odd_24 : decode cX12_odd 24 = .ok (.getfield 281, 3) := by decide +kernel
theorem dX12_odd_27 : decode cX12_odd 27 = .ok (.if_icmp .ge 28, 3) := by decide +kernel
theorem dX12_odd_30 : decode cX12_odd 30 = .ok (.iload_n 1, 1) := by decide +kernel
theorem dX12_odd_31 : decode cX12_odd 31 = .ok (.aload_n 0, 1) := by decide +kernel
theorem dX12_odd_32 : decode cX12_odd 32 = .ok (.getfield 57, 3) := by decide +kernel
theorem dX12_odd_35 : decode cX12_odd 35 = .ok (.iload_n 2, 1) := by decide +kernel
theorem dX12_odd_36 : decode cX12_odd 36 = .ok (.baload, 1) := by decide +kernel
theorem dX12_odd_37 : decode cX12_odd 37 = .ok (.ifCond .eq 9, 3) := by decide +kernel
theorem dX12_odd_40 : decode cX12_odd 40 = .ok (.iconst 1, 1) := by decide +kernel
theorem dX12_odd_41 : decode cX12_odd 41 = .ok (.iload_n 2, 1) := by decide +kernel
theorem dX12_odd_42 : decode cX12_odd 42 = .ok (.ishl, 1) := by decide +kernel
theorem dX12_odd_43 : decode cX12_odd 43 = .ok (.goto 4, 3) := by decide +kernel
theorem dX12_odd_46 : decode cX12_odd 46 = .ok (.iconst 0, 1) := by decide +kernel
theorem dX12_odd_47 : decode cX12_odd 47 = .ok (.ior, 1) := by decide +kernel
theorem dX12_odd_48 : decode cX12_odd 48 = .ok (.istore_n 1, 1) := by decide +kernel
theorem dX12_odd_49 : decode cX12_odd 49 = .ok (.iinc 2 1, 3) := by decide +kernel
theorem dX12_odd_52 : decode cX12_odd 52 = .ok (.goto (-30), 3) := by decide +kernel
theorem dX12_odd_55 : decode cX12_odd 55 = .ok (.iload_n 1, 1) := by decide +kernel
theorem dX12_odd_56 : decode cX12_odd 56 = .ok (.ireturn, 1) := by decide +kernel
theorem bX12_odd_0 {d : Nat} {P : Int → q_Mem → Prop} {M : q_Mem} (h : (∀ M1 : q_Mem, M1 = q_up M 178 0 0 → q_kU yX12_laysFaces mX12_laysFaces d [qR 178] M1 (fun M2 => q_kU yX12_laysWeights mX12_laysWeights d [qR 178] M2 (fun M3 => q_kU yX12_laysOdd mX12_laysOdd d [qR 178, qI 1] M3 (fun M4 => q_v mX12_odd d (qPI P) M4 22 [some (qR 178), some (qI 0), some (qI 0)] []))))) : q_v mX12_odd d (qPI P) M 0 [some (qR 178), none, none] [] := by
  refine qr_aload_n 0 1 rfl (x := 178) rfl dX12_odd_0 ?_
  refine qr_iconst 1 2 rfl (q_l32 _ rfl) dX12_odd_1 ?_
  refine qp_i 2 5 rfl ck12 0 (kk := 0) (by decide) (by decide +kernel) (by decide) rfl rfl wm_1326 rfl dX12_odd_2 (fun M1 e_M1 => ?_)
  have h := h M1 e_M1
  refine qr_aload_n 5 6 rfl (x := 178) rfl dX12_odd_5 ?_
  refine qw_U 6 9 rfl (av := []) ca_X12_laysFaces wm_1615 wp_102 wm_1613 ck12 (by decide +kernel) rfl rfl (Nat.le_of_ble_eq_true rfl) dX12_odd_6 h (fun M2 h => ?_)
  refine qr_aload_n 9 10 rfl (x := 178) rfl dX12_odd_9 ?_
  refine qw_U 10 13 rfl (av := []) ca_X12_laysWeights wm_1687 wp_112 wm_1685 ck12 (by decide +kernel) rfl rfl (Nat.le_of_ble_eq_true rfl) dX12_odd_10 h (fun M3 h => ?_)
  refine qr_aload_n 13 14 rfl (x := 178) rfl dX12_odd_13 ?_
  refine qr_iconst 14 15 rfl (q_l32 _ rfl) dX12_odd_14 ?_
  refine qw_U 15 18 rfl (av := [qI 1]) ca_X12_laysOdd wm_1739 wp_120 wm_1737 ck12 (by decide +kernel) rfl rfl (Nat.le_of_ble_eq_true rfl) dX12_odd_15 h (fun M4 h => ?_)
  refine qr_iconst 18 19 rfl (q_l32 _ rfl) dX12_odd_18 ?_
  refine qr_istore_n 19 20 rfl (by decide) rfl rfl dX12_odd_19 ?_
  refine qr_iconst 20 21 rfl (q_l32 _ rfl) dX12_odd_20 ?_
  refine qr_istore_n 21 22 rfl (by decide) rfl rfl dX12_odd_21 ?_
  exact h
theorem bX12_odd_22 {d : Nat} {P : Int → q_Mem → Prop} {M : q_Mem} (x1 x2 : Int) (h : (((M 178 25) ≤ x2) → P x1 M) ∧ ((¬ ((M 178 25) ≤ x2)) → (0 ≤ x2 ∧ x2 < (16 : Int)) ∧ ((((M 192 x2) = 0) → ∀ x1_2 : Int, x1_2 = (q_or x1 0) → q_v mX12_odd d (qPI P) M 22 [some (qR 178), some (qI x1_2), some (qI (q_add x2 1))] []) ∧ ((¬ ((M 192 x2) = 0)) → ∀ x1_3 : Int, x1_3 = (q_or x1 (q_shl 1 x2)) → q_v mX12_odd d (qPI P) M 22 [some (qR 178), some (qI x1_3), some (qI (q_add x2 1))] [])))) : q_v mX12_odd d (qPI P) M 22 [some (qR 178), some (qI x1), some (qI x2)] [] := by
  refine qr_iload_n 22 23 rfl (x := x2) rfl dX12_odd_22 ?_
  refine qr_aload_n 23 24 rfl (x := 178) rfl dX12_odd_23 ?_
  refine qg_i 24 27 rfl ck12 25 (kk := 25) (by decide) (by decide +kernel) (by decide +kernel) rfl wm_1351 rfl dX12_odd_24 ?_
  refine qr_icmp_ge 27 30 55 rfl (by decide) dX12_odd_27 (fun c27 => ?_) (fun c27 => ?_)
  · have h := h.1 c27
    refine qr_iload_n 55 56 rfl (x := x1) rfl dX12_odd_55 ?_
    exact qe_i 56 rfl dX12_odd_56 h
  · have h := h.2 c27
    refine qr_iload_n 30 31 rfl (x := x1) rfl dX12_odd_30 ?_
    refine qr_aload_n 31 32 rfl (x := 178) rfl dX12_odd_31 ?_
    refine qr_getF 32 35 rfl ck12 24 (by decide) (b := 192) (by decide +kernel) rfl (by decide +kernel) (by decide +kernel) wm_1350 rfl dX12_odd_32 ?_
    refine qr_iload_n 35 36 rfl (x := x2) rfl dX12_odd_35 ?_
    have hb1 := h.1
    have h := h.2
    refine qz_ld 36 37 rfl (N := 16) (by decide +kernel) (by decide +kernel) hb1.1 hb1.2 dX12_odd_36 ?_
    refine qr_if_eq 37 40 46 rfl (by decide) dX12_odd_37 (fun c37 => ?_) (fun c37 => ?_)
    · have h := h.1 c37
      refine qr_iconst 46 47 rfl (q_l32 _ rfl) dX12_odd_46 ?_
      refine qr_ior 47 48 rfl dX12_odd_47 ?_
      refine qn_i 48 (fun x1_2 e_x1_2 => ?_)
      have h := h x1_2 e_x1_2
      refine qr_istore_n 48 49 rfl (by decide) rfl rfl dX12_odd_48 ?_
      refine qr_iinc 49 52 rfl (by decide) (x := x2) rfl rfl rfl dX12_odd_49 ?_
      refine qr_goto 52 22 (by decide) dX12_odd_52 ?_
      exact h
    · have h := h.2 c37
      refine qr_iconst 40 41 rfl (q_l32 _ rfl) dX12_odd_40 ?_
      refine qr_iload_n 41 42 rfl (x := x2) rfl dX12_odd_41 ?_
      refine qr_ishl 42 43 rfl dX12_odd_42 ?_
      refine qr_goto 43 47 (by decide) dX12_odd_43 ?_
      refine qr_ior 47 48 rfl dX12_odd_47 ?_
      refine qn_i 48 (fun x1_3 e_x1_3 => ?_)
      have h := h x1_3 e_x1_3
      refine qr_istore_n 48 49 rfl (by decide) rfl rfl dX12_odd_48 ?_
      refine qr_iinc 49 52 rfl (by decide) (x := x2) rfl rfl rfl dX12_odd_49 ?_
      refine qr_goto 52 22 (by decide) dX12_odd_52 ?_
      exact h
theorem dX12_signOff_0 : decode cX12_signOff 0 = .ok (.iload_n 0, 1) := by decide +kernel
theorem dX12_signOff_1 : decode cX12_signOff 1 = .ok (.ifCond .ge 8, 3) := by decide +kernel
theorem dX12_signOff_4 : decode cX12_signOff 4 = .ok (.iload_n 0, 1) := by decide +kernel
theorem dX12_signOff_5 : decode cX12_signOff 5 = .ok (.ineg, 1) := by decide +kernel
theorem dX12_signOff_6 : decode cX12_signOff 6 = .ok (.goto 4, 3) := by decide +kernel
theorem dX12_signOff_9 : decode cX12_signOff 9 = .ok (.iload_n 0, 1) := by decide +kernel
theorem dX12_signOff_10 : decode cX12_signOff 10 = .ok (.ireturn, 1) := by decide +kernel
theorem bX12_signOff_0 {d : Nat} {P : Int → q_Mem → Prop} {M : q_Mem} (x0 : Int) (h : ((0 ≤ x0) → P x0 M) ∧ ((¬ (0 ≤ x0)) → P (q_neg x0) M)) : q_v mX12_signOff d (qPI P) M 0 [some (qI x0)] [] := by
  refine qr_iload_n 0 1 rfl (x := x0) rfl dX12_signOff_0 ?_
  refine qr_if_ge 1 4 9 rfl (by decide) dX12_signOff_1 (fun c1 => ?_) (fun c1 => ?_)
  · have h := h.1 c1
    refine qr_iload_n 9 10 rfl (x := x0) rfl dX12_signOff_9 ?_
    exact qe_i 10 rfl dX12_signOff_10 h
  · have h := h.2 c1
    refine qr_iload_n 4 5 rfl (x := x0) rfl dX12_signOff_4 ?_
    refine qr_ineg 5 6 rfl dX12_signOff_5 ?_
    refine qr_goto 6 10 (by decide) dX12_signOff_6 ?_
    exact qe_i 10 rfl dX12_signOff_10 h
theorem dX12_costOf_0 : decode cX12_costOf 0 = .ok (.sipush 1000, 3) := by decide +kernel
theorem dX12_costOf_3 : decode cX12_costOf 3 = .ok (.aload_n 0, 1) := by decide +kernel
theorem dX12_costOf_4 : decode cX12_costOf 4 = .ok (.getfield 42, 3) := by decide +kernel
theorem dX12_costOf_7 : decode cX12_costOf 7 = .ok (.iload_n 1, 1) := by decide +kernel
theorem dX12_costOf_8 : decode cX12_costOf 8 = .ok (.iaload, 1) := by decide +kernel
theorem dX12_costOf_9 : decode cX12_costOf 9 = .ok (.invokestatic 400, 3) := by decide +kernel
theorem dX12_costOf_12 : decode cX12_costOf 12 = .ok (.imul, 1) := by decide +kernel
theorem dX12_costOf_13 : decode cX12_costOf 13 = .ok (.iconst 1, 1) := by decide +kernel
theorem dX12_costOf_14 : decode cX12_costOf 14 = .ok (.iadd, 1) := by decide +kernel
theorem dX12_costOf_15 : decode cX12_costOf 15 = .ok (.ireturn, 1) := by decide +kernel
theorem bX12_costOf_0 {d : Nat} {P : Int → q_Mem → Prop} {M : q_Mem} (x1 : Int) (h : (0 ≤ x1 ∧ x1 < (16 : Int)) ∧ (q_kI yX12_signOff mX12_signOff d [qI (M 187 x1)] M (fun v3 M2 => P (q_add (q_mul 1000 v3) 1) M2))) : q_v mX12_costOf d (qPI P) M 0 [some (qR 178), some (qI x1)] [] := by
  refine qr_sipush 0 3 rfl (q_l32 _ rfl) (by decide) dX12_costOf_0 ?_
  refine qr_aload_n 3 4 rfl (x := 178) rfl dX12_costOf_3 ?_
  refine qr_getF 4 7 rfl ck12 19 (by decide) (b := 187) (by decide +kernel) rfl (by decide +kernel) (by decide +kernel) wm_1345 rfl dX12_costOf_4 ?_
  refine qr_iload_n 7 8 rfl (x := x1) rfl dX12_costOf_7 ?_
  have hb1 := h.1
  have h := h.2
  refine qi_ld 8 9 rfl (N := 16) (by decide +kernel) (by decide +kernel) hb1.1 hb1.2 dX12_costOf_8 ?_
  refine qs_I 9 12 rfl (av := [qI (M 187 x1)]) ca_X12_signOff wm_1751 wm_1750 rfl rfl (Nat.le_of_ble_eq_true rfl) dX12_costOf_9 h (fun v3 M2 h => ?_)
  refine qr_imul 12 13 rfl dX12_costOf_12 ?_
  refine qr_iconst 13 14 rfl (q_l32 _ rfl) dX12_costOf_13 ?_
  refine qr_iadd 14 15 rfl dX12_costOf_14 ?_
  exact qe_i 15 rfl dX12_costOf_15 h
theorem dX12_laysWays_0 : decode cX12_laysWays 0 = .ok (.iconst 0, 1) := by decide +kernel
theorem dX12_laysWays_1 : decode cX12_laysWays 1 = .ok (.istore_n 1, 1) := by decide +kernel
theorem dX12_laysWays_2 : decode cX12_laysWays 2 = .ok (.iload_n 1, 1) := by decide +kernel
theorem dX12_laysWays_3 : decode cX12_laysWays 3 = .ok (.sipush 256, 3) := by decide +kernel
theorem dX12_laysWays_6 : decode cX12_laysWays 6 = .ok (.if_icmp .ge 33, 3) := by decide +kernel
theorem dX12_laysWays_9 : decode cX12_laysWays 9 = .ok (.aload_n 0, 1) := by decide +kernel
theorem dX12_laysWays_10 : decode cX12_laysWays 10 = .ok (.getfield 63, 3) := by decide +kernel
theorem dX12_laysWays_13 : decode cX12_laysWays 13 = .ok (.iload_n 1, 1) := by decide +kernel
theorem dX12_laysWays_14 : decode cX12_laysWays 14 = .ok (.iload_n 1, 1) := by decide +kernel
theorem dX12_laysWays_15 : decode cX12_laysWays 15 = .ok (.bipush 16, 2) := by decide +kernel
theorem dX12_laysWays_17 : decode cX12_laysWays 17 = .ok (.idiv, 1) := by decide +kernel
theorem dX12_laysWays_18 : decode cX12_laysWays 18 = .ok (.iload_n 1, 1) := by decide +kernel
theorem dX12_laysWays_19 : decode cX12_laysWays 19 = .ok (.bipush 16, 2) := by decide +kernel
theorem dX12_laysWays_21 : decode cX12_laysWays 21 = .ok (.irem, 1) := by decide +kernel
theorem dX12_laysWays_22 : decode cX12_laysWays 22 = .ok (.if_icmp .ne 7, 3) := by decide +kernel
theorem dX12_laysWays_25 : decode cX12_laysWays 25 = .ok (.iconst 0, 1) := by decide +kernel
theorem dX12_laysWays_26 : decode cX12_laysWays 26 = .ok (.goto 6, 3) := by decide +kernel
theorem dX12_laysWays_29 : decode cX12_laysWays 29 = .ok (.ldc_w 403, 3) := by decide +kernel
theorem dX12_laysWays_32 : decode cX12_laysWays 32 = .ok (.iastore, 1) := by decide +kernel
theorem dX12_laysWays_33 : decode cX12_laysWays 33 = .ok (.iinc 1 1, 3) := by decide +kernel
theorem dX12_laysWays_36 : decode cX12_laysWays 36 = .ok (.goto (-34), 3) := by decide +kernel
theorem dX12_laysWays_39 : decode cX12_laysWays 39 = .ok (.iconst 0, 1) := by decide +kernel
theorem dX12_laysWays_40 : decode cX12_laysWays 40 = .ok (.istore_n 1, 1) := by decide +kernel
theorem dX12_laysWays_41 : decode cX12_laysWays 41 = .ok (.iload_n 1, 1) := by decide +kernel
theorem dX12_laysWays_42 : decode cX12_laysWays 42 = .ok (.aload_n 0, 1) := by decide +kernel
theorem dX12_laysWays_43 : decode cX12_laysWays 43 = .ok (.getfield 13, 3) := by decide +kernel
theorem dX12_laysWays_46 : decode cX12_laysWays 46 = .ok (.bipush 52, 2) := by decide +kernel
theorem dX12_laysWays_48 : decode cX12_laysWays 48 = .ok (.iaload, 1) := by decide +kernel
theorem dX12_laysWays_49 : decode cX12_laysWays 49 = .ok (.if_icmp .ge 83, 3) := by decide +kernel
theorem dX12_laysWays_52 : decode cX12_laysWays 52 = .ok (.aload_n 0, 1) := by decide +kernel
theorem dX12_laysWays_53 : decode cX12_laysWays 53 = .ok (.getfield 45, 3) := by decide +kernel
theorem dX12_laysWays_56 : decode cX12_laysWays 56 = .ok (.iconst 2, 1) := by decide +kernel
theorem dX12_laysWays_57 : decode cX12_laysWays 57 = .ok (.iload_n 1, 1) := by decide +kernel
theorem dX12_laysWays_58 : decode cX12_laysWays 58 = .ok (.imul, 1) := by decide +kernel
theorem dX12_laysWays_59 : decode cX12_laysWays 59 = .ok (.iaload, 1) := by decide +kernel
theorem dX12_laysWays_60 : decode cX12_laysWays 60 = .ok (.istore_n 2, 1) := by decide +kernel
theorem dX12_laysWays_61 : decode cX12_laysWays 61 = .ok (.aload_n 0, 1) := by decide +kernel
theorem dX12_laysWays_62 : decode cX12_laysWays 62 = .ok (.getfield 45, 3) := by decide +kernel
theorem dX12_laysWays_65 : decode cX12_laysWays 65 = .ok (.iconst 2, 1) := by decide +kernel
theorem dX12_laysWays_66 : decode cX12_laysWays 66 = .ok (.iload_n 1, 1) := by decide +kernel
theorem dX12_laysWays_67 : decode cX12_laysWays 67 = .ok (.imul, 1) := by decide +kernel
theorem dX12_laysWays_68 : decode cX12_laysWays 68 = .ok (.iconst 1, 1) := by decide +kernel
theorem dX12_laysWays_69 : decode cX12_laysWays 69 = .ok (.iadd, 1) := by decide +kernel
theorem dX12_laysWays_70 : decode cX12_laysWays 70 = .ok (.iaload, 1) := by decide +kernel
theorem dX12_laysWays_71 : decode cX12_laysWays 71 = .ok (.istore_n 3, 1) := by decide +kernel
theorem dX12_laysWays_72 : decode cX12_laysWays 72 = .ok (.aload_n 0, 1) := by decide +kernel
theorem dX12_laysWays_73 : decode cX12_laysWays 73 = .ok (.iload_n 1, 1) := by decide +kernel
theorem dX12_laysWays_74 : decode cX12_laysWays 74 = .ok (.invokevirtual 404, 3) := by decide +kernel
theorem dX12_laysWays_77 : decode cX12_laysWays 77 = .ok (.aload_n 0, 1) := by decide +kernel
theorem dX12_laysWays_78 : decode cX12_laysWays 78 = .ok (.getfield 63, 3) := by decide +kernel
theorem dX12_laysWays_81 : decode cX12_laysWays 81 = .ok (.bipush 16, 2) := by decide +kernel
theorem dX12_laysWays_83 : decode cX12_laysWays 83 = .ok (.iload_n 2, 1) := by decide +kernel
theorem dX12_laysWays_84 : decode cX12_laysWays 84 = .ok (.imul, 1) := by decide +kernel
theorem dX12_laysWays_85 : decode cX12_laysWays 85 = .ok (.iload_n 3, 1) := by decide +kernel
theorem dX12_laysWays_86 : decode cX12_laysWays 86 = .ok (.iadd, 1) := by decide +kernel
theorem dX12_laysWays_87 : decode cX12_laysWays 87 = .ok (.iaload, 1) := by decide +kernel
theorem dX12_laysWays_88 : decode cX12_laysWays 88 = .ok (.if_icmp .lt 6, 3) := by decide +kernel
theorem dX12_laysWays_91 : decode cX12_laysWays 91 = .ok (.goto 35, 3) := by decide +kernel
theorem dX12_laysWays_94 : decode cX12_laysWays 94 = .ok (.aload_n 0, 1) := by decide +kernel
theorem dX12_laysWays_95 : decode cX12_laysWays 95 = .ok (.getfield 63, 3) := by decide +kernel
theorem dX12_laysWays_98 : decode cX12_laysWays 98 = .ok (.bipush 16, 2) := by decide +kernel
theorem dX12_laysWays_100 : decode cX12_laysWays 100 = .ok (.iload_n 2, 1) := by decide +kernel
theorem dX12_laysWays_101 : decode cX12_laysWays 101 = .ok (.imul, 1) := by decide +kernel
theorem dX12_laysWays_102 : decode cX12_laysWays 102 = .ok (.iload_n 3, 1) := by decide +kernel
theorem dX12_laysWays_103 : decode cX12_laysWays 103 = .ok (.iadd, 1) := by decide +kernel
theorem dX12_laysWays_104 : decode cX12_laysWays 104 = .ok (.aload_n 0, 1) := by decide +kernel
theorem dX12_laysWays_105 : decode cX12_laysWays 105 = .ok (.iload_n 1, 1) := by decide +kernel
theorem dX12_laysWays_106 : decode cX12_laysWays 106 = .ok (.invokevirtual 404, 3) := by decide +kernel
theorem dX12_laysWays_109 : decode cX12_laysWays 109 = .ok (.iastore, 1) := by decide +kernel
theorem dX12_laysWays_110 : decode cX12_laysWays 110 = .ok (.aload_n 0, 1) := by decide +kernel
theorem dX12_laysWays_111 : decode cX12_laysWays 111 = .ok (.getfield 63, 3) := by decide +kernel
theorem dX12_laysWays_114 : decode cX12_laysWays 114 = .ok (.bipush 16, 2) := by decide +kernel
theorem dX12_laysWays_116 : decode cX12_laysWays 116 = .ok (.iload_n 3, 1) := by decide +kernel
theorem dX12_laysWays_117 : decode cX12_laysWays 117 = .ok (.imul, 1) := by decide +kernel
theorem dX12_laysWays_118 : decode cX12_laysWays 118 = .ok (.iload_n 2, 1) := by decide +kernel
theorem dX12_laysWays_119 : decode cX12_laysWays 119 = .ok (.iadd, 1) := by decide +kernel
theorem dX12_laysWays_120 : decode cX12_laysWays 120 = .ok (.aload_n 0, 1) := by decide +kernel
theorem dX12_laysWays_121 : decode cX12_laysWays 121 = .ok (.iload_n 1, 1) := by decide +kernel
theorem dX12_laysWays_122 : decode cX12_laysWays 122 = .ok (.invokevirtual 404, 3) := by decide +kernel
theorem dX12_laysWays_125 : decode cX12_laysWays 125 = .ok (.iastore, 1) := by decide +kernel
theorem dX12_laysWays_126 : decode cX12_laysWays 126 = .ok (.iinc 1 1, 3) := by decide +kernel
theorem dX12_laysWays_129 : decode cX12_laysWays 129 = .ok (.goto (-88), 3) := by decide +kernel
theorem dX12_laysWays_132 : decode cX12_laysWays 132 = .ok (.iconst 0, 1) := by decide +kernel
theorem dX12_laysWays_133 : decode cX12_laysWays 133 = .ok (.istore_n 1, 1) := by decide +kernel
theorem dX12_laysWays_134 : decode cX12_laysWays 134 = .ok (.iload_n 1, 1) := by decide +kernel
theorem dX12_laysWays_135 : decode cX12_laysWays 135 = .ok (.aload_n 0, 1) := by decide +kernel
theorem dX12_laysWays_136 : decode cX12_laysWays 136 = .ok (.getfield 281, 3) := by decide +kernel
theorem dX12_laysWays_139 : decode cX12_laysWays 139 = .ok (.if_icmp .ge 95, 3) := by decide +kernel
theorem dX12_laysWays_142 : decode cX12_laysWays 142 = .ok (.iconst 0, 1) := by decide +kernel
theorem dX12_laysWays_143 : decode cX12_laysWays 143 = .ok (.istore_n 2, 1) := by decide +kernel
theorem dX12_laysWays_144 : decode cX12_laysWays 144 = .ok (.iload_n 2, 1) := by decide +kernel
theorem dX12_laysWays_145 : decode cX12_laysWays 145 = .ok (.aload_n 0, 1) := by decide +kernel
theorem dX12_laysWays_146 : decode cX12_laysWays 146 = .ok (.getfield 281, 3) := by decide +kernel
theorem dX12_laysWays_149 : decode cX12_laysWays 149 = .ok (.if_icmp .ge 79, 3) := by decide +kernel
theorem dX12_laysWays_152 : decode cX12_laysWays 152 = .ok (.iconst 0, 1) := by decide +kernel
theorem dX12_laysWays_153 : decode cX12_laysWays 153 = .ok (.istore_n 3, 1) := by decide +kernel
theorem dX12_laysWays_154 : decode cX12_laysWays 154 = .ok (.iload_n 3, 1) := by decide +kernel
theorem dX12_laysWays_155 : decode cX12_laysWays 155 = .ok (.aload_n 0, 1) := by decide +kernel
theorem dX12_laysWays_156 : decode cX12_laysWays 156 = .ok (.getfield 281, 3) := by decide +kernel
theorem dX12_laysWays_159 : decode cX12_laysWays 159 = .ok (.if_icmp .ge 63, 3) := by decide +kernel
theorem dX12_laysWays_162 : decode cX12_laysWays 162 = .ok (.aload_n 0, 1) := by decide +kernel
theorem dX12_laysWays_163 : decode cX12_laysWays 163 = .ok (.getfield 63, 3) := by decide +kernel
theorem dX12_laysWays_166 : decode cX12_laysWays 166 = .ok (.bipush 16, 2) := by decide +kernel
theorem dX12_laysWays_168 : decode cX12_laysWays 168 = .ok (.iload_n 2, 1) := by decide +kernel
theorem dX12_laysWays_169 : decode cX12_laysWays 169 = .ok (.imul, 1) := by decide +kernel
theorem dX12_laysWays_170 : decode cX12_laysWays 170 = .ok (.iload_n 1, 1) := by decide +kernel
theorem dX12_laysWays_171 : decode cX12_laysWays 171 = .ok (.iadd, 1) := by decide +kernel
theorem dX12_laysWays_172 : decode cX12_laysWays 172 = .ok (.iaload, 1) := by decide +kernel
theorem dX12_laysWays_173 : decode cX12_laysWays 173 = .ok (.aload_n 0, 1) := by decide +kernel
theorem dX12_laysWays_174 : decode cX12_laysWays 174 = .ok (.getfield 63, 3) := by decide +kernel
theorem dX12_laysWays_177 : decode cX12_laysWays 177 = .ok (.bipush 16, 2) := by decide +kernel
theorem dX12_laysWays_179 : decode cX12_laysWays 179 = .ok (.iload_n 1, 1) := by decide +kernel
theorem dX12_laysWays_180 : decode cX12_laysWays 180 = .ok (.imul, 1) := by decide +kernel
theorem dX12_laysWays_181 : decode cX12_laysWays 181 = .ok (.iload_n 3, 1) := by decide +kernel
theorem dX12_laysWays_182 : decode cX12_laysWays 182 = .ok (.iadd, 1) := by decide +kernel
theorem dX12_laysWays_183 : decode cX12_laysWays 183 = .ok (.iaload, 1) := by decide +kernel
theorem dX12_laysWays_184 : decode cX12_laysWays 184 = .ok (.iadd, 1) := by decide +kernel
theorem dX12_laysWays_185 : decode cX12_laysWays 185 = .ok (.istore 4, 2) := by decide +kernel
theorem dX12_laysWays_187 : decode cX12_laysWays 187 = .ok (.iload 4, 2) := by decide +kernel
theorem dX12_laysWays_189 : decode cX12_laysWays 189 = .ok (.aload_n 0, 1) := by decide +kernel
theorem dX12_laysWays_190 : decode cX12_laysWays 190 = .ok (.getfield 63, 3) := by decide +kernel
theorem dX12_laysWays_193 : decode cX12_laysWays 193 = .ok (.bipush 16, 2) := by decide +kernel
theorem dX12_laysWays_195 : decode cX12_laysWays 195 = .ok (.iload_n 2, 1) := by decide +kernel
theorem dX12_laysWays_196 : decode cX12_laysWays 196 = .ok (.imul, 1) := by decide +kernel
theorem dX12_laysWays_197 : decode cX12_laysWays 197 = .ok (.iload_n 3, 1) := by decide +kernel
theorem dX12_laysWays_198 : decode cX12_laysWays 198 = .ok (.iadd, 1) := by decide +kernel
theorem dX12_laysWays_199 : decode cX12_laysWays 199 = .ok (.iaload, 1) := by decide +kernel
theorem dX12_laysWays_200 : decode cX12_laysWays 200 = .ok (.if_icmp .ge 16, 3) := by decide +kernel
theorem dX12_laysWays_203 : decode cX12_laysWays 203 = .ok (.aload_n 0, 1) := by decide +kernel
theorem dX12_laysWays_204 : decode cX12_laysWays 204 = .ok (.getfield 63, 3) := by decide +kernel
theorem dX12_laysWays_207 : decode cX12_laysWays 207 = .ok (.bipush 16, 2) := by decide +kernel
theorem dX12_laysWays_209 : decode cX12_laysWays 209 = .ok (.iload_n 2, 1) := by decide +kernel
theorem dX12_laysWays_210 : decode cX12_laysWays 210 = .ok (.imul, 1) := by decide +kernel
theorem dX12_laysWays_211 : decode cX12_laysWays 211 = .ok (.iload_n 3, 1) := by decide +kernel
theorem dX12_laysWays_212 : decode cX12_laysWays 212 = .ok (.iadd, 1) := by decide +kernel
theorem dX12_laysWays_213 : decode cX12_laysWays 213 = .ok (.iload 4, 2) := by decide +kernel
theorem dX12_laysWays_215 : decode cX12_laysWays 215 = .ok (.iastore, 1) := by decide +kernel
theorem dX12_laysWays_216 : decode cX12_laysWays 216 = .ok (.iinc 3 1, 3) := by decide +kernel
theorem dX12_laysWays_219 : decode cX12_laysWays 219 = .ok (.goto (-65), 3) := by decide +kernel
theorem dX12_laysWays_222 : decode cX12_laysWays 222 = .ok (.iinc 2 1, 3) := by decide +kernel
theorem dX12_laysWays_225 : decode cX12_laysWays 225 = .ok (.goto (-81), 3) := by decide +kernel
theorem dX12_laysWays_228 : decode cX12_laysWays 228 = .ok (.iinc 1 1, 3) := by decide +kernel
theorem dX12_laysWays_231 : decode cX12_laysWays 231 = .ok (.goto (-97), 3) := by decide +kernel
theorem dX12_laysWays_234 : decode cX12_laysWays 234 = .ok (.return_, 1) := by decide +kernel
theorem bX12_laysWays_0 {d : Nat} {P : q_Mem → Prop} {M : q_Mem} (h : q_v mX12_laysWays d (qPU P) M 2 [some (qR 178), some (qI 0), none, none, none] []) : q_v mX12_laysWays d (qPU P) M 0 [some (qR 178), none, none, none, none] [] := by
  refine qr_iconst 0 1 rfl (q_l32 _ rfl) dX12_laysWays_0 ?_
  refine qr_istore_n 1 2 rfl (by decide) rfl rfl dX12_laysWays_1 ?_
  exact h
theorem bX12_laysWays_2 {d : Nat} {P : q_Mem → Prop} {M : q_Mem} (x1 : Int) (h : (((256 : Int) ≤ x1) → q_v mX12_laysWays d (qPU P) M 41 [some (qR 178), some (qI 0), none, none, none] []) ∧ ((¬ ((256 : Int) ≤ x1)) → ((¬ (q_div x1 16) = (q_rem x1 16)) → (0 ≤ x1 ∧ x1 < (256 : Int)) ∧ (∀ M2 : q_Mem, M2 = q_up M 194 x1 67108864 → q_v mX12_laysWays d (qPU P) M2 2 [some (qR 178), some (qI (q_add x1 1)), none, none, none] [])) ∧ (((q_div x1 16) = (q_rem x1 16)) → (0 ≤ x1 ∧ x1 < (256 : Int)) ∧ (∀ M4 : q_Mem, M4 = q_up M 194 x1 0 → q_v mX12_laysWays d (qPU P) M4 2 [some (qR 178), some (qI (q_add x1 1)), none, none, none] [])))) : q_v mX12_laysWays d (qPU P) M 2 [some (qR 178), some (qI x1), none, none, none] [] := by
  refine qr_iload_n 2 3 rfl (x := x1) rfl dX12_laysWays_2 ?_
  refine qr_sipush 3 6 rfl (q_l32 _ rfl) (by decide) dX12_laysWays_3 ?_
  refine qr_icmp_ge 6 9 39 rfl (by decide) dX12_laysWays_6 (fun c6 => ?_) (fun c6 => ?_)
  · have h := h.1 c6
    refine qr_iconst 39 40 rfl (q_l32 _ rfl) dX12_laysWays_39 ?_
    refine qr_istore_n 40 41 rfl (by decide) rfl rfl dX12_laysWays_40 ?_
    exact h
  · have h := h.2 c6
    refine qr_aload_n 9 10 rfl (x := 178) rfl dX12_laysWays_9 ?_
    refine qr_getF 10 13 rfl ck12 29 (by decide) (b := 194) (by decide +kernel) rfl (by decide +kernel) (by decide +kernel) wm_1355 rfl dX12_laysWays_10 ?_
    refine qr_iload_n 13 14 rfl (x := x1) rfl dX12_laysWays_13 ?_
    refine qr_iload_n 14 15 rfl (x := x1) rfl dX12_laysWays_14 ?_
    refine qr_bipush 15 17 rfl (q_l32 _ rfl) (by decide) dX12_laysWays_15 ?_
    refine qr_idiv 17 18 rfl (by decide) dX12_laysWays_17 ?_
    refine qr_iload_n 18 19 rfl (x := x1) rfl dX12_laysWays_18 ?_
    refine qr_bipush 19 21 rfl (q_l32 _ rfl) (by decide) dX12_laysWays_19 ?_
    refine qr_irem 21 22 rfl (by decide) dX12_laysWays_21 ?_
    refine qr_icmp_ne 22 25 29 rfl (by decide) dX12_laysWays_22 (fun c22 => ?_) (fun c22 => ?_)
    · have h := h.1 c22
      refine qr_ldc_w 29 32 rfl (v := 67108864) (q_l32 _ rfl) wm_1745 dX12_laysWays_29 ?_
      have hb1 := h.1
      have h := h.2
      refine qi_st 32 33 rfl (N := 256) (by decide +kernel) (by decide +kernel) hb1.1 hb1.2 dX12_laysWays_32 (fun M2 e_M2 => ?_)
      have h := h M2 e_M2
      refine qr_iinc 33 36 rfl (by decide) (x := x1) rfl rfl rfl dX12_laysWays_33 ?_
      refine qr_goto 36 2 (by decide) dX12_laysWays_36 ?_
      exact h
    · have h := h.2 c22
      refine qr_iconst 25 26 rfl (q_l32 _ rfl) dX12_laysWays_25 ?_
      refine qr_goto 26 32 (by decide) dX12_laysWays_26 ?_
      have hb3 := h.1
      have h := h.2
      refine qi_st 32 33 rfl (N := 256) (by decide +kernel) (by decide +kernel) hb3.1 hb3.2 dX12_laysWays_32 (fun M4 e_M4 => ?_)
      have h := h M4 e_M4
      refine qr_iinc 33 36 rfl (by decide) (x := x1) rfl rfl rfl dX12_laysWays_33 ?_
      refine qr_goto 36 2 (by decide) dX12_laysWays_36 ?_
      exact h
theorem bX12_laysWays_41 {d : Nat} {P : q_Mem → Prop} {M : q_Mem} (x1 : Int) (h : ((((M 179 52) ≤ x1) → q_v mX12_laysWays d (qPU P) M 134 [some (qR 178), some (qI 0), none, none, none] []) ∧ ((¬ ((M 179 52) ≤ x1)) → (0 ≤ (q_mul 2 x1) ∧ (q_mul 2 x1) < (32 : Int)) ∧ (∀ x2_2 : Int, x2_2 = (M 188 (q_mul 2 x1)) → (0 ≤ (q_add (q_mul 2 x1) 1) ∧ (q_add (q_mul 2 x1) 1) < (32 : Int)) ∧ (∀ x3_4 : Int, x3_4 = (M 188 (q_add (q_mul 2 x1) 1)) → q_kI yX12_costOf mX12_costOf d [qR 178, qI x1] M (fun v6 M5 => (0 ≤ (q_add (q_mul 16 x2_2) x3_4) ∧ (q_add (q_mul 16 x2_2) x3_4) < (256 : Int)) ∧ (((v6 < (M5 194 (q_add (q_mul 16 x2_2) x3_4))) → q_kI yX12_costOf mX12_costOf d [qR 178, qI x1] M5 (fun v9 M8 => (0 ≤ (q_add (q_mul 16 x2_2) x3_4) ∧ (q_add (q_mul 16 x2_2) x3_4) < (256 : Int)) ∧ (∀ M11 : q_Mem, M11 = q_up M8 194 (q_add (q_mul 16 x2_2) x3_4) v9 → q_kI yX12_costOf mX12_costOf d [qR 178, qI x1] M11 (fun v13 M12 => (0 ≤ (q_add (q_mul 16 x3_4) x2_2) ∧ (q_add (q_mul 16 x3_4) x2_2) < (256 : Int)) ∧ (∀ M15 : q_Mem, M15 = q_up M12 194 (q_add (q_mul 16 x3_4) x2_2) v13 → q_v mX12_laysWays d (qPU P) M15 41 [some (qR 178), some (qI (q_add x1 1)), none, none, none] []))))) ∧ ((¬ (v6 < (M5 194 (q_add (q_mul 16 x2_2) x3_4)))) → q_v mX12_laysWays d (qPU P) M5 41 [some (qR 178), some (qI (q_add x1 1)), none, none, none] [])))))))) : q_v mX12_laysWays d (qPU P) M 41 [some (qR 178), some (qI x1), none, none, none] [] := by
  refine qr_iload_n 41 42 rfl (x := x1) rfl dX12_laysWays_41 ?_
  refine qr_aload_n 42 43 rfl (x := 178) rfl dX12_laysWays_42 ?_
  refine qr_getF 43 46 rfl ck12 1 (by decide) (b := 179) (by decide +kernel) rfl (by decide +kernel) (by decide +kernel) wm_1327 rfl dX12_laysWays_43 ?_
  refine qr_bipush 46 48 rfl (q_l32 _ rfl) (by decide) dX12_laysWays_46 ?_
  refine qi_ld 48 49 rfl (N := 4512) (by decide +kernel) (by decide +kernel) (by decide) (by decide) dX12_laysWays_48 ?_
  refine qr_icmp_ge 49 52 132 rfl (by decide) dX12_laysWays_49 (fun c49 => ?_) (fun c49 => ?_)
  · have h := h.1 c49
    refine qr_iconst 132 133 rfl (q_l32 _ rfl) dX12_laysWays_132 ?_
    refine qr_istore_n 133 134 rfl (by decide) rfl rfl dX12_laysWays_133 ?_
    exact h
  · have h := h.2 c49
    refine qr_aload_n 52 53 rfl (x := 178) rfl dX12_laysWays_52 ?_
    refine qr_getF 53 56 rfl ck12 20 (by decide) (b := 188) (by decide +kernel) rfl (by decide +kernel) (by decide +kernel) wm_1346 rfl dX12_laysWays_53 ?_
    refine qr_iconst 56 57 rfl (q_l32 _ rfl) dX12_laysWays_56 ?_
    refine qr_iload_n 57 58 rfl (x := x1) rfl dX12_laysWays_57 ?_
    refine qr_imul 58 59 rfl dX12_laysWays_58 ?_
    have hb1 := h.1
    have h := h.2
    refine qi_ld 59 60 rfl (N := 32) (by decide +kernel) (by decide +kernel) hb1.1 hb1.2 dX12_laysWays_59 ?_
    refine qn_i 60 (fun x2_2 e_x2_2 => ?_)
    have h := h x2_2 e_x2_2
    refine qr_istore_n 60 61 rfl (by decide) rfl rfl dX12_laysWays_60 ?_
    refine qr_aload_n 61 62 rfl (x := 178) rfl dX12_laysWays_61 ?_
    refine qr_getF 62 65 rfl ck12 20 (by decide) (b := 188) (by decide +kernel) rfl (by decide +kernel) (by decide +kernel) wm_1346 rfl dX12_laysWays_62 ?_
    refine qr_iconst 65 66 rfl (q_l32 _ rfl) dX12_laysWays_65 ?_
    refine qr_iload_n 66 67 rfl (x := x1) rfl dX12_laysWays_66 ?_
    refine qr_imul 67 68 rfl dX12_laysWays_67 ?_
    refine qr_iconst 68 69 rfl (q_l32 _ rfl) dX12_laysWays_68 ?_
    refine qr_iadd 69 70 rfl dX12_laysWays_69 ?_
    have hb3 := h.1
    have h := h.2
    refine qi_ld 70 71 rfl (N := 32) (by decide +kernel) (by decide +kernel) hb3.1 hb3.2 dX12_laysWays_70 ?_
    refine qn_i 71 (fun x3_4 e_x3_4 => ?_)
    have h := h x3_4 e_x3_4
    refine qr_istore_n 71 72 rfl (by decide) rfl rfl dX12_laysWays_71 ?_
    refine qr_aload_n 72 73 rfl (x := 178) rfl dX12_laysWays_72 ?_
    refine qr_iload_n 73 74 rfl (x := x1) rfl dX12_laysWays_73 ?_
    refine qw_I 74 77 rfl (av := [qI x1]) ca_X12_costOf wm_1748 wp_122 wm_1746 ck12 (by decide +kernel) rfl rfl (Nat.le_of_ble_eq_true rfl) dX12_laysWays_74 h (fun v6 M5 h => ?_)
    refine qr_aload_n 77 78 rfl (x := 178) rfl dX12_laysWays_77 ?_
    refine qr_getF 78 81 rfl ck12 29 (by decide) (b := 194) (by decide +kernel) rfl (by decide +kernel) (by decide +kernel) wm_1355 rfl dX12_laysWays_78 ?_
    refine qr_bipush 81 83 rfl (q_l32 _ rfl) (by decide) dX12_laysWays_81 ?_
    refine qr_iload_n 83 84 rfl (x := x2_2) rfl dX12_laysWays_83 ?_
    refine qr_imul 84 85 rfl dX12_laysWays_84 ?_
    refine qr_iload_n 85 86 rfl (x := x3_4) rfl dX12_laysWays_85 ?_
    refine qr_iadd 86 87 rfl dX12_laysWays_86 ?_
    have hb7 := h.1
    have h := h.2
    refine qi_ld 87 88 rfl (N := 256) (by decide +kernel) (by decide +kernel) hb7.1 hb7.2 dX12_laysWays_87 ?_
    refine qr_icmp_lt 88 91 94 rfl (by decide) dX12_laysWays_88 (fun c88 => ?_) (fun c88 => ?_)
    · have h := h.1 c88
      refine qr_aload_n 94 95 rfl (x := 178) rfl dX12_laysWays_94 ?_
      refine qr_getF 95 98 rfl ck12 29 (by decide) (b := 194) (by decide +kernel) rfl (by decide +kernel) (by decide +kernel) wm_1355 rfl dX12_laysWays_95 ?_
      refine qr_bipush 98 100 rfl (q_l32 _ rfl) (by decide) dX12_laysWays_98 ?_
      refine qr_iload_n 100 101 rfl (x := x2_2) rfl dX12_laysWays_100 ?_
      refine qr_imul 101 102 rfl dX12_laysWays_101 ?_
      refine qr_iload_n 102 103 rfl (x := x3_4) rfl dX12_laysWays_102 ?_
      refine qr_iadd 103 104 rfl dX12_laysWays_103 ?_
      refine qr_aload_n 104 105 rfl (x := 178) rfl dX12_laysWays_104 ?_
      refine qr_iload_n 105 106 rfl (x := x1) rfl dX12_laysWays_105 ?_
      refine qw_I 106 109 rfl (av := [qI x1]) ca_X12_costOf wm_1748 wp_122 wm_1746 ck12 (by decide +kernel) rfl rfl (Nat.le_of_ble_eq_true rfl) dX12_laysWays_106 h (fun v9 M8 h => ?_)
      have hb10 := h.1
      have h := h.2
      refine qi_st 109 110 rfl (N := 256) (by decide +kernel) (by decide +kernel) hb10.1 hb10.2 dX12_laysWays_109 (fun M11 e_M11 => ?_)
      have h := h M11 e_M11
      refine qr_aload_n 110 111 rfl (x := 178) rfl dX12_laysWays_110 ?_
      refine qr_getF 111 114 rfl ck12 29 (by decide) (b := 194) (by decide +kernel) rfl (by decide +kernel) (by decide +kernel) wm_1355 rfl dX12_laysWays_111 ?_
      refine qr_bipush 114 116 rfl (q_l32 _ rfl) (by decide) dX12_laysWays_114 ?_
      refine qr_iload_n 116 117 rfl (x := x3_4) rfl dX12_laysWays_116 ?_
      refine qr_imul 117 118 rfl dX12_laysWays_117 ?_
      refine qr_iload_n 118 119 rfl (x := x2_2) rfl dX12_laysWays_118 ?_
      refine qr_iadd 119 120 rfl dX12_laysWays_119 ?_
      refine qr_aload_n 120 121 rfl (x := 178) rfl dX12_laysWays_120 ?_
      refine qr_iload_n 121 122 rfl (x := x1) rfl dX12_laysWays_121 ?_
      refine qw_I 122 125 rfl (av := [qI x1]) ca_X12_costOf wm_1748 wp_122 wm_1746 ck12 (by decide +kernel) rfl rfl (Nat.le_of_ble_eq_true rfl) dX12_laysWays_122 h (fun v13 M12 h => ?_)
      have hb14 := h.1
      have h := h.2
      refine qi_st 125 126 rfl (N := 256) (by decide +kernel) (by decide +kernel) hb14.1 hb14.2 dX12_laysWays_125 (fun M15 e_M15 => ?_)
      have h := h M15 e_M15
      refine qr_iinc 126 129 rfl (by decide) (x := x1) rfl rfl rfl dX12_laysWays_126 ?_
      refine qr_goto 129 41 (by decide) dX12_laysWays_129 ?_
      exact qr_cut 41 (ls' := [some (qR 178), some (qI (q_add x1 1)), none, none, none]) (And.intro rfl (And.intro rfl trivial)) h
    · have h := h.2 c88
      refine qr_goto 91 126 (by decide) dX12_laysWays_91 ?_
      refine qr_iinc 126 129 rfl (by decide) (x := x1) rfl rfl rfl dX12_laysWays_126 ?_
      refine qr_goto 129 41 (by decide) dX12_laysWays_129 ?_
      exact qr_cut 41 (ls' := [some (qR 178), some (qI (q_add x1 1)), none, none, none]) (And.intro rfl (And.intro rfl trivial)) h
theorem bX12_laysWays_134 {d : Nat} {P : q_Mem → Prop} {M : q_Mem} (x1 : Int) (h : (((M 178 25) ≤ x1) → P M) ∧ ((¬ ((M 178 25) ≤ x1)) → q_v mX12_laysWays d (qPU P) M 144 [some (qR 178), some (qI x1), some (qI 0), none, none] [])) : q_v mX12_laysWays d (qPU P) M 134 [some (qR 178), some (qI x1), none, none, none] [] := by
  refine qr_iload_n 134 135 rfl (x := x1) rfl dX12_laysWays_134 ?_
  refine qr_aload_n 135 136 rfl (x := 178) rfl dX12_laysWays_135 ?_
  refine qg_i 136 139 rfl ck12 25 (kk := 25) (by decide) (by decide +kernel) (by decide +kernel) rfl wm_1351 rfl dX12_laysWays_136 ?_
  refine qr_icmp_ge 139 142 234 rfl (by decide) dX12_laysWays_139 (fun c139 => ?_) (fun c139 => ?_)
  · have h := h.1 c139
    exact qe_u 234 rfl dX12_laysWays_234 h
  · have h := h.2 c139
    refine qr_iconst 142 143 rfl (q_l32 _ rfl) dX12_laysWays_142 ?_
    refine qr_istore_n 143 144 rfl (by decide) rfl rfl dX12_laysWays_143 ?_
    exact h
theorem bX12_laysWays_144 {d : Nat} {P : q_Mem → Prop} {M : q_Mem} (x1 x2 : Int) (h : (((M 178 25) ≤ x2) → q_v mX12_laysWays d (qPU P) M 134 [some (qR 178), some (qI (q_add x1 1)), none, none, none] []) ∧ ((¬ ((M 178 25) ≤ x2)) → q_v mX12_laysWays d (qPU P) M 154 [some (qR 178), some (qI x1), some (qI x2), some (qI 0), none] [])) : q_v mX12_laysWays d (qPU P) M 144 [some (qR 178), some (qI x1), some (qI x2), none, none] [] := by
  refine qr_iload_n 144 145 rfl (x := x2) rfl dX12_laysWays_144 ?_
  refine qr_aload_n 145 146 rfl (x := 178) rfl dX12_laysWays_145 ?_
  refine qg_i 146 149 rfl ck12 25 (kk := 25) (by decide) (by decide +kernel) (by decide +kernel) rfl wm_1351 rfl dX12_laysWays_146 ?_
  refine qr_icmp_ge 149 152 228 rfl (by decide) dX12_laysWays_149 (fun c149 => ?_) (fun c149 => ?_)
  · have h := h.1 c149
    refine qr_iinc 228 231 rfl (by decide) (x := x1) rfl rfl rfl dX12_laysWays_228 ?_
    refine qr_goto 231 134 (by decide) dX12_laysWays_231 ?_
    exact qr_cut 134 (ls' := [some (qR 178), some (qI (q_add x1 1)), none, none, none]) (And.intro rfl (And.intro rfl trivial)) h
  · have h := h.2 c149
    refine qr_iconst 152 153 rfl (q_l32 _ rfl) dX12_laysWays_152 ?_
    refine qr_istore_n 153 154 rfl (by decide) rfl rfl dX12_laysWays_153 ?_
    exact h
theorem bX12_laysWays_154 {d : Nat} {P : q_Mem → Prop} {M : q_Mem} (x1 x2 x3 : Int) (h : (((M 178 25) ≤ x3) → q_v mX12_laysWays d (qPU P) M 144 [some (qR 178), some (qI x1), some (qI (q_add x2 1)), none, none] []) ∧ ((¬ ((M 178 25) ≤ x3)) → (0 ≤ (q_add (q_mul 16 x2) x1) ∧ (q_add (q_mul 16 x2) x1) < (256 : Int)) ∧ ((0 ≤ (q_add (q_mul 16 x1) x3) ∧ (q_add (q_mul 16 x1) x3) < (256 : Int)) ∧ (∀ x4_3 : Int, x4_3 = (q_add (M 194 (q_add (q_mul 16 x2) x1)) (M 194 (q_add (q_mul 16 x1) x3))) → (0 ≤ (q_add (q_mul 16 x2) x3) ∧ (q_add (q_mul 16 x2) x3) < (256 : Int)) ∧ ((((M 194 (q_add (q_mul 16 x2) x3)) ≤ x4_3) → q_v mX12_laysWays d (qPU P) M 154 [some (qR 178), some (qI x1), some (qI x2), some (qI (q_add x3 1)), none] []) ∧ ((¬ ((M 194 (q_add (q_mul 16 x2) x3)) ≤ x4_3)) → (0 ≤ (q_add (q_mul 16 x2) x3) ∧ (q_add (q_mul 16 x2) x3) < (256 : Int)) ∧ (∀ M6 : q_Mem, M6 = q_up M 194 (q_add (q_mul 16 x2) x3) x4_3 → q_v mX12_laysWays d (qPU P) M6 154 [some (qR 178), some (qI x1), some (qI x2), some (qI (q_add x3 1)), none] []))))))) : q_v mX12_laysWays d (qPU P) M 154 [some (qR 178), some (qI x1), some (qI x2), some (qI x3), none] [] := by
  refine qr_iload_n 154 155 rfl (x := x3) rfl dX12_laysWays_154 ?_
  refine qr_aload_n 155 156 rfl (x := 178) rfl dX12_laysWays_155 ?_
  refine qg_i 156 159 rfl ck12 25 (kk := 25) (by decide) (by decide +kernel) (by decide +kernel) rfl wm_1351 rfl dX12_laysWays_156 ?_
  refine qr_icmp_ge 159 162 222 rfl (by decide) dX12_laysWays_159 (fun c159 => ?_) (fun c159 => ?_)
  · have h := h.1 c159
    refine qr_iinc 222 225 rfl (by decide) (x := x2) rfl rfl rfl dX12_laysWays_222 ?_
    refine qr_goto 225 144 (by decide) dX12_laysWays_225 ?_
    exact qr_cut 144 (ls' := [some (qR 178), some (qI x1), some (qI (q_add x2 1)), none, none]) (And.intro rfl (And.intro rfl (And.intro rfl trivial))) h
  · have h := h.2 c159
    refine qr_aload_n 162 163 rfl (x := 178) rfl dX12_laysWays_162 ?_
    refine qr_getF 163 166 rfl ck12 29 (by decide) (b := 194) (by decide +kernel) rfl (by decide +kernel) (by decide +kernel) wm_1355 rfl dX12_laysWays_163 ?_
    refine qr_bipush 166 168 rfl (q_l32 _ rfl) (by decide) dX12_laysWays_166 ?_
    refine qr_iload_n 168 169 rfl (x := x2) rfl dX12_laysWays_168 ?_
    refine qr_imul 169 170 rfl dX12_laysWays_169 ?_
    refine qr_iload_n 170 171 rfl (x := x1) rfl dX12_laysWays_170 ?_
    refine qr_iadd 171 172 rfl dX12_laysWays_171 ?_
    have hb1 := h.1
    have h := h.2
    refine qi_ld 172 173 rfl (N := 256) (by decide +kernel) (by decide +kernel) hb1.1 hb1.2 dX12_laysWays_172 ?_
    refine qr_aload_n 173 174 rfl (x := 178) rfl dX12_laysWays_173 ?_
    refine qr_getF 174 177 rfl ck12 29 (by decide) (b := 194) (by decide +kernel) rfl (by decide +kernel) (by decide +kernel) wm_1355 rfl dX12_laysWays_174 ?_
    refine qr_bipush 177 179 rfl (q_l32 _ rfl) (by decide) dX12_laysWays_177 ?_
    refine qr_iload_n 179 180 rfl (x := x1) rfl dX12_laysWays_179 ?_
    refine qr_imul 180 181 rfl dX12_laysWays_180 ?_
    refine qr_iload_n 181 182 rfl (x := x3) rfl dX12_laysWays_181 ?_
    refine qr_iadd 182 183 rfl dX12_laysWays_182 ?_
    have hb2 := h.1
    have h := h.2
    refine qi_ld 183 184 rfl (N := 256) (by decide +kernel) (by decide +kernel) hb2.1 hb2.2 dX12_laysWays_183 ?_
    refine qr_iadd 184 185 rfl dX12_laysWays_184 ?_
    refine qn_i 185 (fun x4_3 e_x4_3 => ?_)
    have h := h x4_3 e_x4_3
    refine qr_istore 185 187 rfl (by decide) rfl rfl dX12_laysWays_185 ?_
    refine qr_iload 187 189 rfl (x := x4_3) rfl dX12_laysWays_187 ?_
    refine qr_aload_n 189 190 rfl (x := 178) rfl dX12_laysWays_189 ?_
    refine qr_getF 190 193 rfl ck12 29 (by decide) (b := 194) (by decide +kernel) rfl (by decide +kernel) (by decide +kernel) wm_1355 rfl dX12_laysWays_190 ?_
    refine qr_bipush 193 195 rfl (q_l32 _ rfl) (by decide) dX12_laysWays_193 ?_
    refine qr_iload_n 195 196 rfl (x := x2) rfl dX12_laysWays_195 ?_
    refine qr_imul 196 197 rfl dX12_laysWays_196 ?_
    refine qr_iload_n 197 198 rfl (x := x3) rfl dX12_laysWays_197 ?_
    refine qr_iadd 198 199 rfl dX12_laysWays_198 ?_
    have hb4 := h.1
    have h := h.2
    refine qi_ld 199 200 rfl (N := 256) (by decide +kernel) (by decide +kernel) hb4.1 hb4.2 dX12_laysWays_199 ?_
    refine qr_icmp_ge 200 203 216 rfl (by decide) dX12_laysWays_200 (fun c200 => ?_) (fun c200 => ?_)
    · have h := h.1 c200
      refine qr_iinc 216 219 rfl (by decide) (x := x3) rfl rfl rfl dX12_laysWays_216 ?_
      refine qr_goto 219 154 (by decide) dX12_laysWays_219 ?_
      exact qr_cut 154 (ls' := [some (qR 178), some (qI x1), some (qI x2), some (qI (q_add x3 1)), none]) (And.intro rfl (And.intro rfl (And.intro rfl (And.intro rfl trivial)))) h
    · have h := h.2 c200
      refine qr_aload_n 203 204 rfl (x := 178) rfl dX12_laysWays_203 ?_
      refine qr_getF 204 207 rfl ck12 29 (by decide) (b := 194) (by decide +kernel) rfl (by decide +kernel) (by decide +kernel) wm_1355 rfl dX12_laysWays_204 ?_
      refine qr_bipush 207 209 rfl (q_l32 _ rfl) (by decide) dX12_laysWays_207 ?_
      refine qr_iload_n 209 210 rfl (x := x2) rfl dX12_laysWays_209 ?_
      refine qr_imul 210 211 rfl dX12_laysWays_210 ?_
      refine qr_iload_n 211 212 rfl (x := x3) rfl dX12_laysWays_211 ?_
      refine qr_iadd 212 213 rfl dX12_laysWays_212 ?_
      refine qr_iload 213 215 rfl (x := x4_3) rfl dX12_laysWays_213 ?_
      have hb5 := h.1
      have h := h.2
      refine qi_st 215 216 rfl (N := 256) (by decide +kernel) (by decide +kernel) hb5.1 hb5.2 dX12_laysWays_215 (fun M6 e_M6 => ?_)
      have h := h M6 e_M6
      refine qr_iinc 216 219 rfl (by decide) (x := x3) rfl rfl rfl dX12_laysWays_216 ?_
      refine qr_goto 219 154 (by decide) dX12_laysWays_219 ?_
      exact qr_cut 154 (ls' := [some (qR 178), some (qI x1), some (qI x2), some (qI (q_add x3 1)), none]) (And.intro rfl (And.intro rfl (And.intro rfl (And.intro rfl trivial)))) h
theorem dX12_beyond_0 : decode cX12_beyond 0 = .ok (.aload_n 0, 1) := by decide +kernel
theorem dX12_beyond_1 : decode cX12_beyond 1 = .ok (.getfield 45, 3) := by decide +kernel
theorem dX12_beyond_4 : decode cX12_beyond 4 = .ok (.iconst 2, 1) := by decide +kernel
theorem dX12_beyond_5 : decode cX12_beyond 5 = .ok (.iload_n 1, 1) := by decide +kernel
theorem dX12_beyond_6 : decode cX12_beyond 6 = .ok (.imul, 1) := by decide +kernel
theorem dX12_beyond_7 : decode cX12_beyond 7 = .ok (.iaload, 1) := by decide +kernel
theorem dX12_beyond_8 : decode cX12_beyond 8 = .ok (.iload_n 2, 1) := by decide +kernel
theorem dX12_beyond_9 : decode cX12_beyond 9 = .ok (.if_icmp .ne 16, 3) := by decide +kernel
theorem dX12_beyond_12 : decode cX12_beyond 12 = .ok (.aload_n 0, 1) := by decide +kernel
theorem dX12_beyond_13 : decode cX12_beyond 13 = .ok (.getfield 45, 3) := by decide +kernel
theorem dX12_beyond_16 : decode cX12_beyond 16 = .ok (.iconst 2, 1) := by decide +kernel
theorem dX12_beyond_17 : decode cX12_beyond 17 = .ok (.iload_n 1, 1) := by decide +kernel
theorem dX12_beyond_18 : decode cX12_beyond 18 = .ok (.imul, 1) := by decide +kernel
theorem dX12_beyond_19 : decode cX12_beyond 19 = .ok (.iconst 1, 1) := by decide +kernel
theorem dX12_beyond_20 : decode cX12_beyond 20 = .ok (.iadd, 1) := by decide +kernel
theorem dX12_beyond_21 : decode cX12_beyond 21 = .ok (.iaload, 1) := by decide +kernel
theorem dX12_beyond_22 : decode cX12_beyond 22 = .ok (.goto 29, 3) := by decide +kernel
theorem dX12_beyond_25 : decode cX12_beyond 25 = .ok (.aload_n 0, 1) := by decide +kernel
theorem dX12_beyond_26 : decode cX12_beyond 26 = .ok (.getfield 45, 3) := by decide +kernel
theorem dX12_beyond_29 : decode cX12_beyond 29 = .ok (.iconst 2, 1) := by decide +kernel
theorem dX12_beyond_30 : decode cX12_beyond 30 = .ok (.iload_n 1, 1) := by decide +kernel
theorem dX12_beyond_31 : decode cX12_beyond 31 = .ok (.imul, 1) := by decide +kernel
theorem dX12_beyond_32 : decode cX12_beyond 32 = .ok (.iconst 1, 1) := by decide +kernel
theorem dX12_beyond_33 : decode cX12_beyond 33 = .ok (.iadd, 1) := by decide +kernel
theorem dX12_beyond_34 : decode cX12_beyond 34 = .ok (.iaload, 1) := by decide +kernel
theorem dX12_beyond_35 : decode cX12_beyond 35 = .ok (.iload_n 2, 1) := by decide +kernel
theorem dX12_beyond_36 : decode cX12_beyond 36 = .ok (.if_icmp .ne 14, 3) := by decide +kernel
theorem dX12_beyond_39 : decode cX12_beyond 39 = .ok (.aload_n 0, 1) := by decide +kernel
theorem dX12_beyond_40 : decode cX12_beyond 40 = .ok (.getfield 45, 3) := by decide +kernel
theorem dX12_beyond_43 : decode cX12_beyond 43 = .ok (.iconst 2, 1) := by decide +kernel
theorem dX12_beyond_44 : decode cX12_beyond 44 = .ok (.iload_n 1, 1) := by decide +kernel
theorem dX12_beyond_45 : decode cX12_beyond 45 = .ok (.imul, 1) := by decide +kernel
theorem dX12_beyond_46 : decode cX12_beyond 46 = .ok (.iaload, 1) := by decide +kernel
theorem dX12_beyond_47 : decode cX12_beyond 47 = .ok (.goto 4, 3) := by decide +kernel
theorem dX12_beyond_50 : decode cX12_beyond 50 = .ok (.iconst (-1), 1) := by decide +kernel
theorem dX12_beyond_51 : decode cX12_beyond 51 = .ok (.ireturn, 1) := by decide +kernel
theorem bX12_beyond_0 {d : Nat} {P : Int → q_Mem → Prop} {M : q_Mem} (x1 x2 : Int) (h : (0 ≤ (q_mul 2 x1) ∧ (q_mul 2 x1) < (32 : Int)) ∧ (((¬ (M 188 (q_mul 2 x1)) = x2) → (0 ≤ (q_add (q_mul 2 x1) 1) ∧ (q_add (q_mul 2 x1) 1) < (32 : Int)) ∧ (((¬ (M 188 (q_add (q_mul 2 x1) 1)) = x2) → P (-1) M) ∧ (((M 188 (q_add (q_mul 2 x1) 1)) = x2) → (0 ≤ (q_mul 2 x1) ∧ (q_mul 2 x1) < (32 : Int)) ∧ (P (M 188 (q_mul 2 x1)) M)))) ∧ (((M 188 (q_mul 2 x1)) = x2) → (0 ≤ (q_add (q_mul 2 x1) 1) ∧ (q_add (q_mul 2 x1) 1) < (32 : Int)) ∧ (P (M 188 (q_add (q_mul 2 x1) 1)) M)))) : q_v mX12_beyond d (qPI P) M 0 [some (qR 178), some (qI x1), some (qI x2)] [] := by
  refine qr_aload_n 0 1 rfl (x := 178) rfl dX12_beyond_0 ?_
  refine qr_getF 1 4 rfl ck12 20 (by decide) (b := 188) (by decide +kernel) rfl (by decide +kernel) (by decide +kernel) wm_1346 rfl dX12_beyond_1 ?_
  refine qr_iconst 4 5 rfl (q_l32 _ rfl) dX12_beyond_4 ?_
  refine qr_iload_n 5 6 rfl (x := x1) rfl dX12_beyond_5 ?_
  refine qr_imul 6 7 rfl dX12_beyond_6 ?_
  have hb1 := h.1
  have h := h.2
  refine qi_ld 7 8 rfl (N := 32) (by decide +kernel) (by decide +kernel) hb1.1 hb1.2 dX12_beyond_7 ?_
  refine qr_iload_n 8 9 rfl (x := x2) rfl dX12_beyond_8 ?_
  refine qr_icmp_ne 9 12 25 rfl (by decide) dX12_beyond_9 (fun c9 => ?_) (fun c9 => ?_)
  · have h := h.1 c9
    refine qr_aload_n 25 26 rfl (x := 178) rfl dX12_beyond_25 ?_
    refine qr_getF 26 29 rfl ck12 20 (by decide) (b := 188) (by decide +kernel) rfl (by decide +kernel) (by decide +kernel) wm_1346 rfl dX12_beyond_26 ?_
    refine qr_iconst 29 30 rfl (q_l32 _ rfl) dX12_beyond_29 ?_
    refine qr_iload_n 30 31 rfl (x := x1) rfl dX12_beyond_30 ?_
    refine qr_imul 31 32 rfl dX12_beyond_31 ?_
    refine qr_iconst 32 33 rfl (q_l32 _ rfl) dX12_beyond_32 ?_
    refine qr_iadd 33 34 rfl dX12_beyond_33 ?_
    have hb2 := h.1
    have h := h.2
    refine qi_ld 34 35 rfl (N := 32) (by decide +kernel) (by decide +kernel) hb2.1 hb2.2 dX12_beyond_34 ?_
    refine qr_iload_n 35 36 rfl (x := x2) rfl dX12_beyond_35 ?_
    refine qr_icmp_ne 36 39 50 rfl (by decide) dX12_beyond_36 (fun c36 => ?_) (fun c36 => ?_)
    · have h := h.1 c36
      refine qr_iconst 50 51 rfl (q_l32 _ rfl) dX12_beyond_50 ?_
      exact qe_i 51 rfl dX12_beyond_51 h
    · have h := h.2 c36
      refine qr_aload_n 39 40 rfl (x := 178) rfl dX12_beyond_39 ?_
      refine qr_getF 40 43 rfl ck12 20 (by decide) (b := 188) (by decide +kernel) rfl (by decide +kernel) (by decide +kernel) wm_1346 rfl dX12_beyond_40 ?_
      refine qr_iconst 43 44 rfl (q_l32 _ rfl) dX12_beyond_43 ?_
      refine qr_iload_n 44 45 rfl (x := x1) rfl dX12_beyond_44 ?_
      refine qr_imul 45 46 rfl dX12_beyond_45 ?_
      have hb3 := h.1
      have h := h.2
      refine qi_ld 46 47 rfl (N := 32) (by decide +kernel) (by decide +kernel) hb3.1 hb3.2 dX12_beyond_46 ?_
      refine qr_goto 47 51 (by decide) dX12_beyond_47 ?_
      exact qe_i 51 rfl dX12_beyond_51 h
  · have h := h.2 c9
    refine qr_aload_n 12 13 rfl (x := 178) rfl dX12_beyond_12 ?_
    refine qr_getF 13 16 rfl ck12 20 (by decide) (b := 188) (by decide +kernel) rfl (by decide +kernel) (by decide +kernel) wm_1346 rfl dX12_beyond_13 ?_
    refine qr_iconst 16 17 rfl (q_l32 _ rfl) dX12_beyond_16 ?_
    refine qr_iload_n 17 18 rfl (x := x1) rfl dX12_beyond_17 ?_
    refine qr_imul 18 19 rfl dX12_beyond_18 ?_
    refine qr_iconst 19 20 rfl (q_l32 _ rfl) dX12_beyond_19 ?_
    refine qr_iadd 20 21 rfl dX12_beyond_20 ?_
    have hb4 := h.1
    have h := h.2
    refine qi_ld 21 22 rfl (N := 32) (by decide +kernel) (by decide +kernel) hb4.1 hb4.2 dX12_beyond_21 ?_
    refine qr_goto 22 51 (by decide) dX12_beyond_22 ?_
    exact qe_i 51 rfl dX12_beyond_51 h
theorem dX12_laysCrossed_0 : decode cX12_laysCrossed 0 = .ok (.aload_n 0, 1) := by decide +kernel
theorem dX12_laysCrossed_1 : decode cX12_laysCrossed 1 = .ok (.getfield 63, 3) := by decide +kernel
theorem dX12_laysCrossed_4 : decode cX12_laysCrossed 4 = .ok (.bipush 16, 2) := by decide +kernel
theorem dX12_laysCrossed_6 : decode cX12_laysCrossed 6 = .ok (.iload_n 1, 1) := by decide +kernel
theorem dX12_laysCrossed_7 : decode cX12_laysCrossed 7 = .ok (.imul, 1) := by decide +kernel
theorem dX12_laysCrossed_8 : decode cX12_laysCrossed 8 = .ok (.iload_n 2, 1) := by decide +kernel
theorem dX12_laysCrossed_9 : decode cX12_laysCrossed 9 = .ok (.iadd, 1) := by decide +kernel
theorem dX12_laysCrossed_10 : decode cX12_laysCrossed 10 = .ok (.iaload, 1) := by decide +kernel
theorem dX12_laysCrossed_11 : decode cX12_laysCrossed 11 = .ok (.ldc_w 403, 3) := by decide +kernel
theorem dX12_laysCrossed_14 : decode cX12_laysCrossed 14 = .ok (.if_icmp .ne 5, 3) := by decide +kernel
theorem dX12_laysCrossed_17 : decode cX12_laysCrossed 17 = .ok (.iconst (-1), 1) := by decide +kernel
theorem dX12_laysCrossed_18 : decode cX12_laysCrossed 18 = .ok (.ireturn, 1) := by decide +kernel
theorem dX12_laysCrossed_19 : decode cX12_laysCrossed 19 = .ok (.iconst 0, 1) := by decide +kernel
theorem dX12_laysCrossed_20 : decode cX12_laysCrossed 20 = .ok (.istore_n 3, 1) := by decide +kernel
theorem dX12_laysCrossed_21 : decode cX12_laysCrossed 21 = .ok (.iload_n 1, 1) := by decide +kernel
theorem dX12_laysCrossed_22 : decode cX12_laysCrossed 22 = .ok (.istore 4, 2) := by decide +kernel
theorem dX12_laysCrossed_24 : decode cX12_laysCrossed 24 = .ok (.iload 4, 2) := by decide +kernel
theorem dX12_laysCrossed_26 : decode cX12_laysCrossed 26 = .ok (.iload_n 2, 1) := by decide +kernel
theorem dX12_laysCrossed_27 : decode cX12_laysCrossed 27 = .ok (.if_icmp .eq 88, 3) := by decide +kernel
theorem dX12_laysCrossed_30 : decode cX12_laysCrossed 30 = .ok (.iconst 0, 1) := by decide +kernel
theorem dX12_laysCrossed_31 : decode cX12_laysCrossed 31 = .ok (.istore 5, 2) := by decide +kernel
theorem dX12_laysCrossed_33 : decode cX12_laysCrossed 33 = .ok (.aload_n 0, 1) := by decide +kernel
theorem dX12_laysCrossed_34 : decode cX12_laysCrossed 34 = .ok (.iload 5, 2) := by decide +kernel
theorem dX12_laysCrossed_36 : decode cX12_laysCrossed 36 = .ok (.iload 4, 2) := by decide +kernel
theorem dX12_laysCrossed_38 : decode cX12_laysCrossed 38 = .ok (.invokevirtual 407, 3) := by decide +kernel
theorem dX12_laysCrossed_41 : decode cX12_laysCrossed 41 = .ok (.iconst (-1), 1) := by decide +kernel
theorem dX12_laysCrossed_42 : decode cX12_laysCrossed 42 = .ok (.if_icmp .eq 43, 3) := by decide +kernel
theorem dX12_laysCrossed_45 : decode cX12_laysCrossed 45 = .ok (.aload_n 0, 1) := by decide +kernel
theorem dX12_laysCrossed_46 : decode cX12_laysCrossed 46 = .ok (.iload 5, 2) := by decide +kernel
theorem dX12_laysCrossed_48 : decode cX12_laysCrossed 48 = .ok (.invokevirtual 404, 3) := by decide +kernel
theorem dX12_laysCrossed_51 : decode cX12_laysCrossed 51 = .ok (.aload_n 0, 1) := by decide +kernel
theorem dX12_laysCrossed_52 : decode cX12_laysCrossed 52 = .ok (.getfield 63, 3) := by decide +kernel
theorem dX12_laysCrossed_55 : decode cX12_laysCrossed 55 = .ok (.bipush 16, 2) := by decide +kernel
theorem dX12_laysCrossed_57 : decode cX12_laysCrossed 57 = .ok (.aload_n 0, 1) := by decide +kernel
theorem dX12_laysCrossed_58 : decode cX12_laysCrossed 58 = .ok (.iload 5, 2) := by decide +kernel
theorem dX12_laysCrossed_60 : decode cX12_laysCrossed 60 = .ok (.iload 4, 2) := by decide +kernel
theorem dX12_laysCrossed_62 : decode cX12_laysCrossed 62 = .ok (.invokevirtual 407, 3) := by decide +kernel
theorem dX12_laysCrossed_65 : decode cX12_laysCrossed 65 = .ok (.imul, 1) := by decide +kernel
theorem dX12_laysCrossed_66 : decode cX12_laysCrossed 66 = .ok (.iload_n 2, 1) := by decide +kernel
theorem dX12_laysCrossed_67 : decode cX12_laysCrossed 67 = .ok (.iadd, 1) := by decide +kernel
theorem dX12_laysCrossed_68 : decode cX12_laysCrossed 68 = .ok (.iaload, 1) := by decide +kernel
theorem dX12_laysCrossed_69 : decode cX12_laysCrossed 69 = .ok (.iadd, 1) := by decide +kernel
theorem dX12_laysCrossed_70 : decode cX12_laysCrossed 70 = .ok (.aload_n 0, 1) := by decide +kernel
theorem dX12_laysCrossed_71 : decode cX12_laysCrossed 71 = .ok (.getfield 63, 3) := by decide +kernel
theorem dX12_laysCrossed_74 : decode cX12_laysCrossed 74 = .ok (.bipush 16, 2) := by decide +kernel
theorem dX12_laysCrossed_76 : decode cX12_laysCrossed 76 = .ok (.iload 4, 2) := by decide +kernel
theorem dX12_laysCrossed_78 : decode cX12_laysCrossed 78 = .ok (.imul, 1) := by decide +kernel
theorem dX12_laysCrossed_79 : decode cX12_laysCrossed 79 = .ok (.iload_n 2, 1) := by decide +kernel
theorem dX12_laysCrossed_80 : decode cX12_laysCrossed 80 = .ok (.iadd, 1) := by decide +kernel
theorem dX12_laysCrossed_81 : decode cX12_laysCrossed 81 = .ok (.iaload, 1) := by decide +kernel
theorem dX12_laysCrossed_82 : decode cX12_laysCrossed 82 = .ok (.if_icmp .eq 9, 3) := by decide +kernel
theorem dX12_laysCrossed_85 : decode cX12_laysCrossed 85 = .ok (.iinc 5 1, 3) := by decide +kernel
theorem dX12_laysCrossed_88 : decode cX12_laysCrossed 88 = .ok (.goto (-55), 3) := by decide +kernel
theorem dX12_laysCrossed_91 : decode cX12_laysCrossed 91 = .ok (.aload_n 0, 1) := by decide +kernel
theorem dX12_laysCrossed_92 : decode cX12_laysCrossed 92 = .ok (.getfield 66, 3) := by decide +kernel
theorem dX12_laysCrossed_95 : decode cX12_laysCrossed 95 = .ok (.iload_n 3, 1) := by decide +kernel
theorem dX12_laysCrossed_96 : decode cX12_laysCrossed 96 = .ok (.iload 5, 2) := by decide +kernel
theorem dX12_laysCrossed_98 : decode cX12_laysCrossed 98 = .ok (.iastore, 1) := by decide +kernel
theorem dX12_laysCrossed_99 : decode cX12_laysCrossed 99 = .ok (.iinc 3 1, 3) := by decide +kernel
theorem dX12_laysCrossed_102 : decode cX12_laysCrossed 102 = .ok (.aload_n 0, 1) := by decide +kernel
theorem dX12_laysCrossed_103 : decode cX12_laysCrossed 103 = .ok (.iload 5, 2) := by decide +kernel
theorem dX12_laysCrossed_105 : decode cX12_laysCrossed 105 = .ok (.iload 4, 2) := by decide +kernel
theorem dX12_laysCrossed_107 : decode cX12_laysCrossed 107 = .ok (.invokevirtual 407, 3) := by decide +kernel
theorem dX12_laysCrossed_110 : decode cX12_laysCrossed 110 = .ok (.istore 4, 2) := by decide +kernel
theorem dX12_laysCrossed_112 : decode cX12_laysCrossed 112 = .ok (.goto (-88), 3) := by decide +kernel
theorem dX12_laysCrossed_115 : decode cX12_laysCrossed 115 = .ok (.iload_n 3, 1) := by decide +kernel
theorem dX12_laysCrossed_116 : decode cX12_laysCrossed 116 = .ok (.ireturn, 1) := by decide +kernel
theorem bX12_laysCrossed_0 {d : Nat} {P : Int → q_Mem → Prop} {M : q_Mem} (x1 x2 : Int) (h : (0 ≤ (q_add (q_mul 16 x1) x2) ∧ (q_add (q_mul 16 x1) x2) < (256 : Int)) ∧ (((¬ (M 194 (q_add (q_mul 16 x1) x2)) = (67108864 : Int)) → q_v mX12_laysCrossed d (qPI P) M 24 [some (qR 178), none, some (qI x2), some (qI 0), some (qI x1), none] []) ∧ (((M 194 (q_add (q_mul 16 x1) x2)) = (67108864 : Int)) → P (-1) M))) : q_v mX12_laysCrossed d (qPI P) M 0 [some (qR 178), some (qI x1), some (qI x2), none, none, none] [] := by
  refine qr_aload_n 0 1 rfl (x := 178) rfl dX12_laysCrossed_0 ?_
  refine qr_getF 1 4 rfl ck12 29 (by decide) (b := 194) (by decide +kernel) rfl (by decide +kernel) (by decide +kernel) wm_1355 rfl dX12_laysCrossed_1 ?_
  refine qr_bipush 4 6 rfl (q_l32 _ rfl) (by decide) dX12_laysCrossed_4 ?_
  refine qr_iload_n 6 7 rfl (x := x1) rfl dX12_laysCrossed_6 ?_
  refine qr_imul 7 8 rfl dX12_laysCrossed_7 ?_
  refine qr_iload_n 8 9 rfl (x := x2) rfl dX12_laysCrossed_8 ?_
  refine qr_iadd 9 10 rfl dX12_laysCrossed_9 ?_
  have hb1 := h.1
  have h := h.2
  refine qi_ld 10 11 rfl (N := 256) (by decide +kernel) (by decide +kernel) hb1.1 hb1.2 dX12_laysCrossed_10 ?_
  refine qr_ldc_w 11 14 rfl (v := 67108864) (q_l32 _ rfl) wm_1745 dX12_laysCrossed_11 ?_
  refine qr_icmp_ne 14 17 19 rfl (by decide) dX12_laysCrossed_14 (fun c14 => ?_) (fun c14 => ?_)
  · have h := h.1 c14
    refine qr_iconst 19 20 rfl (q_l32 _ rfl) dX12_laysCrossed_19 ?_
    refine qr_istore_n 20 21 rfl (by decide) rfl rfl dX12_laysCrossed_20 ?_
    refine qr_iload_n 21 22 rfl (x := x1) rfl dX12_laysCrossed_21 ?_
    refine qr_istore 22 24 rfl (by decide) rfl rfl dX12_laysCrossed_22 ?_
    exact qr_cut 24 (ls' := [some (qR 178), none, some (qI x2), some (qI 0), some (qI x1), none]) (And.intro rfl (And.intro rfl (And.intro rfl (And.intro rfl trivial)))) h
  · have h := h.2 c14
    refine qr_iconst 17 18 rfl (q_l32 _ rfl) dX12_laysCrossed_17 ?_
    exact qe_i 18 rfl dX12_laysCrossed_18 h
theorem bX12_laysCrossed_24 {d : Nat} {P : Int → q_Mem → Prop} {M : q_Mem} (x2 x3 x4 : Int) (h : ((x4 = x2) → P x3 M) ∧ ((¬ (x4 = x2)) → q_v mX12_laysCrossed d (qPI P) M 33 [some (qR 178), none, some (qI x2), some (qI x3), some (qI x4), some (qI 0)] [])) : q_v mX12_laysCrossed d (qPI P) M 24 [some (qR 178), none, some (qI x2), some (qI x3), some (qI x4), none] [] := by
  refine qr_iload 24 26 rfl (x := x4) rfl dX12_laysCrossed_24 ?_
  refine qr_iload_n 26 27 rfl (x := x2) rfl dX12_laysCrossed_26 ?_
  refine qr_icmp_eq 27 30 115 rfl (by decide) dX12_laysCrossed_27 (fun c27 => ?_) (fun c27 => ?_)
  · have h := h.1 c27
    refine qr_iload_n 115 116 rfl (x := x3) rfl dX12_laysCrossed_115 ?_
    exact qe_i 116 rfl dX12_laysCrossed_116 h
  · have h := h.2 c27
    refine qr_iconst 30 31 rfl (q_l32 _ rfl) dX12_laysCrossed_30 ?_
    refine qr_istore 31 33 rfl (by decide) rfl rfl dX12_laysCrossed_31 ?_
    exact h
theorem bX12_laysCrossed_33 {d : Nat} {P : Int → q_Mem → Prop} {M : q_Mem} (x2 x3 x4 x5 : Int) (h : q_kI yX12_beyond mX12_beyond d [qR 178, qI x5, qI x4] M (fun v2 M1 => ((v2 = ((-1) : Int)) → q_v mX12_laysCrossed d (qPI P) M1 33 [some (qR 178), none, some (qI x2), some (qI x3), some (qI x4), some (qI (q_add x5 1))] []) ∧ ((¬ (v2 = ((-1) : Int))) → q_kI yX12_costOf mX12_costOf d [qR 178, qI x5] M1 (fun v4 M3 => q_kI yX12_beyond mX12_beyond d [qR 178, qI x5, qI x4] M3 (fun v6 M5 => (0 ≤ (q_add (q_mul 16 v6) x2) ∧ (q_add (q_mul 16 v6) x2) < (256 : Int)) ∧ ((0 ≤ (q_add (q_mul 16 x4) x2) ∧ (q_add (q_mul 16 x4) x2) < (256 : Int)) ∧ ((((q_add v4 (M5 194 (q_add (q_mul 16 v6) x2))) = (M5 194 (q_add (q_mul 16 x4) x2))) → (0 ≤ x3 ∧ x3 < (16 : Int)) ∧ (∀ M10 : q_Mem, M10 = q_up M5 195 x3 x5 → q_kI yX12_beyond mX12_beyond d [qR 178, qI x5, qI x4] M10 (fun v12 M11 => q_v mX12_laysCrossed d (qPI P) M11 24 [some (qR 178), none, some (qI x2), some (qI (q_add x3 1)), some (qI v12), none] []))) ∧ ((¬ ((q_add v4 (M5 194 (q_add (q_mul 16 v6) x2))) = (M5 194 (q_add (q_mul 16 x4) x2)))) → q_v mX12_laysCrossed d (qPI P) M5 33 [some (qR 178), none, some (qI x2), some (qI x3), some (qI x4), some (qI (q_add x5 1))] [])))))))) : q_v mX12_laysCrossed d (qPI P) M 33 [some (qR 178), none, some (qI x2), some (qI x3), some (qI x4), some (qI x5)] [] := by
  refine qr_aload_n 33 34 rfl (x := 178) rfl dX12_laysCrossed_33 ?_
  refine qr_iload 34 36 rfl (x := x5) rfl dX12_laysCrossed_34 ?_
  refine qr_iload 36 38 rfl (x := x4) rfl dX12_laysCrossed_36 ?_
  refine qw_I 38 41 rfl (av := [qI x5, qI x4]) ca_X12_beyond wm_1775 wp_127 wm_1773 ck12 (by decide +kernel) rfl rfl (Nat.le_of_ble_eq_true rfl) dX12_laysCrossed_38 h (fun v2 M1 h => ?_)
  refine qr_iconst 41 42 rfl (q_l32 _ rfl) dX12_laysCrossed_41 ?_
  refine qr_icmp_eq 42 45 85 rfl (by decide) dX12_laysCrossed_42 (fun c42 => ?_) (fun c42 => ?_)
  · have h := h.1 c42
    refine qr_iinc 85 88 rfl (by decide) (x := x5) rfl rfl rfl dX12_laysCrossed_85 ?_
    refine qr_goto 88 33 (by decide) dX12_laysCrossed_88 ?_
    exact h
  · have h := h.2 c42
    refine qr_aload_n 45 46 rfl (x := 178) rfl dX12_laysCrossed_45 ?_
    refine qr_iload 46 48 rfl (x := x5) rfl dX12_laysCrossed_46 ?_
    refine qw_I 48 51 rfl (av := [qI x5]) ca_X12_costOf wm_1748 wp_122 wm_1746 ck12 (by decide +kernel) rfl rfl (Nat.le_of_ble_eq_true rfl) dX12_laysCrossed_48 h (fun v4 M3 h => ?_)
    refine qr_aload_n 51 52 rfl (x := 178) rfl dX12_laysCrossed_51 ?_
    refine qr_getF 52 55 rfl ck12 29 (by decide) (b := 194) (by decide +kernel) rfl (by decide +kernel) (by decide +kernel) wm_1355 rfl dX12_laysCrossed_52 ?_
    refine qr_bipush 55 57 rfl (q_l32 _ rfl) (by decide) dX12_laysCrossed_55 ?_
    refine qr_aload_n 57 58 rfl (x := 178) rfl dX12_laysCrossed_57 ?_
    refine qr_iload 58 60 rfl (x := x5) rfl dX12_laysCrossed_58 ?_
    refine qr_iload 60 62 rfl (x := x4) rfl dX12_laysCrossed_60 ?_
    refine qw_I 62 65 rfl (av := [qI x5, qI x4]) ca_X12_beyond wm_1775 wp_127 wm_1773 ck12 (by decide +kernel) rfl rfl (Nat.le_of_ble_eq_true rfl) dX12_laysCrossed_62 h (fun v6 M5 h => ?_)
    refine qr_imul 65 66 rfl dX12_laysCrossed_65 ?_
    refine qr_iload_n 66 67 rfl (x := x2) rfl dX12_laysCrossed_66 ?_
    refine qr_iadd 67 68 rfl dX12_laysCrossed_67 ?_
    have hb7 := h.1
    have h := h.2
    refine qi_ld 68 69 rfl (N := 256) (by decide +kernel) (by decide +kernel) hb7.1 hb7.2 dX12_laysCrossed_68 ?_
    refine qr_iadd 69 70 rfl dX12_laysCrossed_69 ?_
    refine qr_aload_n 70 71 rfl (x := 178) rfl dX12_laysCrossed_70 ?_
    refine qr_getF 71 74 rfl ck12 29 (by decide) (b := 194) (by decide +kernel) rfl (by decide +kernel) (by decide +kernel) wm_1355 rfl dX12_laysCrossed_71 ?_
    refine qr_bipush 74 76 rfl (q_l32 _ rfl) (by decide) dX12_laysCrossed_74 ?_
    refine qr_iload 76 78 rfl (x := x4) rfl dX12_laysCrossed_76 ?_
    refine qr_imul 78 79 rfl dX12_laysCrossed_78 ?_
    refine qr_iload_n 79 80 rfl (x := x2) rfl dX12_laysCrossed_79 ?_
    refine qr_iadd 80 81 rfl dX12_laysCrossed_80 ?_
    have hb8 := h.1
    have h := h.2
    refine qi_ld 81 82 rfl (N := 256) (by decide +kernel) (by decide +kernel) hb8.1 hb8.2 dX12_laysCrossed_81 ?_
    refine qr_icmp_eq 82 85 91 rfl (by decide) dX12_laysCrossed_82 (fun c82 => ?_) (fun c82 => ?_)
    · have h := h.1 c82
      refine qr_aload_n 91 92 rfl (x := 178) rfl dX12_laysCrossed_91 ?_
      refine qr_getF 92 95 rfl ck12 30 (by decide) (b := 195) (by decide +kernel) rfl (by decide +kernel) (by decide +kernel) wm_1356 rfl dX12_laysCrossed_92 ?_
      refine qr_iload_n 95 96 rfl (x := x3) rfl dX12_laysCrossed_95 ?_
      refine qr_iload 96 98 rfl (x := x5) rfl dX12_laysCrossed_96 ?_
      have hb9 := h.1
      have h := h.2
      refine qi_st 98 99 rfl (N := 16) (by decide +kernel) (by decide +kernel) hb9.1 hb9.2 dX12_laysCrossed_98 (fun M10 e_M10 => ?_)
      have h := h M10 e_M10
      refine qr_iinc 99 102 rfl (by decide) (x := x3) rfl rfl rfl dX12_laysCrossed_99 ?_
      refine qr_aload_n 102 103 rfl (x := 178) rfl dX12_laysCrossed_102 ?_
      refine qr_iload 103 105 rfl (x := x5) rfl dX12_laysCrossed_103 ?_
      refine qr_iload 105 107 rfl (x := x4) rfl dX12_laysCrossed_105 ?_
      refine qw_I 107 110 rfl (av := [qI x5, qI x4]) ca_X12_beyond wm_1775 wp_127 wm_1773 ck12 (by decide +kernel) rfl rfl (Nat.le_of_ble_eq_true rfl) dX12_laysCrossed_107 h (fun v12 M11 h => ?_)
      refine qr_istore 110 112 rfl (by decide) rfl rfl dX12_laysCrossed_110 ?_
      refine qr_goto 112 24 (by decide) dX12_laysCrossed_112 ?_
      exact qr_cut 24 (ls' := [some (qR 178), none, some (qI x2), some (qI (q_add x3 1)), some (qI v12), none]) (And.intro rfl (And.intro rfl (And.intro rfl (And.intro rfl trivial)))) h
    · have h := h.2 c82
      refine qr_iinc 85 88 rfl (by decide) (x := x5) rfl rfl rfl dX12_laysCrossed_85 ?_
      refine qr_goto 88 33 (by decide) dX12_laysCrossed_88 ?_
      exact h
theorem dX12_laysAllWays_0 : decode cX12_laysAllWays 0 = .ok (.aload_n 0, 1) := by decide +kernel
theorem dX12_laysAllWays_1 : decode cX12_laysAllWays 1 = .ok (.invokevirtual 290, 3) := by decide +kernel
theorem dX12_laysAllWays_4 : decode cX12_laysAllWays 4 = .ok (.aload_n 0, 1) := by decide +kernel
theorem dX12_laysAllWays_5 : decode cX12_laysAllWays 5 = .ok (.invokevirtual 266, 3) := by decide +kernel
theorem dX12_laysAllWays_8 : decode cX12_laysAllWays 8 = .ok (.aload_n 0, 1) := by decide +kernel
theorem dX12_laysAllWays_9 : decode cX12_laysAllWays 9 = .ok (.invokevirtual 410, 3) := by decide +kernel
theorem dX12_laysAllWays_12 : decode cX12_laysAllWays 12 = .ok (.return_, 1) := by decide +kernel
theorem bX12_laysAllWays_0 {d : Nat} {P : q_Mem → Prop} {M : q_Mem} (h : q_kU yX12_laysFaces mX12_laysFaces d [qR 178] M (fun M1 => q_kU yX12_laysWeights mX12_laysWeights d [qR 178] M1 (fun M2 => q_kU yX12_laysWays mX12_laysWays d [qR 178] M2 (fun M3 => P M3)))) : q_v mX12_laysAllWays d (qPU P) M 0 [some (qR 178)] [] := by
  refine qr_aload_n 0 1 rfl (x := 178) rfl dX12_laysAllWays_0 ?_
  refine qw_U 1 4 rfl (av := []) ca_X12_laysFaces wm_1615 wp_102 wm_1613 ck12 (by decide +kernel) rfl rfl (Nat.le_of_ble_eq_true rfl) dX12_laysAllWays_1 h (fun M1 h => ?_)
  refine qr_aload_n 4 5 rfl (x := 178) rfl dX12_laysAllWays_4 ?_
  refine qw_U 5 8 rfl (av := []) ca_X12_laysWeights wm_1687 wp_112 wm_1685 ck12 (by decide +kernel) rfl rfl (Nat.le_of_ble_eq_true rfl) dX12_laysAllWays_5 h (fun M2 h => ?_)
  refine qr_aload_n 8 9 rfl (x := 178) rfl dX12_laysAllWays_8 ?_
  refine qw_U 9 12 rfl (av := []) ca_X12_laysWays wm_1743 wp_121 wm_1741 ck12 (by decide +kernel) rfl rfl (Nat.le_of_ble_eq_true rfl) dX12_laysAllWays_9 h (fun M3 h => ?_)
  exact qe_u 12 rfl dX12_laysAllWays_12 h
theorem dX12_far_0 : decode cX12_far 0 = .ok (.aload_n 0, 1) := by decide +kernel
theorem dX12_far_1 : decode cX12_far 1 = .ok (.iconst 0, 1) := by decide +kernel
theorem dX12_far_2 : decode cX12_far 2 = .ok (.putfield 1, 3) := by decide +kernel
theorem dX12_far_5 : decode cX12_far 5 = .ok (.aload_n 0, 1) := by decide +kernel
theorem dX12_far_6 : decode cX12_far 6 = .ok (.invokevirtual 413, 3) := by decide +kernel
theorem dX12_far_9 : decode cX12_far 9 = .ok (.aload_n 0, 1) := by decide +kernel
theorem dX12_far_10 : decode cX12_far 10 = .ok (.iload_n 1, 1) := by decide +kernel
theorem dX12_far_11 : decode cX12_far 11 = .ok (.i2l, 1) := by decide +kernel
theorem dX12_far_12 : decode cX12_far 12 = .ok (.invokevirtual 388, 3) := by decide +kernel
theorem dX12_far_15 : decode cX12_far 15 = .ok (.ifCond .eq 12, 3) := by decide +kernel
theorem dX12_far_18 : decode cX12_far 18 = .ok (.aload_n 0, 1) := by decide +kernel
theorem dX12_far_19 : decode cX12_far 19 = .ok (.iload_n 2, 1) := by decide +kernel
theorem dX12_far_20 : decode cX12_far 20 = .ok (.i2l, 1) := by decide +kernel
theorem dX12_far_21 : decode cX12_far 21 = .ok (.invokevirtual 388, 3) := by decide +kernel
theorem dX12_far_24 : decode cX12_far 24 = .ok (.ifCond .ne 6, 3) := by decide +kernel
theorem dX12_far_27 : decode cX12_far 27 = .ok (.bipush (-2), 2) := by decide +kernel
theorem dX12_far_29 : decode cX12_far 29 = .ok (.ireturn, 1) := by decide +kernel
theorem dX12_far_30 : decode cX12_far 30 = .ok (.aload_n 0, 1) := by decide +kernel
theorem dX12_far_31 : decode cX12_far 31 = .ok (.getfield 63, 3) := by decide +kernel
theorem dX12_far_34 : decode cX12_far 34 = .ok (.bipush 16, 2) := by decide +kernel
theorem dX12_far_36 : decode cX12_far 36 = .ok (.iload_n 1, 1) := by decide +kernel
theorem dX12_far_37 : decode cX12_far 37 = .ok (.imul, 1) := by decide +kernel
theorem dX12_far_38 : decode cX12_far 38 = .ok (.iload_n 2, 1) := by decide +kernel
theorem dX12_far_39 : decode cX12_far 39 = .ok (.iadd, 1) := by decide +kernel
theorem dX12_far_40 : decode cX12_far 40 = .ok (.iaload, 1) := by decide +kernel
theorem dX12_far_41 : decode cX12_far 41 = .ok (.ldc_w 403, 3) := by decide +kernel
theorem dX12_far_44 : decode cX12_far 44 = .ok (.if_icmp .ne 7, 3) := by decide +kernel
theorem dX12_far_47 : decode cX12_far 47 = .ok (.iconst (-1), 1) := by decide +kernel
theorem dX12_far_48 : decode cX12_far 48 = .ok (.goto 18, 3) := by decide +kernel
theorem dX12_far_51 : decode cX12_far 51 = .ok (.aload_n 0, 1) := by decide +kernel
theorem dX12_far_52 : decode cX12_far 52 = .ok (.getfield 63, 3) := by decide +kernel
theorem dX12_far_55 : decode cX12_far 55 = .ok (.bipush 16, 2) := by decide +kernel
theorem dX12_far_57 : decode cX12_far 57 = .ok (.iload_n 1, 1) := by decide +kernel
theorem dX12_far_58 : decode cX12_far 58 = .ok (.imul, 1) := by decide +kernel
theorem dX12_far_59 : decode cX12_far 59 = .ok (.iload_n 2, 1) := by decide +kernel
theorem dX12_far_60 : decode cX12_far 60 = .ok (.iadd, 1) := by decide +kernel
theorem dX12_far_61 : decode cX12_far 61 = .ok (.iaload, 1) := by decide +kernel
theorem dX12_far_62 : decode cX12_far 62 = .ok (.sipush 1000, 3) := by decide +kernel
theorem dX12_far_65 : decode cX12_far 65 = .ok (.idiv, 1) := by decide +kernel
theorem dX12_far_66 : decode cX12_far 66 = .ok (.ireturn, 1) := by decide +kernel
theorem bX12_far_0 {d : Nat} {P : Int → q_Mem → Prop} {M : q_Mem} (x1 x2 : Int) (h : (∀ M1 : q_Mem, M1 = q_up M 178 0 0 → q_kU yX12_laysAllWays mX12_laysAllWays d [qR 178] M1 (fun M2 => q_kI yX12_isFace mX12_isFace d [qR 178, qL x1] M2 (fun v4 M3 => ((v4 = 0) → P (-2) M3) ∧ ((¬ (v4 = 0)) → q_kI yX12_isFace mX12_isFace d [qR 178, qL x2] M3 (fun v6 M5 => ((¬ v6 = 0) → (0 ≤ (q_add (q_mul 16 x1) x2) ∧ (q_add (q_mul 16 x1) x2) < (256 : Int)) ∧ (((¬ (M5 194 (q_add (q_mul 16 x1) x2)) = (67108864 : Int)) → (0 ≤ (q_add (q_mul 16 x1) x2) ∧ (q_add (q_mul 16 x1) x2) < (256 : Int)) ∧ (P (q_div (M5 194 (q_add (q_mul 16 x1) x2)) 1000) M5)) ∧ (((M5 194 (q_add (q_mul 16 x1) x2)) = (67108864 : Int)) → P (-1) M5))) ∧ ((v6 = 0) → P (-2) M5))))))) : q_v mX12_far d (qPI P) M 0 [some (qR 178), some (qI x1), some (qI x2)] [] := by
  refine qr_aload_n 0 1 rfl (x := 178) rfl dX12_far_0 ?_
  refine qr_iconst 1 2 rfl (q_l32 _ rfl) dX12_far_1 ?_
  refine qp_i 2 5 rfl ck12 0 (kk := 0) (by decide) (by decide +kernel) (by decide) rfl rfl wm_1326 rfl dX12_far_2 (fun M1 e_M1 => ?_)
  have h := h M1 e_M1
  refine qr_aload_n 5 6 rfl (x := 178) rfl dX12_far_5 ?_
  refine qw_U 6 9 rfl (av := []) ca_X12_laysAllWays wm_1887 wp_141 wm_1885 ck12 (by decide +kernel) rfl rfl (Nat.le_of_ble_eq_true rfl) dX12_far_6 h (fun M2 h => ?_)
  refine qr_aload_n 9 10 rfl (x := 178) rfl dX12_far_9 ?_
  refine qr_iload_n 10 11 rfl (x := x1) rfl dX12_far_10 ?_
  refine qr_i2l 11 12 rfl dX12_far_11 ?_
  refine qw_I 12 15 rfl (av := [qL x1]) ca_X12_isFace wm_1855 wp_138 wm_1853 ck12 (by decide +kernel) rfl rfl (Nat.le_of_ble_eq_true rfl) dX12_far_12 h (fun v4 M3 h => ?_)
  refine qr_if_eq 15 18 27 rfl (by decide) dX12_far_15 (fun c15 => ?_) (fun c15 => ?_)
  · have h := h.1 c15
    refine qr_bipush 27 29 rfl (q_l32 _ rfl) (by decide) dX12_far_27 ?_
    exact qe_i 29 rfl dX12_far_29 h
  · have h := h.2 c15
    refine qr_aload_n 18 19 rfl (x := 178) rfl dX12_far_18 ?_
    refine qr_iload_n 19 20 rfl (x := x2) rfl dX12_far_19 ?_
    refine qr_i2l 20 21 rfl dX12_far_20 ?_
    refine qw_I 21 24 rfl (av := [qL x2]) ca_X12_isFace wm_1855 wp_138 wm_1853 ck12 (by decide +kernel) rfl rfl (Nat.le_of_ble_eq_true rfl) dX12_far_21 h (fun v6 M5 h => ?_)
    refine qr_if_ne 24 27 30 rfl (by decide) dX12_far_24 (fun c24 => ?_) (fun c24 => ?_)
    · have h := h.1 c24
      refine qr_aload_n 30 31 rfl (x := 178) rfl dX12_far_30 ?_
      refine qr_getF 31 34 rfl ck12 29 (by decide) (b := 194) (by decide +kernel) rfl (by decide +kernel) (by decide +kernel) wm_1355 rfl dX12_far_31 ?_
      refine qr_bipush 34 36 rfl (q_l32 _ rfl) (by decide) dX12_far_34 ?_
      refine qr_iload_n 36 37 rfl (x := x1) rfl dX12_far_36 ?_
      refine qr_imul 37 38 rfl dX12_far_37 ?_
      refine qr_iload_n 38 39 rfl (x := x2) rfl dX12_far_38 ?_
      refine qr_iadd 39 40 rfl dX12_far_39 ?_
      have hb7 := h.1
      have h := h.2
      refine qi_ld 40 41 rfl (N := 256) (by decide +kernel) (by decide +kernel) hb7.1 hb7.2 dX12_far_40 ?_
      refine qr_ldc_w 41 44 rfl (v := 67108864) (q_l32 _ rfl) wm_1745 dX12_far_41 ?_
      refine qr_icmp_ne 44 47 51 rfl (by decide) dX12_far_44 (fun c44 => ?_) (fun c44 => ?_)
      · have h := h.1 c44
        refine qr_aload_n 51 52 rfl (x := 178) rfl dX12_far_51 ?_
        refine qr_getF 52 55 rfl ck12 29 (by decide) (b := 194) (by decide +kernel) rfl (by decide +kernel) (by decide +kernel) wm_1355 rfl dX12_far_52 ?_
        refine qr_bipush 55 57 rfl (q_l32 _ rfl) (by decide) dX12_far_55 ?_
        refine qr_iload_n 57 58 rfl (x := x1) rfl dX12_far_57 ?_
        refine qr_imul 58 59 rfl dX12_far_58 ?_
        refine qr_iload_n 59 60 rfl (x := x2) rfl dX12_far_59 ?_
        refine qr_iadd 60 61 rfl dX12_far_60 ?_
        have hb8 := h.1
        have h := h.2
        refine qi_ld 61 62 rfl (N := 256) (by decide +kernel) (by decide +kernel) hb8.1 hb8.2 dX12_far_61 ?_
        refine qr_sipush 62 65 rfl (q_l32 _ rfl) (by decide) dX12_far_62 ?_
        refine qr_idiv 65 66 rfl (by decide) dX12_far_65 ?_
        exact qe_i 66 rfl dX12_far_66 h
      · have h := h.2 c44
        refine qr_iconst 47 48 rfl (q_l32 _ rfl) dX12_far_47 ?_
        refine qr_goto 48 66 (by decide) dX12_far_48 ?_
        exact qe_i 66 rfl dX12_far_66 h
    · have h := h.2 c24
      refine qr_bipush 27 29 rfl (q_l32 _ rfl) (by decide) dX12_far_27 ?_
      exact qe_i 29 rfl dX12_far_29 h
theorem dX12_across_0 : decode cX12_across 0 = .ok (.aload_n 0, 1) := by decide +kernel
theorem dX12_across_1 : decode cX12_across 1 = .ok (.iconst 0, 1) := by decide +kernel
theorem dX12_across_2 : decode cX12_across 2 = .ok (.putfield 1, 3) := by decide +kernel
theorem dX12_across_5 : decode cX12_across 5 = .ok (.aload_n 0, 1) := by decide +kernel
theorem dX12_across_6 : decode cX12_across 6 = .ok (.invokevirtual 413, 3) := by decide +kernel
theorem dX12_across_9 : decode cX12_across 9 = .ok (.aload_n 0, 1) := by decide +kernel
theorem dX12_across_10 : decode cX12_across 10 = .ok (.iload_n 1, 1) := by decide +kernel
theorem dX12_across_11 : decode cX12_across 11 = .ok (.i2l, 1) := by decide +kernel
theorem dX12_across_12 : decode cX12_across 12 = .ok (.invokevirtual 388, 3) := by decide +kernel
theorem dX12_across_15 : decode cX12_across 15 = .ok (.ifCond .eq 12, 3) := by decide +kernel
theorem dX12_across_18 : decode cX12_across 18 = .ok (.aload_n 0, 1) := by decide +kernel
theorem dX12_across_19 : decode cX12_across 19 = .ok (.iload_n 2, 1) := by decide +kernel
theorem dX12_across_20 : decode cX12_across 20 = .ok (.i2l, 1) := by decide +kernel
theorem dX12_across_21 : decode cX12_across 21 = .ok (.invokevirtual 388, 3) := by decide +kernel
theorem dX12_across_24 : decode cX12_across 24 = .ok (.ifCond .ne 6, 3) := by decide +kernel
theorem dX12_across_27 : decode cX12_across 27 = .ok (.bipush (-2), 2) := by decide +kernel
theorem dX12_across_29 : decode cX12_across 29 = .ok (.ireturn, 1) := by decide +kernel
theorem dX12_across_30 : decode cX12_across 30 = .ok (.iload_n 3, 1) := by decide +kernel
theorem dX12_across_31 : decode cX12_across 31 = .ok (.ifCond .ge 6, 3) := by decide +kernel
theorem dX12_across_34 : decode cX12_across 34 = .ok (.bipush (-3), 2) := by decide +kernel
theorem dX12_across_36 : decode cX12_across 36 = .ok (.ireturn, 1) := by decide +kernel
theorem dX12_across_37 : decode cX12_across 37 = .ok (.iload_n 3, 1) := by decide +kernel
theorem dX12_across_38 : decode cX12_across 38 = .ok (.aload_n 0, 1) := by decide +kernel
theorem dX12_across_39 : decode cX12_across 39 = .ok (.iload_n 1, 1) := by decide +kernel
theorem dX12_across_40 : decode cX12_across 40 = .ok (.iload_n 2, 1) := by decide +kernel
theorem dX12_across_41 : decode cX12_across 41 = .ok (.invokevirtual 416, 3) := by decide +kernel
theorem dX12_across_44 : decode cX12_across 44 = .ok (.if_icmp .ge 12, 3) := by decide +kernel
theorem dX12_across_47 : decode cX12_across 47 = .ok (.aload_n 0, 1) := by decide +kernel
theorem dX12_across_48 : decode cX12_across 48 = .ok (.getfield 66, 3) := by decide +kernel
theorem dX12_across_51 : decode cX12_across 51 = .ok (.iload_n 3, 1) := by decide +kernel
theorem dX12_across_52 : decode cX12_across 52 = .ok (.iaload, 1) := by decide +kernel
theorem dX12_across_53 : decode cX12_across 53 = .ok (.goto 4, 3) := by decide +kernel
theorem dX12_across_56 : decode cX12_across 56 = .ok (.iconst (-1), 1) := by decide +kernel
theorem dX12_across_57 : decode cX12_across 57 = .ok (.ireturn, 1) := by decide +kernel
theorem bX12_across_0 {d : Nat} {P : Int → q_Mem → Prop} {M : q_Mem} (x1 x2 x3 : Int) (h : (∀ M1 : q_Mem, M1 = q_up M 178 0 0 → q_kU yX12_laysAllWays mX12_laysAllWays d [qR 178] M1 (fun M2 => q_kI yX12_isFace mX12_isFace d [qR 178, qL x1] M2 (fun v4 M3 => ((v4 = 0) → P (-2) M3) ∧ ((¬ (v4 = 0)) → q_kI yX12_isFace mX12_isFace d [qR 178, qL x2] M3 (fun v6 M5 => ((¬ v6 = 0) → ((0 ≤ x3) → q_kI yX12_laysCrossed mX12_laysCrossed d [qR 178, qI x1, qI x2] M5 (fun v8 M7 => ((v8 ≤ x3) → P (-1) M7) ∧ ((¬ (v8 ≤ x3)) → (0 ≤ x3 ∧ x3 < (16 : Int)) ∧ (P (M7 195 x3) M7)))) ∧ ((¬ (0 ≤ x3)) → P (-3) M5)) ∧ ((v6 = 0) → P (-2) M5))))))) : q_v mX12_across d (qPI P) M 0 [some (qR 178), some (qI x1), some (qI x2), some (qI x3)] [] := by
  refine qr_aload_n 0 1 rfl (x := 178) rfl dX12_across_0 ?_
  refine qr_iconst 1 2 rfl (q_l32 _ rfl) dX12_across_1 ?_
  refine qp_i 2 5 rfl ck12 0 (kk := 0) (by decide) (by decide +kernel) (by decide) rfl rfl wm_1326 rfl dX12_across_2 (fun M1 e_M1 => ?_)
  have h := h M1 e_M1
  refine qr_aload_n 5 6 rfl (x := 178) rfl dX12_across_5 ?_
  refine qw_U 6 9 rfl (av := []) ca_X12_laysAllWays wm_1887 wp_141 wm_1885 ck12 (by decide +kernel) rfl rfl (Nat.le_of_ble_eq_true rfl) dX12_across_6 h (fun M2 h => ?_)
  refine qr_aload_n 9 10 rfl (x := 178) rfl dX12_across_9 ?_
  refine qr_iload_n 10 11 rfl (x := x1) rfl dX12_across_10 ?_
  refine qr_i2l 11 12 rfl dX12_across_11 ?_
  refine qw_I 12 15 rfl (av := [qL x1]) ca_X12_isFace wm_1855 wp_138 wm_1853 ck12 (by decide +kernel) rfl rfl (Nat.le_of_ble_eq_true rfl) dX12_across_12 h (fun v4 M3 h => ?_)
  refine qr_if_eq 15 18 27 rfl (by decide) dX12_across_15 (fun c15 => ?_) (fun c15 => ?_)
  · have h := h.1 c15
    refine qr_bipush 27 29 rfl (q_l32 _ rfl) (by decide) dX12_across_27 ?_
    exact qe_i 29 rfl dX12_across_29 h
  · have h := h.2 c15
    refine qr_aload_n 18 19 rfl (x := 178) rfl dX12_across_18 ?_
    refine qr_iload_n 19 20 rfl (x := x2) rfl dX12_across_19 ?_
    refine qr_i2l 20 21 rfl dX12_across_20 ?_
    refine qw_I 21 24 rfl (av := [qL x2]) ca_X12_isFace wm_1855 wp_138 wm_1853 ck12 (by decide +kernel) rfl rfl (Nat.le_of_ble_eq_true rfl) dX12_across_21 h (fun v6 M5 h => ?_)
    refine qr_if_ne 24 27 30 rfl (by decide) dX12_across_24 (fun c24 => ?_) (fun c24 => ?_)
    · have h := h.1 c24
      refine qr_iload_n 30 31 rfl (x := x3) rfl dX12_across_30 ?_
      refine qr_if_ge 31 34 37 rfl (by decide) dX12_across_31 (fun c31 => ?_) (fun c31 => ?_)
      · have h := h.1 c31
        refine qr_iload_n 37 38 rfl (x := x3) rfl dX12_across_37 ?_
        refine qr_aload_n 38 39 rfl (x := 178) rfl dX12_across_38 ?_
        refine qr_iload_n 39 40 rfl (x := x1) rfl dX12_across_39 ?_
        refine qr_iload_n 40 41 rfl (x := x2) rfl dX12_across_40 ?_
        refine qw_I 41 44 rfl (av := [qI x1, qI x2]) ca_X12_laysCrossed wm_1771 wp_126 wm_1769 ck12 (by decide +kernel) rfl rfl (Nat.le_of_ble_eq_true rfl) dX12_across_41 h (fun v8 M7 h => ?_)
        refine qr_icmp_ge 44 47 56 rfl (by decide) dX12_across_44 (fun c44 => ?_) (fun c44 => ?_)
        · have h := h.1 c44
          refine qr_iconst 56 57 rfl (q_l32 _ rfl) dX12_across_56 ?_
          exact qe_i 57 rfl dX12_across_57 h
        · have h := h.2 c44
          refine qr_aload_n 47 48 rfl (x := 178) rfl dX12_across_47 ?_
          refine qr_getF 48 51 rfl ck12 30 (by decide) (b := 195) (by decide +kernel) rfl (by decide +kernel) (by decide +kernel) wm_1356 rfl dX12_across_48 ?_
          refine qr_iload_n 51 52 rfl (x := x3) rfl dX12_across_51 ?_
          have hb9 := h.1
          have h := h.2
          refine qi_ld 52 53 rfl (N := 16) (by decide +kernel) (by decide +kernel) hb9.1 hb9.2 dX12_across_52 ?_
          refine qr_goto 53 57 (by decide) dX12_across_53 ?_
          exact qe_i 57 rfl dX12_across_57 h
      · have h := h.2 c31
        refine qr_bipush 34 36 rfl (q_l32 _ rfl) (by decide) dX12_across_34 ?_
        exact qe_i 36 rfl dX12_across_36 h
    · have h := h.2 c24
      refine qr_bipush 27 29 rfl (q_l32 _ rfl) (by decide) dX12_across_27 ?_
      exact qe_i 29 rfl dX12_across_29 h
theorem dX12_lowest_0 : decode cX12_lowest 0 = .ok (.iconst 0, 1) := by decide +kernel
theorem dX12_lowest_1 : decode cX12_lowest 1 = .ok (.istore_n 1, 1) := by decide +kernel
theorem dX12_lowest_2 : decode cX12_lowest 2 = .ok (.iload_n 0, 1) := by decide +kernel
theorem dX12_lowest_3 : decode cX12_lowest 3 = .ok (.iload_n 1, 1) := by decide +kernel
theorem dX12_lowest_4 : decode cX12_lowest 4 = .ok (.invokestatic 263, 3) := by decide +kernel
theorem dX12_lowest_7 : decode cX12_lowest 7 = .ok (.ifCond .ne 9, 3) := by decide +kernel
theorem dX12_lowest_10 : decode cX12_lowest 10 = .ok (.iinc 1 1, 3) := by decide +kernel
theorem dX12_lowest_13 : decode cX12_lowest 13 = .ok (.goto (-11), 3) := by decide +kernel
theorem dX12_lowest_16 : decode cX12_lowest 16 = .ok (.iload_n 1, 1) := by decide +kernel
theorem dX12_lowest_17 : decode cX12_lowest 17 = .ok (.ireturn, 1) := by decide +kernel
theorem bX12_lowest_0 {d : Nat} {P : Int → q_Mem → Prop} {M : q_Mem} (x0 : Int) (h : q_v mX12_lowest d (qPI P) M 2 [some (qI x0), some (qI 0)] []) : q_v mX12_lowest d (qPI P) M 0 [some (qI x0), none] [] := by
  refine qr_iconst 0 1 rfl (q_l32 _ rfl) dX12_lowest_0 ?_
  refine qr_istore_n 1 2 rfl (by decide) rfl rfl dX12_lowest_1 ?_
  exact h
theorem bX12_lowest_2 {d : Nat} {P : Int → q_Mem → Prop} {M : q_Mem} (x0 x1 : Int) (h : q_kI yX12_isIn mX12_isIn d [qI x0, qI x1] M (fun v2 M1 => ((¬ v2 = 0) → P x1 M1) ∧ ((v2 = 0) → q_v mX12_lowest d (qPI P) M1 2 [some (qI x0), some (qI (q_add x1 1))] []))) : q_v mX12_lowest d (qPI P) M 2 [some (qI x0), some (qI x1)] [] := by
  refine qr_iload_n 2 3 rfl (x := x0) rfl dX12_lowest_2 ?_
  refine qr_iload_n 3 4 rfl (x := x1) rfl dX12_lowest_3 ?_
  refine qs_I 4 7 rfl (av := [qI x0, qI x1]) ca_X12_isIn wm_1694 wm_1693 rfl rfl (Nat.le_of_ble_eq_true rfl) dX12_lowest_4 h (fun v2 M1 h => ?_)
  refine qr_if_ne 7 10 16 rfl (by decide) dX12_lowest_7 (fun c7 => ?_) (fun c7 => ?_)
  · have h := h.1 c7
    refine qr_iload_n 16 17 rfl (x := x1) rfl dX12_lowest_16 ?_
    exact qe_i 17 rfl dX12_lowest_17 h
  · have h := h.2 c7
    refine qr_iinc 10 13 rfl (by decide) (x := x1) rfl rfl rfl dX12_lowest_10 ?_
    refine qr_goto 13 2 (by decide) dX12_lowest_13 ?_
    exact h
theorem dX12_wayBetween_0 : decode cX12_wayBetween 0 = .ok (.aload_n 0, 1) := by decide +kernel
theorem dX12_wayBetween_1 : decode cX12_wayBetween 1 = .ok (.getfield 63, 3) := by decide +kernel
theorem dX12_wayBetween_4 : decode cX12_wayBetween 4 = .ok (.bipush 16, 2) := by decide +kernel
theorem dX12_wayBetween_6 : decode cX12_wayBetween 6 = .ok (.aload_n 0, 1) := by decide +kernel
theorem dX12_wayBetween_7 : decode cX12_wayBetween 7 = .ok (.getfield 69, 3) := by decide +kernel
theorem dX12_wayBetween_10 : decode cX12_wayBetween 10 = .ok (.iload_n 1, 1) := by decide +kernel
theorem dX12_wayBetween_11 : decode cX12_wayBetween 11 = .ok (.iaload, 1) := by decide +kernel
theorem dX12_wayBetween_12 : decode cX12_wayBetween 12 = .ok (.imul, 1) := by decide +kernel
theorem dX12_wayBetween_13 : decode cX12_wayBetween 13 = .ok (.aload_n 0, 1) := by decide +kernel
theorem dX12_wayBetween_14 : decode cX12_wayBetween 14 = .ok (.getfield 69, 3) := by decide +kernel
theorem dX12_wayBetween_17 : decode cX12_wayBetween 17 = .ok (.iload_n 2, 1) := by decide +kernel
theorem dX12_wayBetween_18 : decode cX12_wayBetween 18 = .ok (.iaload, 1) := by decide +kernel
theorem dX12_wayBetween_19 : decode cX12_wayBetween 19 = .ok (.iadd, 1) := by decide +kernel
theorem dX12_wayBetween_20 : decode cX12_wayBetween 20 = .ok (.iaload, 1) := by decide +kernel
theorem dX12_wayBetween_21 : decode cX12_wayBetween 21 = .ok (.ireturn, 1) := by decide +kernel
theorem bX12_wayBetween_0 {d : Nat} {P : Int → q_Mem → Prop} {M : q_Mem} (x1 x2 : Int) (h : (0 ≤ x1 ∧ x1 < (16 : Int)) ∧ ((0 ≤ x2 ∧ x2 < (16 : Int)) ∧ ((0 ≤ (q_add (q_mul 16 (M 196 x1)) (M 196 x2)) ∧ (q_add (q_mul 16 (M 196 x1)) (M 196 x2)) < (256 : Int)) ∧ (P (M 194 (q_add (q_mul 16 (M 196 x1)) (M 196 x2))) M)))) : q_v mX12_wayBetween d (qPI P) M 0 [some (qR 178), some (qI x1), some (qI x2)] [] := by
  refine qr_aload_n 0 1 rfl (x := 178) rfl dX12_wayBetween_0 ?_
  refine qr_getF 1 4 rfl ck12 29 (by decide) (b := 194) (by decide +kernel) rfl (by decide +kernel) (by decide +kernel) wm_1355 rfl dX12_wayBetween_1 ?_
  refine qr_bipush 4 6 rfl (q_l32 _ rfl) (by decide) dX12_wayBetween_4 ?_
  refine qr_aload_n 6 7 rfl (x := 178) rfl dX12_wayBetween_6 ?_
  refine qr_getF 7 10 rfl ck12 31 (by decide) (b := 196) (by decide +kernel) rfl (by decide +kernel) (by decide +kernel) wm_1357 rfl dX12_wayBetween_7 ?_
  refine qr_iload_n 10 11 rfl (x := x1) rfl dX12_wayBetween_10 ?_
  have hb1 := h.1
  have h := h.2
  refine qi_ld 11 12 rfl (N := 16) (by decide +kernel) (by decide +kernel) hb1.1 hb1.2 dX12_wayBetween_11 ?_
  refine qr_imul 12 13 rfl dX12_wayBetween_12 ?_
  refine qr_aload_n 13 14 rfl (x := 178) rfl dX12_wayBetween_13 ?_
  refine qr_getF 14 17 rfl ck12 31 (by decide) (b := 196) (by decide +kernel) rfl (by decide +kernel) (by decide +kernel) wm_1357 rfl dX12_wayBetween_14 ?_
  refine qr_iload_n 17 18 rfl (x := x2) rfl dX12_wayBetween_17 ?_
  have hb2 := h.1
  have h := h.2
  refine qi_ld 18 19 rfl (N := 16) (by decide +kernel) (by decide +kernel) hb2.1 hb2.2 dX12_wayBetween_18 ?_
  refine qr_iadd 19 20 rfl dX12_wayBetween_19 ?_
  have hb3 := h.1
  have h := h.2
  refine qi_ld 20 21 rfl (N := 256) (by decide +kernel) (by decide +kernel) hb3.1 hb3.2 dX12_wayBetween_20 ?_
  exact qe_i 21 rfl dX12_wayBetween_21 h
theorem dX12_laysSets_0 : decode cX12_laysSets 0 = .ok (.aload_n 0, 1) := by decide +kernel
theorem dX12_laysSets_1 : decode cX12_laysSets 1 = .ok (.getfield 73, 3) := by decide +kernel
theorem dX12_laysSets_4 : decode cX12_laysSets 4 = .ok (.iconst 0, 1) := by decide +kernel
theorem dX12_laysSets_5 : decode cX12_laysSets 5 = .ok (.iconst 0, 1) := by decide +kernel
theorem dX12_laysSets_6 : decode cX12_laysSets 6 = .ok (.iastore, 1) := by decide +kernel
theorem dX12_laysSets_7 : decode cX12_laysSets 7 = .ok (.iconst 1, 1) := by decide +kernel
theorem dX12_laysSets_8 : decode cX12_laysSets 8 = .ok (.istore_n 1, 1) := by decide +kernel
theorem dX12_laysSets_9 : decode cX12_laysSets 9 = .ok (.iload_n 1, 1) := by decide +kernel
theorem dX12_laysSets_10 : decode cX12_laysSets 10 = .ok (.iconst 1, 1) := by decide +kernel
theorem dX12_laysSets_11 : decode cX12_laysSets 11 = .ok (.aload_n 0, 1) := by decide +kernel
theorem dX12_laysSets_12 : decode cX12_laysSets 12 = .ok (.getfield 419, 3) := by decide +kernel
theorem dX12_laysSets_15 : decode cX12_laysSets 15 = .ok (.ishl, 1) := by decide +kernel
theorem dX12_laysSets_16 : decode cX12_laysSets 16 = .ok (.if_icmp .ge 95, 3) := by decide +kernel
theorem dX12_laysSets_19 : decode cX12_laysSets 19 = .ok (.iload_n 1, 1) := by decide +kernel
theorem dX12_laysSets_20 : decode cX12_laysSets 20 = .ok (.invokestatic 422, 3) := by decide +kernel
theorem dX12_laysSets_23 : decode cX12_laysSets 23 = .ok (.istore_n 2, 1) := by decide +kernel
theorem dX12_laysSets_24 : decode cX12_laysSets 24 = .ok (.ldc_w 425, 3) := by decide +kernel
theorem dX12_laysSets_27 : decode cX12_laysSets 27 = .ok (.istore_n 3, 1) := by decide +kernel
theorem dX12_laysSets_28 : decode cX12_laysSets 28 = .ok (.iload_n 2, 1) := by decide +kernel
theorem dX12_laysSets_29 : decode cX12_laysSets 29 = .ok (.iconst 1, 1) := by decide +kernel
theorem dX12_laysSets_30 : decode cX12_laysSets 30 = .ok (.iadd, 1) := by decide +kernel
theorem dX12_laysSets_31 : decode cX12_laysSets 31 = .ok (.istore 4, 2) := by decide +kernel
theorem dX12_laysSets_33 : decode cX12_laysSets 33 = .ok (.iload 4, 2) := by decide +kernel
theorem dX12_laysSets_35 : decode cX12_laysSets 35 = .ok (.aload_n 0, 1) := by decide +kernel
theorem dX12_laysSets_36 : decode cX12_laysSets 36 = .ok (.getfield 419, 3) := by decide +kernel
theorem dX12_laysSets_39 : decode cX12_laysSets 39 = .ok (.if_icmp .ge 59, 3) := by decide +kernel
theorem dX12_laysSets_42 : decode cX12_laysSets 42 = .ok (.iload_n 1, 1) := by decide +kernel
theorem dX12_laysSets_43 : decode cX12_laysSets 43 = .ok (.iload 4, 2) := by decide +kernel
theorem dX12_laysSets_45 : decode cX12_laysSets 45 = .ok (.invokestatic 263, 3) := by decide +kernel
theorem dX12_laysSets_48 : decode cX12_laysSets 48 = .ok (.ifCond .ne 6, 3) := by decide +kernel
theorem dX12_laysSets_51 : decode cX12_laysSets 51 = .ok (.goto 41, 3) := by decide +kernel
theorem dX12_laysSets_54 : decode cX12_laysSets 54 = .ok (.aload_n 0, 1) := by decide +kernel
theorem dX12_laysSets_55 : decode cX12_laysSets 55 = .ok (.getfield 73, 3) := by decide +kernel
theorem dX12_laysSets_58 : decode cX12_laysSets 58 = .ok (.iload_n 1, 1) := by decide +kernel
theorem dX12_laysSets_59 : decode cX12_laysSets 59 = .ok (.iconst 1, 1) := by decide +kernel
theorem dX12_laysSets_60 : decode cX12_laysSets 60 = .ok (.iload_n 2, 1) := by decide +kernel
theorem dX12_laysSets_61 : decode cX12_laysSets 61 = .ok (.ishl, 1) := by decide +kernel
theorem dX12_laysSets_62 : decode cX12_laysSets 62 = .ok (.ixor, 1) := by decide +kernel
theorem dX12_laysSets_63 : decode cX12_laysSets 63 = .ok (.iconst 1, 1) := by decide +kernel
theorem dX12_laysSets_64 : decode cX12_laysSets 64 = .ok (.iload 4, 2) := by decide +kernel
theorem dX12_laysSets_66 : decode cX12_laysSets 66 = .ok (.ishl, 1) := by decide +kernel
theorem dX12_laysSets_67 : decode cX12_laysSets 67 = .ok (.ixor, 1) := by decide +kernel
theorem dX12_laysSets_68 : decode cX12_laysSets 68 = .ok (.iaload, 1) := by decide +kernel
theorem dX12_laysSets_69 : decode cX12_laysSets 69 = .ok (.aload_n 0, 1) := by decide +kernel
theorem dX12_laysSets_70 : decode cX12_laysSets 70 = .ok (.iload_n 2, 1) := by decide +kernel
theorem dX12_laysSets_71 : decode cX12_laysSets 71 = .ok (.iload 4, 2) := by decide +kernel
theorem dX12_laysSets_73 : decode cX12_laysSets 73 = .ok (.invokevirtual 426, 3) := by decide +kernel
theorem dX12_laysSets_76 : decode cX12_laysSets 76 = .ok (.iadd, 1) := by decide +kernel
theorem dX12_laysSets_77 : decode cX12_laysSets 77 = .ok (.istore 5, 2) := by decide +kernel
theorem dX12_laysSets_79 : decode cX12_laysSets 79 = .ok (.iload 5, 2) := by decide +kernel
theorem dX12_laysSets_81 : decode cX12_laysSets 81 = .ok (.iload_n 3, 1) := by decide +kernel
theorem dX12_laysSets_82 : decode cX12_laysSets 82 = .ok (.if_icmp .ge 8, 3) := by decide +kernel
theorem dX12_laysSets_85 : decode cX12_laysSets 85 = .ok (.iload 5, 2) := by decide +kernel
theorem dX12_laysSets_87 : decode cX12_laysSets 87 = .ok (.goto 4, 3) := by decide +kernel
theorem dX12_laysSets_90 : decode cX12_laysSets 90 = .ok (.iload_n 3, 1) := by decide +kernel
theorem dX12_laysSets_91 : decode cX12_laysSets 91 = .ok (.istore_n 3, 1) := by decide +kernel
theorem dX12_laysSets_92 : decode cX12_laysSets 92 = .ok (.iinc 4 1, 3) := by decide +kernel
theorem dX12_laysSets_95 : decode cX12_laysSets 95 = .ok (.goto (-62), 3) := by decide +kernel
theorem dX12_laysSets_98 : decode cX12_laysSets 98 = .ok (.aload_n 0, 1) := by decide +kernel
theorem dX12_laysSets_99 : decode cX12_laysSets 99 = .ok (.getfield 73, 3) := by decide +kernel
theorem dX12_laysSets_102 : decode cX12_laysSets 102 = .ok (.iload_n 1, 1) := by decide +kernel
theorem dX12_laysSets_103 : decode cX12_laysSets 103 = .ok (.iload_n 3, 1) := by decide +kernel
theorem dX12_laysSets_104 : decode cX12_laysSets 104 = .ok (.iastore, 1) := by decide +kernel
theorem dX12_laysSets_105 : decode cX12_laysSets 105 = .ok (.iinc 1 1, 3) := by decide +kernel
theorem dX12_laysSets_108 : decode cX12_laysSets 108 = .ok (.goto (-99), 3) := by decide +kernel
theorem dX12_laysSets_111 : decode cX12_laysSets 111 = .ok (.return_, 1) := by decide +kernel
theorem bX12_laysSets_0 {d : Nat} {P : q_Mem → Prop} {M : q_Mem} (h : (∀ M1 : q_Mem, M1 = q_up M 197 0 0 → q_v mX12_laysSets d (qPU P) M1 9 [some (qR 178), some (qI 1), none, none, none, none] [])) : q_v mX12_laysSets d (qPU P) M 0 [some (qR 178), none, none, none, none, none] [] := by
  refine qr_aload_n 0 1 rfl (x := 178) rfl dX12_laysSets_0 ?_
  refine qr_getF 1 4 rfl ck12 32 (by decide) (b := 197) (by decide +kernel) rfl (by decide +kernel) (by decide +kernel) wm_1358 rfl dX12_laysSets_1 ?_
  refine qr_iconst 4 5 rfl (q_l32 _ rfl) dX12_laysSets_4 ?_
  refine qr_iconst 5 6 rfl (q_l32 _ rfl) dX12_laysSets_5 ?_
  refine qi_st 6 7 rfl (N := 65536) (by decide +kernel) (by decide +kernel) (by decide) (by decide) dX12_laysSets_6 (fun M1 e_M1 => ?_)
  have h := h M1 e_M1
  refine qr_iconst 7 8 rfl (q_l32 _ rfl) dX12_laysSets_7 ?_
  refine qr_istore_n 8 9 rfl (by decide) rfl rfl dX12_laysSets_8 ?_
  exact h
theorem bX12_laysSets_9 {d : Nat} {P : q_Mem → Prop} {M : q_Mem} (x1 : Int) (h : (((q_shl 1 (M 178 34)) ≤ x1) → P M) ∧ ((¬ ((q_shl 1 (M 178 34)) ≤ x1)) → q_kI yX12_lowest mX12_lowest d [qI x1] M (fun v2 M1 => ∀ x4_3 : Int, x4_3 = (q_add v2 1) → q_v mX12_laysSets d (qPU P) M1 33 [some (qR 178), some (qI x1), some (qI v2), some (qI 1073741824), some (qI x4_3), none] []))) : q_v mX12_laysSets d (qPU P) M 9 [some (qR 178), some (qI x1), none, none, none, none] [] := by
  refine qr_iload_n 9 10 rfl (x := x1) rfl dX12_laysSets_9 ?_
  refine qr_iconst 10 11 rfl (q_l32 _ rfl) dX12_laysSets_10 ?_
  refine qr_aload_n 11 12 rfl (x := 178) rfl dX12_laysSets_11 ?_
  refine qg_i 12 15 rfl ck12 34 (kk := 34) (by decide) (by decide +kernel) (by decide +kernel) rfl wm_1360 rfl dX12_laysSets_12 ?_
  refine qr_ishl 15 16 rfl dX12_laysSets_15 ?_
  refine qr_icmp_ge 16 19 111 rfl (by decide) dX12_laysSets_16 (fun c16 => ?_) (fun c16 => ?_)
  · have h := h.1 c16
    exact qe_u 111 rfl dX12_laysSets_111 h
  · have h := h.2 c16
    refine qr_iload_n 19 20 rfl (x := x1) rfl dX12_laysSets_19 ?_
    refine qs_I 20 23 rfl (av := [qI x1]) ca_X12_lowest wm_1758 wm_1757 rfl rfl (Nat.le_of_ble_eq_true rfl) dX12_laysSets_20 h (fun v2 M1 h => ?_)
    refine qr_istore_n 23 24 rfl (by decide) rfl rfl dX12_laysSets_23 ?_
    refine qr_ldc_w 24 27 rfl (v := 1073741824) (q_l32 _ rfl) wm_1760 dX12_laysSets_24 ?_
    refine qr_istore_n 27 28 rfl (by decide) rfl rfl dX12_laysSets_27 ?_
    refine qr_iload_n 28 29 rfl (x := v2) rfl dX12_laysSets_28 ?_
    refine qr_iconst 29 30 rfl (q_l32 _ rfl) dX12_laysSets_29 ?_
    refine qr_iadd 30 31 rfl dX12_laysSets_30 ?_
    refine qn_i 31 (fun x4_3 e_x4_3 => ?_)
    have h := h x4_3 e_x4_3
    refine qr_istore 31 33 rfl (by decide) rfl rfl dX12_laysSets_31 ?_
    exact h
theorem bX12_laysSets_33 {d : Nat} {P : q_Mem → Prop} {M : q_Mem} (x1 x2 x3 x4 : Int) (h : (((M 178 34) ≤ x4) → (0 ≤ x1 ∧ x1 < (65536 : Int)) ∧ (∀ M2 : q_Mem, M2 = q_up M 197 x1 x3 → q_v mX12_laysSets d (qPU P) M2 9 [some (qR 178), some (qI (q_add x1 1)), none, none, none, none] [])) ∧ ((¬ ((M 178 34) ≤ x4)) → q_kI yX12_isIn mX12_isIn d [qI x1, qI x4] M (fun v4 M3 => ((¬ v4 = 0) → (0 ≤ (q_xor (q_xor x1 (q_shl 1 x2)) (q_shl 1 x4)) ∧ (q_xor (q_xor x1 (q_shl 1 x2)) (q_shl 1 x4)) < (65536 : Int)) ∧ (q_kI yX12_wayBetween mX12_wayBetween d [qR 178, qI x2, qI x4] M3 (fun v7 M6 => ∀ x5_8 : Int, x5_8 = (q_add (M3 197 (q_xor (q_xor x1 (q_shl 1 x2)) (q_shl 1 x4))) v7) → ((x3 ≤ x5_8) → q_v mX12_laysSets d (qPU P) M6 33 [some (qR 178), some (qI x1), some (qI x2), some (qI x3), some (qI (q_add x4 1)), none] []) ∧ ((¬ (x3 ≤ x5_8)) → q_v mX12_laysSets d (qPU P) M6 33 [some (qR 178), some (qI x1), some (qI x2), some (qI x5_8), some (qI (q_add x4 1)), none] [])))) ∧ ((v4 = 0) → q_v mX12_laysSets d (qPU P) M3 33 [some (qR 178), some (qI x1), some (qI x2), some (qI x3), some (qI (q_add x4 1)), none] [])))) : q_v mX12_laysSets d (qPU P) M 33 [some (qR 178), some (qI x1), some (qI x2), some (qI x3), some (qI x4), none] [] := by
  refine qr_iload 33 35 rfl (x := x4) rfl dX12_laysSets_33 ?_
  refine qr_aload_n 35 36 rfl (x := 178) rfl dX12_laysSets_35 ?_
  refine qg_i 36 39 rfl ck12 34 (kk := 34) (by decide) (by decide +kernel) (by decide +kernel) rfl wm_1360 rfl dX12_laysSets_36 ?_
  refine qr_icmp_ge 39 42 98 rfl (by decide) dX12_laysSets_39 (fun c39 => ?_) (fun c39 => ?_)
  · have h := h.1 c39
    refine qr_aload_n 98 99 rfl (x := 178) rfl dX12_laysSets_98 ?_
    refine qr_getF 99 102 rfl ck12 32 (by decide) (b := 197) (by decide +kernel) rfl (by decide +kernel) (by decide +kernel) wm_1358 rfl dX12_laysSets_99 ?_
    refine qr_iload_n 102 103 rfl (x := x1) rfl dX12_laysSets_102 ?_
    refine qr_iload_n 103 104 rfl (x := x3) rfl dX12_laysSets_103 ?_
    have hb1 := h.1
    have h := h.2
    refine qi_st 104 105 rfl (N := 65536) (by decide +kernel) (by decide +kernel) hb1.1 hb1.2 dX12_laysSets_104 (fun M2 e_M2 => ?_)
    have h := h M2 e_M2
    refine qr_iinc 105 108 rfl (by decide) (x := x1) rfl rfl rfl dX12_laysSets_105 ?_
    refine qr_goto 108 9 (by decide) dX12_laysSets_108 ?_
    exact qr_cut 9 (ls' := [some (qR 178), some (qI (q_add x1 1)), none, none, none, none]) (And.intro rfl (And.intro rfl trivial)) h
  · have h := h.2 c39
    refine qr_iload_n 42 43 rfl (x := x1) rfl dX12_laysSets_42 ?_
    refine qr_iload 43 45 rfl (x := x4) rfl dX12_laysSets_43 ?_
    refine qs_I 45 48 rfl (av := [qI x1, qI x4]) ca_X12_isIn wm_1694 wm_1693 rfl rfl (Nat.le_of_ble_eq_true rfl) dX12_laysSets_45 h (fun v4 M3 h => ?_)
    refine qr_if_ne 48 51 54 rfl (by decide) dX12_laysSets_48 (fun c48 => ?_) (fun c48 => ?_)
    · have h := h.1 c48
      refine qr_aload_n 54 55 rfl (x := 178) rfl dX12_laysSets_54 ?_
      refine qr_getF 55 58 rfl ck12 32 (by decide) (b := 197) (by decide +kernel) rfl (by decide +kernel) (by decide +kernel) wm_1358 rfl dX12_laysSets_55 ?_
      refine qr_iload_n 58 59 rfl (x := x1) rfl dX12_laysSets_58 ?_
      refine qr_iconst 59 60 rfl (q_l32 _ rfl) dX12_laysSets_59 ?_
      refine qr_iload_n 60 61 rfl (x := x2) rfl dX12_laysSets_60 ?_
      refine qr_ishl 61 62 rfl dX12_laysSets_61 ?_
      refine qr_ixor 62 63 rfl dX12_laysSets_62 ?_
      refine qr_iconst 63 64 rfl (q_l32 _ rfl) dX12_laysSets_63 ?_
      refine qr_iload 64 66 rfl (x := x4) rfl dX12_laysSets_64 ?_
      refine qr_ishl 66 67 rfl dX12_laysSets_66 ?_
      refine qr_ixor 67 68 rfl dX12_laysSets_67 ?_
      have hb5 := h.1
      have h := h.2
      refine qi_ld 68 69 rfl (N := 65536) (by decide +kernel) (by decide +kernel) hb5.1 hb5.2 dX12_laysSets_68 ?_
      refine qr_aload_n 69 70 rfl (x := 178) rfl dX12_laysSets_69 ?_
      refine qr_iload_n 70 71 rfl (x := x2) rfl dX12_laysSets_70 ?_
      refine qr_iload 71 73 rfl (x := x4) rfl dX12_laysSets_71 ?_
      refine qw_I 73 76 rfl (av := [qI x2, qI x4]) ca_X12_wayBetween wm_1763 wp_124 wm_1761 ck12 (by decide +kernel) rfl rfl (Nat.le_of_ble_eq_true rfl) dX12_laysSets_73 h (fun v7 M6 h => ?_)
      refine qr_iadd 76 77 rfl dX12_laysSets_76 ?_
      refine qn_i 77 (fun x5_8 e_x5_8 => ?_)
      have h := h x5_8 e_x5_8
      refine qr_istore 77 79 rfl (by decide) rfl rfl dX12_laysSets_77 ?_
      refine qr_iload 79 81 rfl (x := x5_8) rfl dX12_laysSets_79 ?_
      refine qr_iload_n 81 82 rfl (x := x3) rfl dX12_laysSets_81 ?_
      refine qr_icmp_ge 82 85 90 rfl (by decide) dX12_laysSets_82 (fun c82 => ?_) (fun c82 => ?_)
      · have h := h.1 c82
        refine qr_iload_n 90 91 rfl (x := x3) rfl dX12_laysSets_90 ?_
        refine qr_istore_n 91 92 rfl (by decide) rfl rfl dX12_laysSets_91 ?_
        refine qr_iinc 92 95 rfl (by decide) (x := x4) rfl rfl rfl dX12_laysSets_92 ?_
        refine qr_goto 95 33 (by decide) dX12_laysSets_95 ?_
        exact qr_cut 33 (ls' := [some (qR 178), some (qI x1), some (qI x2), some (qI x3), some (qI (q_add x4 1)), none]) (And.intro rfl (And.intro rfl (And.intro rfl (And.intro rfl (And.intro rfl trivial))))) h
      · have h := h.2 c82
        refine qr_iload 85 87 rfl (x := x5_8) rfl dX12_laysSets_85 ?_
        refine qr_goto 87 91 (by decide) dX12_laysSets_87 ?_
        refine qr_istore_n 91 92 rfl (by decide) rfl rfl dX12_laysSets_91 ?_
        refine qr_iinc 92 95 rfl (by decide) (x := x4) rfl rfl rfl dX12_laysSets_92 ?_
        refine qr_goto 95 33 (by decide) dX12_laysSets_95 ?_
        exact qr_cut 33 (ls' := [some (qR 178), some (qI x1), some (qI x2), some (qI x5_8), some (qI (q_add x4 1)), none]) (And.intro rfl (And.intro rfl (And.intro rfl (And.intro rfl (And.intro rfl trivial))))) h
    · have h := h.2 c48
      refine qr_goto 51 92 (by decide) dX12_laysSets_51 ?_
      refine qr_iinc 92 95 rfl (by decide) (x := x4) rfl rfl rfl dX12_laysSets_92 ?_
      refine qr_goto 95 33 (by decide) dX12_laysSets_95 ?_
      exact h
theorem dX12_laysPair_0 : decode cX12_laysPair 0 = .ok (.aload_n 0, 1) := by decide +kernel
theorem dX12_laysPair_1 : decode cX12_laysPair 1 = .ok (.getfield 76, 3) := by decide +kernel
theorem dX12_laysPair_4 : decode cX12_laysPair 4 = .ok (.aload_n 0, 1) := by decide +kernel
theorem dX12_laysPair_5 : decode cX12_laysPair 5 = .ok (.getfield 69, 3) := by decide +kernel
theorem dX12_laysPair_8 : decode cX12_laysPair 8 = .ok (.iload_n 1, 1) := by decide +kernel
theorem dX12_laysPair_9 : decode cX12_laysPair 9 = .ok (.iaload, 1) := by decide +kernel
theorem dX12_laysPair_10 : decode cX12_laysPair 10 = .ok (.aload_n 0, 1) := by decide +kernel
theorem dX12_laysPair_11 : decode cX12_laysPair 11 = .ok (.getfield 69, 3) := by decide +kernel
theorem dX12_laysPair_14 : decode cX12_laysPair 14 = .ok (.iload_n 2, 1) := by decide +kernel
theorem dX12_laysPair_15 : decode cX12_laysPair 15 = .ok (.iaload, 1) := by decide +kernel
theorem dX12_laysPair_16 : decode cX12_laysPair 16 = .ok (.iastore, 1) := by decide +kernel
theorem dX12_laysPair_17 : decode cX12_laysPair 17 = .ok (.aload_n 0, 1) := by decide +kernel
theorem dX12_laysPair_18 : decode cX12_laysPair 18 = .ok (.getfield 76, 3) := by decide +kernel
theorem dX12_laysPair_21 : decode cX12_laysPair 21 = .ok (.aload_n 0, 1) := by decide +kernel
theorem dX12_laysPair_22 : decode cX12_laysPair 22 = .ok (.getfield 69, 3) := by decide +kernel
theorem dX12_laysPair_25 : decode cX12_laysPair 25 = .ok (.iload_n 2, 1) := by decide +kernel
theorem dX12_laysPair_26 : decode cX12_laysPair 26 = .ok (.iaload, 1) := by decide +kernel
theorem dX12_laysPair_27 : decode cX12_laysPair 27 = .ok (.aload_n 0, 1) := by decide +kernel
theorem dX12_laysPair_28 : decode cX12_laysPair 28 = .ok (.getfield 69, 3) := by decide +kernel
theorem dX12_laysPair_31 : decode cX12_laysPair 31 = .ok (.iload_n 1, 1) := by decide +kernel
theorem dX12_laysPair_32 : decode cX12_laysPair 32 = .ok (.iaload, 1) := by decide +kernel
theorem dX12_laysPair_33 : decode cX12_laysPair 33 = .ok (.iastore, 1) := by decide +kernel
theorem dX12_laysPair_34 : decode cX12_laysPair 34 = .ok (.aload_n 0, 1) := by decide +kernel
theorem dX12_laysPair_35 : decode cX12_laysPair 35 = .ok (.aload_n 0, 1) := by decide +kernel
theorem dX12_laysPair_36 : decode cX12_laysPair 36 = .ok (.getfield 69, 3) := by decide +kernel
theorem dX12_laysPair_39 : decode cX12_laysPair 39 = .ok (.iload_n 1, 1) := by decide +kernel
theorem dX12_laysPair_40 : decode cX12_laysPair 40 = .ok (.iaload, 1) := by decide +kernel
theorem dX12_laysPair_41 : decode cX12_laysPair 41 = .ok (.aload_n 0, 1) := by decide +kernel
theorem dX12_laysPair_42 : decode cX12_laysPair 42 = .ok (.getfield 69, 3) := by decide +kernel
theorem dX12_laysPair_45 : decode cX12_laysPair 45 = .ok (.iload_n 2, 1) := by decide +kernel
theorem dX12_laysPair_46 : decode cX12_laysPair 46 = .ok (.iaload, 1) := by decide +kernel
theorem dX12_laysPair_47 : decode cX12_laysPair 47 = .ok (.invokevirtual 416, 3) := by decide +kernel
theorem dX12_laysPair_50 : decode cX12_laysPair 50 = .ok (.istore_n 3, 1) := by decide +kernel
theorem dX12_laysPair_51 : decode cX12_laysPair 51 = .ok (.iconst 0, 1) := by decide +kernel
theorem dX12_laysPair_52 : decode cX12_laysPair 52 = .ok (.istore 4, 2) := by decide +kernel
theorem dX12_laysPair_54 : decode cX12_laysPair 54 = .ok (.iload 4, 2) := by decide +kernel
theorem dX12_laysPair_56 : decode cX12_laysPair 56 = .ok (.iload_n 3, 1) := by decide +kernel
theorem dX12_laysPair_57 : decode cX12_laysPair 57 = .ok (.if_icmp .ge 27, 3) := by decide +kernel
theorem dX12_laysPair_60 : decode cX12_laysPair 60 = .ok (.aload_n 0, 1) := by decide +kernel
theorem dX12_laysPair_61 : decode cX12_laysPair 61 = .ok (.dup, 1) := by decide +kernel
theorem dX12_laysPair_62 : decode cX12_laysPair 62 = .ok (.getfield 429, 3) := by decide +kernel
theorem dX12_laysPair_65 : decode cX12_laysPair 65 = .ok (.iconst 1, 1) := by decide +kernel
theorem dX12_laysPair_66 : decode cX12_laysPair 66 = .ok (.aload_n 0, 1) := by decide +kernel
theorem dX12_laysPair_67 : decode cX12_laysPair 67 = .ok (.getfield 66, 3) := by decide +kernel
theorem dX12_laysPair_70 : decode cX12_laysPair 70 = .ok (.iload 4, 2) := by decide +kernel
theorem dX12_laysPair_72 : decode cX12_laysPair 72 = .ok (.iaload, 1) := by decide +kernel
theorem dX12_laysPair_73 : decode cX12_laysPair 73 = .ok (.ishl, 1) := by decide +kernel
theorem dX12_laysPair_74 : decode cX12_laysPair 74 = .ok (.ixor, 1) := by decide +kernel
theorem dX12_laysPair_75 : decode cX12_laysPair 75 = .ok (.putfield 429, 3) := by decide +kernel
theorem dX12_laysPair_78 : decode cX12_laysPair 78 = .ok (.iinc 4 1, 3) := by decide +kernel
theorem dX12_laysPair_81 : decode cX12_laysPair 81 = .ok (.goto (-27), 3) := by decide +kernel
theorem dX12_laysPair_84 : decode cX12_laysPair 84 = .ok (.return_, 1) := by decide +kernel
theorem bX12_laysPair_0 {d : Nat} {P : q_Mem → Prop} {M : q_Mem} (x1 x2 : Int) (h : (0 ≤ x1 ∧ x1 < (16 : Int)) ∧ ((0 ≤ x2 ∧ x2 < (16 : Int)) ∧ ((0 ≤ (M 196 x1) ∧ (M 196 x1) < (16 : Int)) ∧ (∀ M4 : q_Mem, M4 = q_up M 198 (M 196 x1) (M 196 x2) → (0 ≤ x2 ∧ x2 < (16 : Int)) ∧ ((0 ≤ x1 ∧ x1 < (16 : Int)) ∧ ((0 ≤ (M4 196 x2) ∧ (M4 196 x2) < (16 : Int)) ∧ (∀ M8 : q_Mem, M8 = q_up M4 198 (M4 196 x2) (M4 196 x1) → (0 ≤ x1 ∧ x1 < (16 : Int)) ∧ ((0 ≤ x2 ∧ x2 < (16 : Int)) ∧ (q_kI yX12_laysCrossed mX12_laysCrossed d [qR 178, qI (M8 196 x1), qI (M8 196 x2)] M8 (fun v12 M11 => q_v mX12_laysPair d (qPU P) M11 54 [some (qR 178), none, none, some (qI v12), some (qI 0)] [])))))))))) : q_v mX12_laysPair d (qPU P) M 0 [some (qR 178), some (qI x1), some (qI x2), none, none] [] := by
  refine qr_aload_n 0 1 rfl (x := 178) rfl dX12_laysPair_0 ?_
  refine qr_getF 1 4 rfl ck12 33 (by decide) (b := 198) (by decide +kernel) rfl (by decide +kernel) (by decide +kernel) wm_1359 rfl dX12_laysPair_1 ?_
  refine qr_aload_n 4 5 rfl (x := 178) rfl dX12_laysPair_4 ?_
  refine qr_getF 5 8 rfl ck12 31 (by decide) (b := 196) (by decide +kernel) rfl (by decide +kernel) (by decide +kernel) wm_1357 rfl dX12_laysPair_5 ?_
  refine qr_iload_n 8 9 rfl (x := x1) rfl dX12_laysPair_8 ?_
  have hb1 := h.1
  have h := h.2
  refine qi_ld 9 10 rfl (N := 16) (by decide +kernel) (by decide +kernel) hb1.1 hb1.2 dX12_laysPair_9 ?_
  refine qr_aload_n 10 11 rfl (x := 178) rfl dX12_laysPair_10 ?_
  refine qr_getF 11 14 rfl ck12 31 (by decide) (b := 196) (by decide +kernel) rfl (by decide +kernel) (by decide +kernel) wm_1357 rfl dX12_laysPair_11 ?_
  refine qr_iload_n 14 15 rfl (x := x2) rfl dX12_laysPair_14 ?_
  have hb2 := h.1
  have h := h.2
  refine qi_ld 15 16 rfl (N := 16) (by decide +kernel) (by decide +kernel) hb2.1 hb2.2 dX12_laysPair_15 ?_
  have hb3 := h.1
  have h := h.2
  refine qi_st 16 17 rfl (N := 16) (by decide +kernel) (by decide +kernel) hb3.1 hb3.2 dX12_laysPair_16 (fun M4 e_M4 => ?_)
  have h := h M4 e_M4
  refine qr_aload_n 17 18 rfl (x := 178) rfl dX12_laysPair_17 ?_
  refine qr_getF 18 21 rfl ck12 33 (by decide) (b := 198) (by decide +kernel) rfl (by decide +kernel) (by decide +kernel) wm_1359 rfl dX12_laysPair_18 ?_
  refine qr_aload_n 21 22 rfl (x := 178) rfl dX12_laysPair_21 ?_
  refine qr_getF 22 25 rfl ck12 31 (by decide) (b := 196) (by decide +kernel) rfl (by decide +kernel) (by decide +kernel) wm_1357 rfl dX12_laysPair_22 ?_
  refine qr_iload_n 25 26 rfl (x := x2) rfl dX12_laysPair_25 ?_
  have hb5 := h.1
  have h := h.2
  refine qi_ld 26 27 rfl (N := 16) (by decide +kernel) (by decide +kernel) hb5.1 hb5.2 dX12_laysPair_26 ?_
  refine qr_aload_n 27 28 rfl (x := 178) rfl dX12_laysPair_27 ?_
  refine qr_getF 28 31 rfl ck12 31 (by decide) (b := 196) (by decide +kernel) rfl (by decide +kernel) (by decide +kernel) wm_1357 rfl dX12_laysPair_28 ?_
  refine qr_iload_n 31 32 rfl (x := x1) rfl dX12_laysPair_31 ?_
  have hb6 := h.1
  have h := h.2
  refine qi_ld 32 33 rfl (N := 16) (by decide +kernel) (by decide +kernel) hb6.1 hb6.2 dX12_laysPair_32 ?_
  have hb7 := h.1
  have h := h.2
  refine qi_st 33 34 rfl (N := 16) (by decide +kernel) (by decide +kernel) hb7.1 hb7.2 dX12_laysPair_33 (fun M8 e_M8 => ?_)
  have h := h M8 e_M8
  refine qr_aload_n 34 35 rfl (x := 178) rfl dX12_laysPair_34 ?_
  refine qr_aload_n 35 36 rfl (x := 178) rfl dX12_laysPair_35 ?_
  refine qr_getF 36 39 rfl ck12 31 (by decide) (b := 196) (by decide +kernel) rfl (by decide +kernel) (by decide +kernel) wm_1357 rfl dX12_laysPair_36 ?_
  refine qr_iload_n 39 40 rfl (x := x1) rfl dX12_laysPair_39 ?_
  have hb9 := h.1
  have h := h.2
  refine qi_ld 40 41 rfl (N := 16) (by decide +kernel) (by decide +kernel) hb9.1 hb9.2 dX12_laysPair_40 ?_
  refine qr_aload_n 41 42 rfl (x := 178) rfl dX12_laysPair_41 ?_
  refine qr_getF 42 45 rfl ck12 31 (by decide) (b := 196) (by decide +kernel) rfl (by decide +kernel) (by decide +kernel) wm_1357 rfl dX12_laysPair_42 ?_
  refine qr_iload_n 45 46 rfl (x := x2) rfl dX12_laysPair_45 ?_
  have hb10 := h.1
  have h := h.2
  refine qi_ld 46 47 rfl (N := 16) (by decide +kernel) (by decide +kernel) hb10.1 hb10.2 dX12_laysPair_46 ?_
  refine qw_I 47 50 rfl (av := [qI (M8 196 x1), qI (M8 196 x2)]) ca_X12_laysCrossed wm_1771 wp_126 wm_1769 ck12 (by decide +kernel) rfl rfl (Nat.le_of_ble_eq_true rfl) dX12_laysPair_47 h (fun v12 M11 h => ?_)
  refine qr_istore_n 50 51 rfl (by decide) rfl rfl dX12_laysPair_50 ?_
  refine qr_iconst 51 52 rfl (q_l32 _ rfl) dX12_laysPair_51 ?_
  refine qr_istore 52 54 rfl (by decide) rfl rfl dX12_laysPair_52 ?_
  exact qr_cut 54 (ls' := [some (qR 178), none, none, some (qI v12), some (qI 0)]) (And.intro rfl (And.intro rfl (And.intro rfl trivial))) h
theorem bX12_laysPair_54 {d : Nat} {P : q_Mem → Prop} {M : q_Mem} (x3 x4 : Int) (h : ((x3 ≤ x4) → P M) ∧ ((¬ (x3 ≤ x4)) → (0 ≤ x4 ∧ x4 < (16 : Int)) ∧ ((∀ M2 : q_Mem, M2 = q_up M 178 35 (q_xor (M 178 35) (q_shl 1 (M 195 x4))) → q_v mX12_laysPair d (qPU P) M2 54 [some (qR 178), none, none, some (qI x3), some (qI (q_add x4 1))] [])))) : q_v mX12_laysPair d (qPU P) M 54 [some (qR 178), none, none, some (qI x3), some (qI x4)] [] := by
  refine qr_iload 54 56 rfl (x := x4) rfl dX12_laysPair_54 ?_
  refine qr_iload_n 56 57 rfl (x := x3) rfl dX12_laysPair_56 ?_
  refine qr_icmp_ge 57 60 84 rfl (by decide) dX12_laysPair_57 (fun c57 => ?_) (fun c57 => ?_)
  · have h := h.1 c57
    exact qe_u 84 rfl dX12_laysPair_84 h
  · have h := h.2 c57
    refine qr_aload_n 60 61 rfl (x := 178) rfl dX12_laysPair_60 ?_
    refine qr_dup 61 62 rfl rfl dX12_laysPair_61 ?_
    refine qg_i 62 65 rfl ck12 35 (kk := 35) (by decide) (by decide +kernel) (by decide +kernel) rfl wm_1361 rfl dX12_laysPair_62 ?_
    refine qr_iconst 65 66 rfl (q_l32 _ rfl) dX12_laysPair_65 ?_
    refine qr_aload_n 66 67 rfl (x := 178) rfl dX12_laysPair_66 ?_
    refine qr_getF 67 70 rfl ck12 30 (by decide) (b := 195) (by decide +kernel) rfl (by decide +kernel) (by decide +kernel) wm_1356 rfl dX12_laysPair_67 ?_
    refine qr_iload 70 72 rfl (x := x4) rfl dX12_laysPair_70 ?_
    have hb1 := h.1
    have h := h.2
    refine qi_ld 72 73 rfl (N := 16) (by decide +kernel) (by decide +kernel) hb1.1 hb1.2 dX12_laysPair_72 ?_
    refine qr_ishl 73 74 rfl dX12_laysPair_73 ?_
    refine qr_ixor 74 75 rfl dX12_laysPair_74 ?_
    refine qp_i 75 78 rfl ck12 35 (kk := 35) (by decide) (by decide +kernel) (by decide) rfl rfl wm_1361 rfl dX12_laysPair_75 (fun M2 e_M2 => ?_)
    have h := h M2 e_M2
    refine qr_iinc 78 81 rfl (by decide) (x := x4) rfl rfl rfl dX12_laysPair_78 ?_
    refine qr_goto 81 54 (by decide) dX12_laysPair_81 ?_
    exact h
theorem dX12_laysPairs_0 : decode cX12_laysPairs 0 = .ok (.aload_n 0, 1) := by decide +kernel
theorem dX12_laysPairs_1 : decode cX12_laysPairs 1 = .ok (.invokevirtual 327, 3) := by decide +kernel
theorem dX12_laysPairs_4 : decode cX12_laysPairs 4 = .ok (.ifCond .eq 5, 3) := by decide +kernel
theorem dX12_laysPairs_7 : decode cX12_laysPairs 7 = .ok (.iconst 0, 1) := by decide +kernel
theorem dX12_laysPairs_8 : decode cX12_laysPairs 8 = .ok (.ireturn, 1) := by decide +kernel
theorem dX12_laysPairs_9 : decode cX12_laysPairs 9 = .ok (.aload_n 0, 1) := by decide +kernel
theorem dX12_laysPairs_10 : decode cX12_laysPairs 10 = .ok (.invokevirtual 266, 3) := by decide +kernel
theorem dX12_laysPairs_13 : decode cX12_laysPairs 13 = .ok (.aload_n 0, 1) := by decide +kernel
theorem dX12_laysPairs_14 : decode cX12_laysPairs 14 = .ok (.iload_n 1, 1) := by decide +kernel
theorem dX12_laysPairs_15 : decode cX12_laysPairs 15 = .ok (.invokevirtual 391, 3) := by decide +kernel
theorem dX12_laysPairs_18 : decode cX12_laysPairs 18 = .ok (.aload_n 0, 1) := by decide +kernel
theorem dX12_laysPairs_19 : decode cX12_laysPairs 19 = .ok (.invokevirtual 410, 3) := by decide +kernel
theorem dX12_laysPairs_22 : decode cX12_laysPairs 22 = .ok (.aload_n 0, 1) := by decide +kernel
theorem dX12_laysPairs_23 : decode cX12_laysPairs 23 = .ok (.iconst 0, 1) := by decide +kernel
theorem dX12_laysPairs_24 : decode cX12_laysPairs 24 = .ok (.putfield 419, 3) := by decide +kernel
theorem dX12_laysPairs_27 : decode cX12_laysPairs 27 = .ok (.aload_n 0, 1) := by decide +kernel
theorem dX12_laysPairs_28 : decode cX12_laysPairs 28 = .ok (.iconst 0, 1) := by decide +kernel
theorem dX12_laysPairs_29 : decode cX12_laysPairs 29 = .ok (.putfield 429, 3) := by decide +kernel
theorem dX12_laysPairs_32 : decode cX12_laysPairs 32 = .ok (.iconst 0, 1) := by decide +kernel
theorem dX12_laysPairs_33 : decode cX12_laysPairs 33 = .ok (.istore_n 2, 1) := by decide +kernel
theorem dX12_laysPairs_34 : decode cX12_laysPairs 34 = .ok (.iload_n 2, 1) := by decide +kernel
theorem dX12_laysPairs_35 : decode cX12_laysPairs 35 = .ok (.aload_n 0, 1) := by decide +kernel
theorem dX12_laysPairs_36 : decode cX12_laysPairs 36 = .ok (.getfield 281, 3) := by decide +kernel
theorem dX12_laysPairs_39 : decode cX12_laysPairs 39 = .ok (.if_icmp .ge 48, 3) := by decide +kernel
theorem dX12_laysPairs_42 : decode cX12_laysPairs 42 = .ok (.aload_n 0, 1) := by decide +kernel
theorem dX12_laysPairs_43 : decode cX12_laysPairs 43 = .ok (.getfield 76, 3) := by decide +kernel
theorem dX12_laysPairs_46 : decode cX12_laysPairs 46 = .ok (.iload_n 2, 1) := by decide +kernel
theorem dX12_laysPairs_47 : decode cX12_laysPairs 47 = .ok (.iconst (-1), 1) := by decide +kernel
theorem dX12_laysPairs_48 : decode cX12_laysPairs 48 = .ok (.iastore, 1) := by decide +kernel
theorem dX12_laysPairs_49 : decode cX12_laysPairs 49 = .ok (.aload_n 0, 1) := by decide +kernel
theorem dX12_laysPairs_50 : decode cX12_laysPairs 50 = .ok (.getfield 57, 3) := by decide +kernel
theorem dX12_laysPairs_53 : decode cX12_laysPairs 53 = .ok (.iload_n 2, 1) := by decide +kernel
theorem dX12_laysPairs_54 : decode cX12_laysPairs 54 = .ok (.baload, 1) := by decide +kernel
theorem dX12_laysPairs_55 : decode cX12_laysPairs 55 = .ok (.ifCond .ne 6, 3) := by decide +kernel
theorem dX12_laysPairs_58 : decode cX12_laysPairs 58 = .ok (.goto 23, 3) := by decide +kernel
theorem dX12_laysPairs_61 : decode cX12_laysPairs 61 = .ok (.aload_n 0, 1) := by decide +kernel
theorem dX12_laysPairs_62 : decode cX12_laysPairs 62 = .ok (.getfield 69, 3) := by decide +kernel
theorem dX12_laysPairs_65 : decode cX12_laysPairs 65 = .ok (.aload_n 0, 1) := by decide +kernel
theorem dX12_laysPairs_66 : decode cX12_laysPairs 66 = .ok (.getfield 419, 3) := by decide +kernel
theorem dX12_laysPairs_69 : decode cX12_laysPairs 69 = .ok (.iload_n 2, 1) := by decide +kernel
theorem dX12_laysPairs_70 : decode cX12_laysPairs 70 = .ok (.iastore, 1) := by decide +kernel
theorem dX12_laysPairs_71 : decode cX12_laysPairs 71 = .ok (.aload_n 0, 1) := by decide +kernel
theorem dX12_laysPairs_72 : decode cX12_laysPairs 72 = .ok (.dup, 1) := by decide +kernel
theorem dX12_laysPairs_73 : decode cX12_laysPairs 73 = .ok (.getfield 419, 3) := by decide +kernel
theorem dX12_laysPairs_76 : decode cX12_laysPairs 76 = .ok (.iconst 1, 1) := by decide +kernel
theorem dX12_laysPairs_77 : decode cX12_laysPairs 77 = .ok (.iadd, 1) := by decide +kernel
theorem dX12_laysPairs_78 : decode cX12_laysPairs 78 = .ok (.putfield 419, 3) := by decide +kernel
theorem dX12_laysPairs_81 : decode cX12_laysPairs 81 = .ok (.iinc 2 1, 3) := by decide +kernel
theorem dX12_laysPairs_84 : decode cX12_laysPairs 84 = .ok (.goto (-50), 3) := by decide +kernel
theorem dX12_laysPairs_87 : decode cX12_laysPairs 87 = .ok (.aload_n 0, 1) := by decide +kernel
theorem dX12_laysPairs_88 : decode cX12_laysPairs 88 = .ok (.invokevirtual 432, 3) := by decide +kernel
theorem dX12_laysPairs_91 : decode cX12_laysPairs 91 = .ok (.iconst 1, 1) := by decide +kernel
theorem dX12_laysPairs_92 : decode cX12_laysPairs 92 = .ok (.aload_n 0, 1) := by decide +kernel
theorem dX12_laysPairs_93 : decode cX12_laysPairs 93 = .ok (.getfield 419, 3) := by decide +kernel
theorem dX12_laysPairs_96 : decode cX12_laysPairs 96 = .ok (.ishl, 1) := by decide +kernel
theorem dX12_laysPairs_97 : decode cX12_laysPairs 97 = .ok (.iconst 1, 1) := by decide +kernel
theorem dX12_laysPairs_98 : decode cX12_laysPairs 98 = .ok (.isub, 1) := by decide +kernel
theorem dX12_laysPairs_99 : decode cX12_laysPairs 99 = .ok (.istore_n 2, 1) := by decide +kernel
theorem dX12_laysPairs_100 : decode cX12_laysPairs 100 = .ok (.iload_n 2, 1) := by decide +kernel
theorem dX12_laysPairs_101 : decode cX12_laysPairs 101 = .ok (.ifCond .eq 81, 3) := by decide +kernel
theorem dX12_laysPairs_104 : decode cX12_laysPairs 104 = .ok (.iload_n 2, 1) := by decide +kernel
theorem dX12_laysPairs_105 : decode cX12_laysPairs 105 = .ok (.invokestatic 422, 3) := by decide +kernel
theorem dX12_laysPairs_108 : decode cX12_laysPairs 108 = .ok (.istore_n 3, 1) := by decide +kernel
theorem dX12_laysPairs_109 : decode cX12_laysPairs 109 = .ok (.iload_n 3, 1) := by decide +kernel
theorem dX12_laysPairs_110 : decode cX12_laysPairs 110 = .ok (.iconst 1, 1) := by decide +kernel
theorem dX12_laysPairs_111 : decode cX12_laysPairs 111 = .ok (.iadd, 1) := by decide +kernel
theorem dX12_laysPairs_112 : decode cX12_laysPairs 112 = .ok (.istore 4, 2) := by decide +kernel
theorem dX12_laysPairs_114 : decode cX12_laysPairs 114 = .ok (.iload_n 2, 1) := by decide +kernel
theorem dX12_laysPairs_115 : decode cX12_laysPairs 115 = .ok (.iload 4, 2) := by decide +kernel
theorem dX12_laysPairs_117 : decode cX12_laysPairs 117 = .ok (.invokestatic 263, 3) := by decide +kernel
theorem dX12_laysPairs_120 : decode cX12_laysPairs 120 = .ok (.ifCond .eq 35, 3) := by decide +kernel
theorem dX12_laysPairs_123 : decode cX12_laysPairs 123 = .ok (.aload_n 0, 1) := by decide +kernel
theorem dX12_laysPairs_124 : decode cX12_laysPairs 124 = .ok (.getfield 73, 3) := by decide +kernel
theorem dX12_laysPairs_127 : decode cX12_laysPairs 127 = .ok (.iload_n 2, 1) := by decide +kernel
theorem dX12_laysPairs_128 : decode cX12_laysPairs 128 = .ok (.iconst 1, 1) := by decide +kernel
theorem dX12_laysPairs_129 : decode cX12_laysPairs 129 = .ok (.iload_n 3, 1) := by decide +kernel
theorem dX12_laysPairs_130 : decode cX12_laysPairs 130 = .ok (.ishl, 1) := by decide +kernel
theorem dX12_laysPairs_131 : decode cX12_laysPairs 131 = .ok (.ixor, 1) := by decide +kernel
theorem dX12_laysPairs_132 : decode cX12_laysPairs 132 = .ok (.iconst 1, 1) := by decide +kernel
theorem dX12_laysPairs_133 : decode cX12_laysPairs 133 = .ok (.iload 4, 2) := by decide +kernel
theorem dX12_laysPairs_135 : decode cX12_laysPairs 135 = .ok (.ishl, 1) := by decide +kernel
theorem dX12_laysPairs_136 : decode cX12_laysPairs 136 = .ok (.ixor, 1) := by decide +kernel
theorem dX12_laysPairs_137 : decode cX12_laysPairs 137 = .ok (.iaload, 1) := by decide +kernel
theorem dX12_laysPairs_138 : decode cX12_laysPairs 138 = .ok (.aload_n 0, 1) := by decide +kernel
theorem dX12_laysPairs_139 : decode cX12_laysPairs 139 = .ok (.iload_n 3, 1) := by decide +kernel
theorem dX12_laysPairs_140 : decode cX12_laysPairs 140 = .ok (.iload 4, 2) := by decide +kernel
theorem dX12_laysPairs_142 : decode cX12_laysPairs 142 = .ok (.invokevirtual 426, 3) := by decide +kernel
theorem dX12_laysPairs_145 : decode cX12_laysPairs 145 = .ok (.iadd, 1) := by decide +kernel
theorem dX12_laysPairs_146 : decode cX12_laysPairs 146 = .ok (.aload_n 0, 1) := by decide +kernel
theorem dX12_laysPairs_147 : decode cX12_laysPairs 147 = .ok (.getfield 73, 3) := by decide +kernel
theorem dX12_laysPairs_150 : decode cX12_laysPairs 150 = .ok (.iload_n 2, 1) := by decide +kernel
theorem dX12_laysPairs_151 : decode cX12_laysPairs 151 = .ok (.iaload, 1) := by decide +kernel
theorem dX12_laysPairs_152 : decode cX12_laysPairs 152 = .ok (.if_icmp .eq 9, 3) := by decide +kernel
theorem dX12_laysPairs_155 : decode cX12_laysPairs 155 = .ok (.iinc 4 1, 3) := by decide +kernel
theorem dX12_laysPairs_158 : decode cX12_laysPairs 158 = .ok (.goto (-44), 3) := by decide +kernel
theorem dX12_laysPairs_161 : decode cX12_laysPairs 161 = .ok (.aload_n 0, 1) := by decide +kernel
theorem dX12_laysPairs_162 : decode cX12_laysPairs 162 = .ok (.iload_n 3, 1) := by decide +kernel
theorem dX12_laysPairs_163 : decode cX12_laysPairs 163 = .ok (.iload 4, 2) := by decide +kernel
theorem dX12_laysPairs_165 : decode cX12_laysPairs 165 = .ok (.invokevirtual 435, 3) := by decide +kernel
theorem dX12_laysPairs_168 : decode cX12_laysPairs 168 = .ok (.iload_n 2, 1) := by decide +kernel
theorem dX12_laysPairs_169 : decode cX12_laysPairs 169 = .ok (.iconst 1, 1) := by decide +kernel
theorem dX12_laysPairs_170 : decode cX12_laysPairs 170 = .ok (.iload_n 3, 1) := by decide +kernel
theorem dX12_laysPairs_171 : decode cX12_laysPairs 171 = .ok (.ishl, 1) := by decide +kernel
theorem dX12_laysPairs_172 : decode cX12_laysPairs 172 = .ok (.iconst 1, 1) := by decide +kernel
theorem dX12_laysPairs_173 : decode cX12_laysPairs 173 = .ok (.iload 4, 2) := by decide +kernel
theorem dX12_laysPairs_175 : decode cX12_laysPairs 175 = .ok (.ishl, 1) := by decide +kernel
theorem dX12_laysPairs_176 : decode cX12_laysPairs 176 = .ok (.ixor, 1) := by decide +kernel
theorem dX12_laysPairs_177 : decode cX12_laysPairs 177 = .ok (.ixor, 1) := by decide +kernel
theorem dX12_laysPairs_178 : decode cX12_laysPairs 178 = .ok (.istore_n 2, 1) := by decide +kernel
theorem dX12_laysPairs_179 : decode cX12_laysPairs 179 = .ok (.goto (-79), 3) := by decide +kernel
theorem dX12_laysPairs_182 : decode cX12_laysPairs 182 = .ok (.iconst 1, 1) := by decide +kernel
theorem dX12_laysPairs_183 : decode cX12_laysPairs 183 = .ok (.ireturn, 1) := by decide +kernel
theorem bX12_laysPairs_0 {d : Nat} {P : Int → q_Mem → Prop} {M : q_Mem} (x1 : Int) (h : q_kI yX12_twistsNow mX12_twistsNow d [qR 178] M (fun v2 M1 => ((v2 = 0) → q_kU yX12_laysWeights mX12_laysWeights d [qR 178] M1 (fun M3 => q_kU yX12_laysOdd mX12_laysOdd d [qR 178, qI x1] M3 (fun M4 => q_kU yX12_laysWays mX12_laysWays d [qR 178] M4 (fun M5 => (∀ M6 : q_Mem, M6 = q_up M5 178 34 0 → (∀ M7 : q_Mem, M7 = q_up M6 178 35 0 → q_v mX12_laysPairs d (qPI P) M7 34 [some (qR 178), none, some (qI 0), none, none] [])))))) ∧ ((¬ (v2 = 0)) → P 0 M1))) : q_v mX12_laysPairs d (qPI P) M 0 [some (qR 178), some (qI x1), none, none, none] [] := by
  refine qr_aload_n 0 1 rfl (x := 178) rfl dX12_laysPairs_0 ?_
  refine qw_I 1 4 rfl (av := []) ca_X12_twistsNow wm_1710 wp_116 wm_1708 ck12 (by decide +kernel) rfl rfl (Nat.le_of_ble_eq_true rfl) dX12_laysPairs_1 h (fun v2 M1 h => ?_)
  refine qr_if_eq 4 7 9 rfl (by decide) dX12_laysPairs_4 (fun c4 => ?_) (fun c4 => ?_)
  · have h := h.1 c4
    refine qr_aload_n 9 10 rfl (x := 178) rfl dX12_laysPairs_9 ?_
    refine qw_U 10 13 rfl (av := []) ca_X12_laysWeights wm_1687 wp_112 wm_1685 ck12 (by decide +kernel) rfl rfl (Nat.le_of_ble_eq_true rfl) dX12_laysPairs_10 h (fun M3 h => ?_)
    refine qr_aload_n 13 14 rfl (x := 178) rfl dX12_laysPairs_13 ?_
    refine qr_iload_n 14 15 rfl (x := x1) rfl dX12_laysPairs_14 ?_
    refine qw_U 15 18 rfl (av := [qI x1]) ca_X12_laysOdd wm_1739 wp_120 wm_1737 ck12 (by decide +kernel) rfl rfl (Nat.le_of_ble_eq_true rfl) dX12_laysPairs_15 h (fun M4 h => ?_)
    refine qr_aload_n 18 19 rfl (x := 178) rfl dX12_laysPairs_18 ?_
    refine qw_U 19 22 rfl (av := []) ca_X12_laysWays wm_1743 wp_121 wm_1741 ck12 (by decide +kernel) rfl rfl (Nat.le_of_ble_eq_true rfl) dX12_laysPairs_19 h (fun M5 h => ?_)
    refine qr_aload_n 22 23 rfl (x := 178) rfl dX12_laysPairs_22 ?_
    refine qr_iconst 23 24 rfl (q_l32 _ rfl) dX12_laysPairs_23 ?_
    refine qp_i 24 27 rfl ck12 34 (kk := 34) (by decide) (by decide +kernel) (by decide) rfl rfl wm_1360 rfl dX12_laysPairs_24 (fun M6 e_M6 => ?_)
    have h := h M6 e_M6
    refine qr_aload_n 27 28 rfl (x := 178) rfl dX12_laysPairs_27 ?_
    refine qr_iconst 28 29 rfl (q_l32 _ rfl) dX12_laysPairs_28 ?_
    refine qp_i 29 32 rfl ck12 35 (kk := 35) (by decide) (by decide +kernel) (by decide) rfl rfl wm_1361 rfl dX12_laysPairs_29 (fun M7 e_M7 => ?_)
    have h := h M7 e_M7
    refine qr_iconst 32 33 rfl (q_l32 _ rfl) dX12_laysPairs_32 ?_
    refine qr_istore_n 33 34 rfl (by decide) rfl rfl dX12_laysPairs_33 ?_
    exact qr_cut 34 (ls' := [some (qR 178), none, some (qI 0), none, none]) (And.intro rfl (And.intro rfl trivial)) h
  · have h := h.2 c4
    refine qr_iconst 7 8 rfl (q_l32 _ rfl) dX12_laysPairs_7 ?_
    exact qe_z 8 rfl (by decide) dX12_laysPairs_8 h
theorem bX12_laysPairs_34 {d : Nat} {P : Int → q_Mem → Prop} {M : q_Mem} (x2 : Int) (h : (((M 178 25) ≤ x2) → q_kU yX12_laysSets mX12_laysSets d [qR 178] M (fun M1 => ∀ x2_2 : Int, x2_2 = (q_sub (q_shl 1 (M1 178 34)) 1) → q_v mX12_laysPairs d (qPI P) M1 100 [some (qR 178), none, some (qI x2_2), none, none] [])) ∧ ((¬ ((M 178 25) ≤ x2)) → (0 ≤ x2 ∧ x2 < (16 : Int)) ∧ (∀ M4 : q_Mem, M4 = q_up M 198 x2 (-1) → (0 ≤ x2 ∧ x2 < (16 : Int)) ∧ (((¬ (M4 192 x2) = 0) → (0 ≤ (M4 178 34) ∧ (M4 178 34) < (16 : Int)) ∧ (∀ M7 : q_Mem, M7 = q_up M4 196 (M4 178 34) x2 → (∀ M8 : q_Mem, M8 = q_up M7 178 34 (q_add (M7 178 34) 1) → q_v mX12_laysPairs d (qPI P) M8 34 [some (qR 178), none, some (qI (q_add x2 1)), none, none] []))) ∧ (((M4 192 x2) = 0) → q_v mX12_laysPairs d (qPI P) M4 34 [some (qR 178), none, some (qI (q_add x2 1)), none, none] []))))) : q_v mX12_laysPairs d (qPI P) M 34 [some (qR 178), none, some (qI x2), none, none] [] := by
  refine qr_iload_n 34 35 rfl (x := x2) rfl dX12_laysPairs_34 ?_
  refine qr_aload_n 35 36 rfl (x := 178) rfl dX12_laysPairs_35 ?_
  refine qg_i 36 39 rfl ck12 25 (kk := 25) (by decide) (by decide +kernel) (by decide +kernel) rfl wm_1351 rfl dX12_laysPairs_36 ?_
  refine qr_icmp_ge 39 42 87 rfl (by decide) dX12_laysPairs_39 (fun c39 => ?_) (fun c39 => ?_)
  · have h := h.1 c39
    refine qr_aload_n 87 88 rfl (x := 178) rfl dX12_laysPairs_87 ?_
    refine qw_U 88 91 rfl (av := []) ca_X12_laysSets wm_1755 wp_123 wm_1753 ck12 (by decide +kernel) rfl rfl (Nat.le_of_ble_eq_true rfl) dX12_laysPairs_88 h (fun M1 h => ?_)
    refine qr_iconst 91 92 rfl (q_l32 _ rfl) dX12_laysPairs_91 ?_
    refine qr_aload_n 92 93 rfl (x := 178) rfl dX12_laysPairs_92 ?_
    refine qg_i 93 96 rfl ck12 34 (kk := 34) (by decide) (by decide +kernel) (by decide +kernel) rfl wm_1360 rfl dX12_laysPairs_93 ?_
    refine qr_ishl 96 97 rfl dX12_laysPairs_96 ?_
    refine qr_iconst 97 98 rfl (q_l32 _ rfl) dX12_laysPairs_97 ?_
    refine qr_isub 98 99 rfl dX12_laysPairs_98 ?_
    refine qn_i 99 (fun x2_2 e_x2_2 => ?_)
    have h := h x2_2 e_x2_2
    refine qr_istore_n 99 100 rfl (by decide) rfl rfl dX12_laysPairs_99 ?_
    exact h
  · have h := h.2 c39
    refine qr_aload_n 42 43 rfl (x := 178) rfl dX12_laysPairs_42 ?_
    refine qr_getF 43 46 rfl ck12 33 (by decide) (b := 198) (by decide +kernel) rfl (by decide +kernel) (by decide +kernel) wm_1359 rfl dX12_laysPairs_43 ?_
    refine qr_iload_n 46 47 rfl (x := x2) rfl dX12_laysPairs_46 ?_
    refine qr_iconst 47 48 rfl (q_l32 _ rfl) dX12_laysPairs_47 ?_
    have hb3 := h.1
    have h := h.2
    refine qi_st 48 49 rfl (N := 16) (by decide +kernel) (by decide +kernel) hb3.1 hb3.2 dX12_laysPairs_48 (fun M4 e_M4 => ?_)
    have h := h M4 e_M4
    refine qr_aload_n 49 50 rfl (x := 178) rfl dX12_laysPairs_49 ?_
    refine qr_getF 50 53 rfl ck12 24 (by decide) (b := 192) (by decide +kernel) rfl (by decide +kernel) (by decide +kernel) wm_1350 rfl dX12_laysPairs_50 ?_
    refine qr_iload_n 53 54 rfl (x := x2) rfl dX12_laysPairs_53 ?_
    have hb5 := h.1
    have h := h.2
    refine qz_ld 54 55 rfl (N := 16) (by decide +kernel) (by decide +kernel) hb5.1 hb5.2 dX12_laysPairs_54 ?_
    refine qr_if_ne 55 58 61 rfl (by decide) dX12_laysPairs_55 (fun c55 => ?_) (fun c55 => ?_)
    · have h := h.1 c55
      refine qr_aload_n 61 62 rfl (x := 178) rfl dX12_laysPairs_61 ?_
      refine qr_getF 62 65 rfl ck12 31 (by decide) (b := 196) (by decide +kernel) rfl (by decide +kernel) (by decide +kernel) wm_1357 rfl dX12_laysPairs_62 ?_
      refine qr_aload_n 65 66 rfl (x := 178) rfl dX12_laysPairs_65 ?_
      refine qg_i 66 69 rfl ck12 34 (kk := 34) (by decide) (by decide +kernel) (by decide +kernel) rfl wm_1360 rfl dX12_laysPairs_66 ?_
      refine qr_iload_n 69 70 rfl (x := x2) rfl dX12_laysPairs_69 ?_
      have hb6 := h.1
      have h := h.2
      refine qi_st 70 71 rfl (N := 16) (by decide +kernel) (by decide +kernel) hb6.1 hb6.2 dX12_laysPairs_70 (fun M7 e_M7 => ?_)
      have h := h M7 e_M7
      refine qr_aload_n 71 72 rfl (x := 178) rfl dX12_laysPairs_71 ?_
      refine qr_dup 72 73 rfl rfl dX12_laysPairs_72 ?_
      refine qg_i 73 76 rfl ck12 34 (kk := 34) (by decide) (by decide +kernel) (by decide +kernel) rfl wm_1360 rfl dX12_laysPairs_73 ?_
      refine qr_iconst 76 77 rfl (q_l32 _ rfl) dX12_laysPairs_76 ?_
      refine qr_iadd 77 78 rfl dX12_laysPairs_77 ?_
      refine qp_i 78 81 rfl ck12 34 (kk := 34) (by decide) (by decide +kernel) (by decide) rfl rfl wm_1360 rfl dX12_laysPairs_78 (fun M8 e_M8 => ?_)
      have h := h M8 e_M8
      refine qr_iinc 81 84 rfl (by decide) (x := x2) rfl rfl rfl dX12_laysPairs_81 ?_
      refine qr_goto 84 34 (by decide) dX12_laysPairs_84 ?_
      exact h
    · have h := h.2 c55
      refine qr_goto 58 81 (by decide) dX12_laysPairs_58 ?_
      refine qr_iinc 81 84 rfl (by decide) (x := x2) rfl rfl rfl dX12_laysPairs_81 ?_
      refine qr_goto 84 34 (by decide) dX12_laysPairs_84 ?_
      exact h
theorem bX12_laysPairs_100 {d : Nat} {P : Int → q_Mem → Prop} {M : q_Mem} (x2 : Int) (h : ((x2 = 0) → P 1 M) ∧ ((¬ (x2 = 0)) → q_kI yX12_lowest mX12_lowest d [qI x2] M (fun v2 M1 => ∀ x4_3 : Int, x4_3 = (q_add v2 1) → q_v mX12_laysPairs d (qPI P) M1 114 [some (qR 178), none, some (qI x2), some (qI v2), some (qI x4_3)] []))) : q_v mX12_laysPairs d (qPI P) M 100 [some (qR 178), none, some (qI x2), none, none] [] := by
  refine qr_iload_n 100 101 rfl (x := x2) rfl dX12_laysPairs_100 ?_
  refine qr_if_eq 101 104 182 rfl (by decide) dX12_laysPairs_101 (fun c101 => ?_) (fun c101 => ?_)
  · have h := h.1 c101
    refine qr_iconst 182 183 rfl (q_l32 _ rfl) dX12_laysPairs_182 ?_
    exact qe_z 183 rfl (by decide) dX12_laysPairs_183 h
  · have h := h.2 c101
    refine qr_iload_n 104 105 rfl (x := x2) rfl dX12_laysPairs_104 ?_
    refine qs_I 105 108 rfl (av := [qI x2]) ca_X12_lowest wm_1758 wm_1757 rfl rfl (Nat.le_of_ble_eq_true rfl) dX12_laysPairs_105 h (fun v2 M1 h => ?_)
    refine qr_istore_n 108 109 rfl (by decide) rfl rfl dX12_laysPairs_108 ?_
    refine qr_iload_n 109 110 rfl (x := v2) rfl dX12_laysPairs_109 ?_
    refine qr_iconst 110 111 rfl (q_l32 _ rfl) dX12_laysPairs_110 ?_
    refine qr_iadd 111 112 rfl dX12_laysPairs_111 ?_
    refine qn_i 112 (fun x4_3 e_x4_3 => ?_)
    have h := h x4_3 e_x4_3
    refine qr_istore 112 114 rfl (by decide) rfl rfl dX12_laysPairs_112 ?_
    exact h
theorem bX12_laysPairs_114 {d : Nat} {P : Int → q_Mem → Prop} {M : q_Mem} (x2 x3 x4 : Int) (h : q_kI yX12_isIn mX12_isIn d [qI x2, qI x4] M (fun v2 M1 => ((v2 = 0) → q_v mX12_laysPairs d (qPI P) M1 114 [some (qR 178), none, some (qI x2), some (qI x3), some (qI (q_add x4 1))] []) ∧ ((¬ (v2 = 0)) → (0 ≤ (q_xor (q_xor x2 (q_shl 1 x3)) (q_shl 1 x4)) ∧ (q_xor (q_xor x2 (q_shl 1 x3)) (q_shl 1 x4)) < (65536 : Int)) ∧ (q_kI yX12_wayBetween mX12_wayBetween d [qR 178, qI x3, qI x4] M1 (fun v5 M4 => (0 ≤ x2 ∧ x2 < (65536 : Int)) ∧ ((((q_add (M1 197 (q_xor (q_xor x2 (q_shl 1 x3)) (q_shl 1 x4))) v5) = (M4 197 x2)) → q_kU yX12_laysPair mX12_laysPair d [qR 178, qI x3, qI x4] M4 (fun M7 => ∀ x2_8 : Int, x2_8 = (q_xor x2 (q_xor (q_shl 1 x3) (q_shl 1 x4))) → q_v mX12_laysPairs d (qPI P) M7 100 [some (qR 178), none, some (qI x2_8), none, none] [])) ∧ ((¬ ((q_add (M1 197 (q_xor (q_xor x2 (q_shl 1 x3)) (q_shl 1 x4))) v5) = (M4 197 x2))) → q_v mX12_laysPairs d (qPI P) M4 114 [some (qR 178), none, some (qI x2), some (qI x3), some (qI (q_add x4 1))] []))))))) : q_v mX12_laysPairs d (qPI P) M 114 [some (qR 178), none, some (qI x2), some (qI x3), some (qI x4)] [] := by
  refine qr_iload_n 114 115 rfl (x := x2) rfl dX12_laysPairs_114 ?_
  refine qr_iload 115 117 rfl (x := x4) rfl dX12_laysPairs_115 ?_
  refine qs_I 117 120 rfl (av := [qI x2, qI x4]) ca_X12_isIn wm_1694 wm_1693 rfl rfl (Nat.le_of_ble_eq_true rfl) dX12_laysPairs_117 h (fun v2 M1 h => ?_)
  refine qr_if_eq 120 123 155 rfl (by decide) dX12_laysPairs_120 (fun c120 => ?_) (fun c120 => ?_)
  · have h := h.1 c120
    refine qr_iinc 155 158 rfl (by decide) (x := x4) rfl rfl rfl dX12_laysPairs_155 ?_
    refine qr_goto 158 114 (by decide) dX12_laysPairs_158 ?_
    exact h
  · have h := h.2 c120
    refine qr_aload_n 123 124 rfl (x := 178) rfl dX12_laysPairs_123 ?_
    refine qr_getF 124 127 rfl ck12 32 (by decide) (b := 197) (by decide +kernel) rfl (by decide +kernel) (by decide +kernel) wm_1358 rfl dX12_laysPairs_124 ?_
    refine qr_iload_n 127 128 rfl (x := x2) rfl dX12_laysPairs_127 ?_
    refine qr_iconst 128 129 rfl (q_l32 _ rfl) dX12_laysPairs_128 ?_
    refine qr_iload_n 129 130 rfl (x := x3) rfl dX12_laysPairs_129 ?_
    refine qr_ishl 130 131 rfl dX12_laysPairs_130 ?_
    refine qr_ixor 131 132 rfl dX12_laysPairs_131 ?_
    refine qr_iconst 132 133 rfl (q_l32 _ rfl) dX12_laysPairs_132 ?_
    refine qr_iload 133 135 rfl (x := x4) rfl dX12_laysPairs_133 ?_
    refine qr_ishl 135 136 rfl dX12_laysPairs_135 ?_
    refine qr_ixor 136 137 rfl dX12_laysPairs_136 ?_
    have hb3 := h.1
    have h := h.2
    refine qi_ld 137 138 rfl (N := 65536) (by decide +kernel) (by decide +kernel) hb3.1 hb3.2 dX12_laysPairs_137 ?_
    refine qr_aload_n 138 139 rfl (x := 178) rfl dX12_laysPairs_138 ?_
    refine qr_iload_n 139 140 rfl (x := x3) rfl dX12_laysPairs_139 ?_
    refine qr_iload 140 142 rfl (x := x4) rfl dX12_laysPairs_140 ?_
    refine qw_I 142 145 rfl (av := [qI x3, qI x4]) ca_X12_wayBetween wm_1763 wp_124 wm_1761 ck12 (by decide +kernel) rfl rfl (Nat.le_of_ble_eq_true rfl) dX12_laysPairs_142 h (fun v5 M4 h => ?_)
    refine qr_iadd 145 146 rfl dX12_laysPairs_145 ?_
    refine qr_aload_n 146 147 rfl (x := 178) rfl dX12_laysPairs_146 ?_
    refine qr_getF 147 150 rfl ck12 32 (by decide) (b := 197) (by decide +kernel) rfl (by decide +kernel) (by decide +kernel) wm_1358 rfl dX12_laysPairs_147 ?_
    refine qr_iload_n 150 151 rfl (x := x2) rfl dX12_laysPairs_150 ?_
    have hb6 := h.1
    have h := h.2
    refine qi_ld 151 152 rfl (N := 65536) (by decide +kernel) (by decide +kernel) hb6.1 hb6.2 dX12_laysPairs_151 ?_
    refine qr_icmp_eq 152 155 161 rfl (by decide) dX12_laysPairs_152 (fun c152 => ?_) (fun c152 => ?_)
    · have h := h.1 c152
      refine qr_aload_n 161 162 rfl (x := 178) rfl dX12_laysPairs_161 ?_
      refine qr_iload_n 162 163 rfl (x := x3) rfl dX12_laysPairs_162 ?_
      refine qr_iload 163 165 rfl (x := x4) rfl dX12_laysPairs_163 ?_
      refine qw_U 165 168 rfl (av := [qI x3, qI x4]) ca_X12_laysPair wm_1767 wp_125 wm_1765 ck12 (by decide +kernel) rfl rfl (Nat.le_of_ble_eq_true rfl) dX12_laysPairs_165 h (fun M7 h => ?_)
      refine qr_iload_n 168 169 rfl (x := x2) rfl dX12_laysPairs_168 ?_
      refine qr_iconst 169 170 rfl (q_l32 _ rfl) dX12_laysPairs_169 ?_
      refine qr_iload_n 170 171 rfl (x := x3) rfl dX12_laysPairs_170 ?_
      refine qr_ishl 171 172 rfl dX12_laysPairs_171 ?_
      refine qr_iconst 172 173 rfl (q_l32 _ rfl) dX12_laysPairs_172 ?_
      refine qr_iload 173 175 rfl (x := x4) rfl dX12_laysPairs_173 ?_
      refine qr_ishl 175 176 rfl dX12_laysPairs_175 ?_
      refine qr_ixor 176 177 rfl dX12_laysPairs_176 ?_
      refine qr_ixor 177 178 rfl dX12_laysPairs_177 ?_
      refine qn_i 178 (fun x2_8 e_x2_8 => ?_)
      have h := h x2_8 e_x2_8
      refine qr_istore_n 178 179 rfl (by decide) rfl rfl dX12_laysPairs_178 ?_
      refine qr_goto 179 100 (by decide) dX12_laysPairs_179 ?_
      exact qr_cut 100 (ls' := [some (qR 178), none, some (qI x2_8), none, none]) (And.intro rfl (And.intro rfl trivial)) h
    · have h := h.2 c152
      refine qr_iinc 155 158 rfl (by decide) (x := x4) rfl rfl rfl dX12_laysPairs_155 ?_
      refine qr_goto 158 114 (by decide) dX12_laysPairs_158 ?_
      exact h
theorem dX12_goodLinks_0 : decode cX12_goodLinks 0 = .ok (.iconst 0, 1) := by decide +kernel
theorem dX12_goodLinks_1 : decode cX12_goodLinks 1 = .ok (.istore_n 2, 1) := by decide +kernel
theorem dX12_goodLinks_2 : decode cX12_goodLinks 2 = .ok (.iconst 0, 1) := by decide +kernel
theorem dX12_goodLinks_3 : decode cX12_goodLinks 3 = .ok (.istore_n 3, 1) := by decide +kernel
theorem dX12_goodLinks_4 : decode cX12_goodLinks 4 = .ok (.iload_n 3, 1) := by decide +kernel
theorem dX12_goodLinks_5 : decode cX12_goodLinks 5 = .ok (.aload_n 0, 1) := by decide +kernel
theorem dX12_goodLinks_6 : decode cX12_goodLinks 6 = .ok (.getfield 13, 3) := by decide +kernel
theorem dX12_goodLinks_9 : decode cX12_goodLinks 9 = .ok (.bipush 52, 2) := by decide +kernel
theorem dX12_goodLinks_11 : decode cX12_goodLinks 11 = .ok (.iaload, 1) := by decide +kernel
theorem dX12_goodLinks_12 : decode cX12_goodLinks 12 = .ok (.if_icmp .ge 30, 3) := by decide +kernel
theorem dX12_goodLinks_15 : decode cX12_goodLinks 15 = .ok (.iload_n 2, 1) := by decide +kernel
theorem dX12_goodLinks_16 : decode cX12_goodLinks 16 = .ok (.iload_n 1, 1) := by decide +kernel
theorem dX12_goodLinks_17 : decode cX12_goodLinks 17 = .ok (.aload_n 0, 1) := by decide +kernel
theorem dX12_goodLinks_18 : decode cX12_goodLinks 18 = .ok (.getfield 42, 3) := by decide +kernel
theorem dX12_goodLinks_21 : decode cX12_goodLinks 21 = .ok (.iload_n 3, 1) := by decide +kernel
theorem dX12_goodLinks_22 : decode cX12_goodLinks 22 = .ok (.iaload, 1) := by decide +kernel
theorem dX12_goodLinks_23 : decode cX12_goodLinks 23 = .ok (.imul, 1) := by decide +kernel
theorem dX12_goodLinks_24 : decode cX12_goodLinks 24 = .ok (.ifCond .le 9, 3) := by decide +kernel
theorem dX12_goodLinks_27 : decode cX12_goodLinks 27 = .ok (.iconst 1, 1) := by decide +kernel
theorem dX12_goodLinks_28 : decode cX12_goodLinks 28 = .ok (.iload_n 3, 1) := by decide +kernel
theorem dX12_goodLinks_29 : decode cX12_goodLinks 29 = .ok (.ishl, 1) := by decide +kernel
theorem dX12_goodLinks_30 : decode cX12_goodLinks 30 = .ok (.goto 4, 3) := by decide +kernel
theorem dX12_goodLinks_33 : decode cX12_goodLinks 33 = .ok (.iconst 0, 1) := by decide +kernel
theorem dX12_goodLinks_34 : decode cX12_goodLinks 34 = .ok (.ior, 1) := by decide +kernel
theorem dX12_goodLinks_35 : decode cX12_goodLinks 35 = .ok (.istore_n 2, 1) := by decide +kernel
theorem dX12_goodLinks_36 : decode cX12_goodLinks 36 = .ok (.iinc 3 1, 3) := by decide +kernel
theorem dX12_goodLinks_39 : decode cX12_goodLinks 39 = .ok (.goto (-35), 3) := by decide +kernel
theorem dX12_goodLinks_42 : decode cX12_goodLinks 42 = .ok (.iload_n 2, 1) := by decide +kernel
theorem dX12_goodLinks_43 : decode cX12_goodLinks 43 = .ok (.ireturn, 1) := by decide +kernel
theorem bX12_goodLinks_0 {d : Nat} {P : Int → q_Mem → Prop} {M : q_Mem} (x1 : Int) (h : q_v mX12_goodLinks d (qPI P) M 4 [some (qR 178), some (qI x1), some (qI 0), some (qI 0)] []) : q_v mX12_goodLinks d (qPI P) M 0 [some (qR 178), some (qI x1), none, none] [] := by
  refine qr_iconst 0 1 rfl (q_l32 _ rfl) dX12_goodLinks_0 ?_
  refine qr_istore_n 1 2 rfl (by decide) rfl rfl dX12_goodLinks_1 ?_
  refine qr_iconst 2 3 rfl (q_l32 _ rfl) dX12_goodLinks_2 ?_
  refine qr_istore_n 3 4 rfl (by decide) rfl rfl dX12_goodLinks_3 ?_
  exact h
theorem bX12_goodLinks_4 {d : Nat} {P : Int → q_Mem → Prop} {M : q_Mem} (x1 x2 x3 : Int) (h : ((((M 179 52) ≤ x3) → P x2 M) ∧ ((¬ ((M 179 52) ≤ x3)) → (0 ≤ x3 ∧ x3 < (16 : Int)) ∧ ((((q_mul x1 (M 187 x3)) ≤ 0) → ∀ x2_2 : Int, x2_2 = (q_or x2 0) → q_v mX12_goodLinks d (qPI P) M 4 [some (qR 178), some (qI x1), some (qI x2_2), some (qI (q_add x3 1))] []) ∧ ((¬ ((q_mul x1 (M 187 x3)) ≤ 0)) → ∀ x2_3 : Int, x2_3 = (q_or x2 (q_shl 1 x3)) → q_v mX12_goodLinks d (qPI P) M 4 [some (qR 178), some (qI x1), some (qI x2_3), some (qI (q_add x3 1))] []))))) : q_v mX12_goodLinks d (qPI P) M 4 [some (qR 178), some (qI x1), some (qI x2), some (qI x3)] [] := by
  refine qr_iload_n 4 5 rfl (x := x3) rfl dX12_goodLinks_4 ?_
  refine qr_aload_n 5 6 rfl (x := 178) rfl dX12_goodLinks_5 ?_
  refine qr_getF 6 9 rfl ck12 1 (by decide) (b := 179) (by decide +kernel) rfl (by decide +kernel) (by decide +kernel) wm_1327 rfl dX12_goodLinks_6 ?_
  refine qr_bipush 9 11 rfl (q_l32 _ rfl) (by decide) dX12_goodLinks_9 ?_
  refine qi_ld 11 12 rfl (N := 4512) (by decide +kernel) (by decide +kernel) (by decide) (by decide) dX12_goodLinks_11 ?_
  refine qr_icmp_ge 12 15 42 rfl (by decide) dX12_goodLinks_12 (fun c12 => ?_) (fun c12 => ?_)
  · have h := h.1 c12
    refine qr_iload_n 42 43 rfl (x := x2) rfl dX12_goodLinks_42 ?_
    exact qe_i 43 rfl dX12_goodLinks_43 h
  · have h := h.2 c12
    refine qr_iload_n 15 16 rfl (x := x2) rfl dX12_goodLinks_15 ?_
    refine qr_iload_n 16 17 rfl (x := x1) rfl dX12_goodLinks_16 ?_
    refine qr_aload_n 17 18 rfl (x := 178) rfl dX12_goodLinks_17 ?_
    refine qr_getF 18 21 rfl ck12 19 (by decide) (b := 187) (by decide +kernel) rfl (by decide +kernel) (by decide +kernel) wm_1345 rfl dX12_goodLinks_18 ?_
    refine qr_iload_n 21 22 rfl (x := x3) rfl dX12_goodLinks_21 ?_
    have hb1 := h.1
    have h := h.2
    refine qi_ld 22 23 rfl (N := 16) (by decide +kernel) (by decide +kernel) hb1.1 hb1.2 dX12_goodLinks_22 ?_
    refine qr_imul 23 24 rfl dX12_goodLinks_23 ?_
    refine qr_if_le 24 27 33 rfl (by decide) dX12_goodLinks_24 (fun c24 => ?_) (fun c24 => ?_)
    · have h := h.1 c24
      refine qr_iconst 33 34 rfl (q_l32 _ rfl) dX12_goodLinks_33 ?_
      refine qr_ior 34 35 rfl dX12_goodLinks_34 ?_
      refine qn_i 35 (fun x2_2 e_x2_2 => ?_)
      have h := h x2_2 e_x2_2
      refine qr_istore_n 35 36 rfl (by decide) rfl rfl dX12_goodLinks_35 ?_
      refine qr_iinc 36 39 rfl (by decide) (x := x3) rfl rfl rfl dX12_goodLinks_36 ?_
      refine qr_goto 39 4 (by decide) dX12_goodLinks_39 ?_
      exact h
    · have h := h.2 c24
      refine qr_iconst 27 28 rfl (q_l32 _ rfl) dX12_goodLinks_27 ?_
      refine qr_iload_n 28 29 rfl (x := x3) rfl dX12_goodLinks_28 ?_
      refine qr_ishl 29 30 rfl dX12_goodLinks_29 ?_
      refine qr_goto 30 34 (by decide) dX12_goodLinks_30 ?_
      refine qr_ior 34 35 rfl dX12_goodLinks_34 ?_
      refine qn_i 35 (fun x2_3 e_x2_3 => ?_)
      have h := h x2_3 e_x2_3
      refine qr_istore_n 35 36 rfl (by decide) rfl rfl dX12_goodLinks_35 ?_
      refine qr_iinc 36 39 rfl (by decide) (x := x3) rfl rfl rfl dX12_goodLinks_36 ?_
      refine qr_goto 39 4 (by decide) dX12_goodLinks_39 ?_
      exact h
theorem dX12_cutOf_0 : decode cX12_cutOf 0 = .ok (.aload_n 0, 1) := by decide +kernel
theorem dX12_cutOf_1 : decode cX12_cutOf 1 = .ok (.iload_n 1, 1) := by decide +kernel
theorem dX12_cutOf_2 : decode cX12_cutOf 2 = .ok (.invokevirtual 438, 3) := by decide +kernel
theorem dX12_cutOf_5 : decode cX12_cutOf 5 = .ok (.aload_n 0, 1) := by decide +kernel
theorem dX12_cutOf_6 : decode cX12_cutOf 6 = .ok (.getfield 429, 3) := by decide +kernel
theorem dX12_cutOf_9 : decode cX12_cutOf 9 = .ok (.ixor, 1) := by decide +kernel
theorem dX12_cutOf_10 : decode cX12_cutOf 10 = .ok (.ireturn, 1) := by decide +kernel
theorem bX12_cutOf_0 {d : Nat} {P : Int → q_Mem → Prop} {M : q_Mem} (x1 : Int) (h : q_kI yX12_goodLinks mX12_goodLinks d [qR 178, qI x1] M (fun v2 M1 => P (q_xor v2 (M1 178 35)) M1)) : q_v mX12_cutOf d (qPI P) M 0 [some (qR 178), some (qI x1)] [] := by
  refine qr_aload_n 0 1 rfl (x := 178) rfl dX12_cutOf_0 ?_
  refine qr_iload_n 1 2 rfl (x := x1) rfl dX12_cutOf_1 ?_
  refine qw_I 2 5 rfl (av := [qI x1]) ca_X12_goodLinks wm_1783 wp_129 wm_1781 ck12 (by decide +kernel) rfl rfl (Nat.le_of_ble_eq_true rfl) dX12_cutOf_2 h (fun v2 M1 h => ?_)
  refine qr_aload_n 5 6 rfl (x := 178) rfl dX12_cutOf_5 ?_
  refine qg_i 6 9 rfl ck12 35 (kk := 35) (by decide) (by decide +kernel) (by decide +kernel) rfl wm_1361 rfl dX12_cutOf_6 ?_
  refine qr_ixor 9 10 rfl dX12_cutOf_9 ?_
  exact qe_i 10 rfl dX12_cutOf_10 h
theorem dX12_weightsOf_0 : decode cX12_weightsOf 0 = .ok (.iconst 0, 1) := by decide +kernel
theorem dX12_weightsOf_1 : decode cX12_weightsOf 1 = .ok (.istore_n 2, 1) := by decide +kernel
theorem dX12_weightsOf_2 : decode cX12_weightsOf 2 = .ok (.iconst 0, 1) := by decide +kernel
theorem dX12_weightsOf_3 : decode cX12_weightsOf 3 = .ok (.istore_n 3, 1) := by decide +kernel
theorem dX12_weightsOf_4 : decode cX12_weightsOf 4 = .ok (.iload_n 3, 1) := by decide +kernel
theorem dX12_weightsOf_5 : decode cX12_weightsOf 5 = .ok (.aload_n 0, 1) := by decide +kernel
theorem dX12_weightsOf_6 : decode cX12_weightsOf 6 = .ok (.getfield 13, 3) := by decide +kernel
theorem dX12_weightsOf_9 : decode cX12_weightsOf 9 = .ok (.bipush 52, 2) := by decide +kernel
theorem dX12_weightsOf_11 : decode cX12_weightsOf 11 = .ok (.iaload, 1) := by decide +kernel
theorem dX12_weightsOf_12 : decode cX12_weightsOf 12 = .ok (.if_icmp .ge 30, 3) := by decide +kernel
theorem dX12_weightsOf_15 : decode cX12_weightsOf 15 = .ok (.iload_n 2, 1) := by decide +kernel
theorem dX12_weightsOf_16 : decode cX12_weightsOf 16 = .ok (.iload_n 1, 1) := by decide +kernel
theorem dX12_weightsOf_17 : decode cX12_weightsOf 17 = .ok (.iload_n 3, 1) := by decide +kernel
theorem dX12_weightsOf_18 : decode cX12_weightsOf 18 = .ok (.invokestatic 263, 3) := by decide +kernel
theorem dX12_weightsOf_21 : decode cX12_weightsOf 21 = .ok (.ifCond .eq 12, 3) := by decide +kernel
theorem dX12_weightsOf_24 : decode cX12_weightsOf 24 = .ok (.aload_n 0, 1) := by decide +kernel
theorem dX12_weightsOf_25 : decode cX12_weightsOf 25 = .ok (.getfield 42, 3) := by decide +kernel
theorem dX12_weightsOf_28 : decode cX12_weightsOf 28 = .ok (.iload_n 3, 1) := by decide +kernel
theorem dX12_weightsOf_29 : decode cX12_weightsOf 29 = .ok (.iaload, 1) := by decide +kernel
theorem dX12_weightsOf_30 : decode cX12_weightsOf 30 = .ok (.goto 4, 3) := by decide +kernel
theorem dX12_weightsOf_33 : decode cX12_weightsOf 33 = .ok (.iconst 0, 1) := by decide +kernel
theorem dX12_weightsOf_34 : decode cX12_weightsOf 34 = .ok (.iadd, 1) := by decide +kernel
theorem dX12_weightsOf_35 : decode cX12_weightsOf 35 = .ok (.istore_n 2, 1) := by decide +kernel
theorem dX12_weightsOf_36 : decode cX12_weightsOf 36 = .ok (.iinc 3 1, 3) := by decide +kernel
theorem dX12_weightsOf_39 : decode cX12_weightsOf 39 = .ok (.goto (-35), 3) := by decide +kernel
theorem dX12_weightsOf_42 : decode cX12_weightsOf 42 = .ok (.iload_n 2, 1) := by decide +kernel
theorem dX12_weightsOf_43 : decode cX12_weightsOf 43 = .ok (.ireturn, 1) := by decide +kernel
theorem bX12_weightsOf_0 {d : Nat} {P : Int → q_Mem → Prop} {M : q_Mem} (x1 : Int) (h : q_v mX12_weightsOf d (qPI P) M 4 [some (qR 178), some (qI x1), some (qI 0), some (qI 0)] []) : q_v mX12_weightsOf d (qPI P) M 0 [some (qR 178), some (qI x1), none, none] [] := by
  refine qr_iconst 0 1 rfl (q_l32 _ rfl) dX12_weightsOf_0 ?_
  refine qr_istore_n 1 2 rfl (by decide) rfl rfl dX12_weightsOf_1 ?_
  refine qr_iconst 2 3 rfl (q_l32 _ rfl) dX12_weightsOf_2 ?_
  refine qr_istore_n 3 4 rfl (by decide) rfl rfl dX12_weightsOf_3 ?_
  exact h
theorem bX12_weightsOf_4 {d : Nat} {P : Int → q_Mem → Prop} {M : q_Mem} (x1 x2 x3 : Int) (h : ((((M 179 52) ≤ x3) → P x2 M) ∧ ((¬ ((M 179 52) ≤ x3)) → q_kI yX12_isIn mX12_isIn d [qI x1, qI x3] M (fun v2 M1 => ((v2 = 0) → ∀ x2_3 : Int, x2_3 = (q_add x2 0) → q_v mX12_weightsOf d (qPI P) M1 4 [some (qR 178), some (qI x1), some (qI x2_3), some (qI (q_add x3 1))] []) ∧ ((¬ (v2 = 0)) → (0 ≤ x3 ∧ x3 < (16 : Int)) ∧ (∀ x2_5 : Int, x2_5 = (q_add x2 (M1 187 x3)) → q_v mX12_weightsOf d (qPI P) M1 4 [some (qR 178), some (qI x1), some (qI x2_5), some (qI (q_add x3 1))] [])))))) : q_v mX12_weightsOf d (qPI P) M 4 [some (qR 178), some (qI x1), some (qI x2), some (qI x3)] [] := by
  refine qr_iload_n 4 5 rfl (x := x3) rfl dX12_weightsOf_4 ?_
  refine qr_aload_n 5 6 rfl (x := 178) rfl dX12_weightsOf_5 ?_
  refine qr_getF 6 9 rfl ck12 1 (by decide) (b := 179) (by decide +kernel) rfl (by decide +kernel) (by decide +kernel) wm_1327 rfl dX12_weightsOf_6 ?_
  refine qr_bipush 9 11 rfl (q_l32 _ rfl) (by decide) dX12_weightsOf_9 ?_
  refine qi_ld 11 12 rfl (N := 4512) (by decide +kernel) (by decide +kernel) (by decide) (by decide) dX12_weightsOf_11 ?_
  refine qr_icmp_ge 12 15 42 rfl (by decide) dX12_weightsOf_12 (fun c12 => ?_) (fun c12 => ?_)
  · have h := h.1 c12
    refine qr_iload_n 42 43 rfl (x := x2) rfl dX12_weightsOf_42 ?_
    exact qe_i 43 rfl dX12_weightsOf_43 h
  · have h := h.2 c12
    refine qr_iload_n 15 16 rfl (x := x2) rfl dX12_weightsOf_15 ?_
    refine qr_iload_n 16 17 rfl (x := x1) rfl dX12_weightsOf_16 ?_
    refine qr_iload_n 17 18 rfl (x := x3) rfl dX12_weightsOf_17 ?_
    refine qs_I 18 21 rfl (av := [qI x1, qI x3]) ca_X12_isIn wm_1694 wm_1693 rfl rfl (Nat.le_of_ble_eq_true rfl) dX12_weightsOf_18 h (fun v2 M1 h => ?_)
    refine qr_if_eq 21 24 33 rfl (by decide) dX12_weightsOf_21 (fun c21 => ?_) (fun c21 => ?_)
    · have h := h.1 c21
      refine qr_iconst 33 34 rfl (q_l32 _ rfl) dX12_weightsOf_33 ?_
      refine qr_iadd 34 35 rfl dX12_weightsOf_34 ?_
      refine qn_i 35 (fun x2_3 e_x2_3 => ?_)
      have h := h x2_3 e_x2_3
      refine qr_istore_n 35 36 rfl (by decide) rfl rfl dX12_weightsOf_35 ?_
      refine qr_iinc 36 39 rfl (by decide) (x := x3) rfl rfl rfl dX12_weightsOf_36 ?_
      refine qr_goto 39 4 (by decide) dX12_weightsOf_39 ?_
      exact h
    · have h := h.2 c21
      refine qr_aload_n 24 25 rfl (x := 178) rfl dX12_weightsOf_24 ?_
      refine qr_getF 25 28 rfl ck12 19 (by decide) (b := 187) (by decide +kernel) rfl (by decide +kernel) (by decide +kernel) wm_1345 rfl dX12_weightsOf_25 ?_
      refine qr_iload_n 28 29 rfl (x := x3) rfl dX12_weightsOf_28 ?_
      have hb4 := h.1
      have h := h.2
      refine qi_ld 29 30 rfl (N := 16) (by decide +kernel) (by decide +kernel) hb4.1 hb4.2 dX12_weightsOf_29 ?_
      refine qr_goto 30 34 (by decide) dX12_weightsOf_30 ?_
      refine qr_iadd 34 35 rfl dX12_weightsOf_34 ?_
      refine qn_i 35 (fun x2_5 e_x2_5 => ?_)
      have h := h x2_5 e_x2_5
      refine qr_istore_n 35 36 rfl (by decide) rfl rfl dX12_weightsOf_35 ?_
      refine qr_iinc 36 39 rfl (by decide) (x := x3) rfl rfl rfl dX12_weightsOf_36 ?_
      refine qr_goto 39 4 (by decide) dX12_weightsOf_39 ?_
      exact h
theorem dX12_sidesOf_0 : decode cX12_sidesOf 0 = .ok (.iconst 0, 1) := by decide +kernel
theorem dX12_sidesOf_1 : decode cX12_sidesOf 1 = .ok (.istore_n 2, 1) := by decide +kernel
theorem dX12_sidesOf_2 : decode cX12_sidesOf 2 = .ok (.iconst 0, 1) := by decide +kernel
theorem dX12_sidesOf_3 : decode cX12_sidesOf 3 = .ok (.istore_n 3, 1) := by decide +kernel
theorem dX12_sidesOf_4 : decode cX12_sidesOf 4 = .ok (.iconst 0, 1) := by decide +kernel
theorem dX12_sidesOf_5 : decode cX12_sidesOf 5 = .ok (.istore 4, 2) := by decide +kernel
theorem dX12_sidesOf_7 : decode cX12_sidesOf 7 = .ok (.iload 4, 2) := by decide +kernel
theorem dX12_sidesOf_9 : decode cX12_sidesOf 9 = .ok (.aload_n 0, 1) := by decide +kernel
theorem dX12_sidesOf_10 : decode cX12_sidesOf 10 = .ok (.getfield 13, 3) := by decide +kernel
theorem dX12_sidesOf_13 : decode cX12_sidesOf 13 = .ok (.bipush 51, 2) := by decide +kernel
theorem dX12_sidesOf_15 : decode cX12_sidesOf 15 = .ok (.iaload, 1) := by decide +kernel
theorem dX12_sidesOf_16 : decode cX12_sidesOf 16 = .ok (.if_icmp .ge 32, 3) := by decide +kernel
theorem dX12_sidesOf_19 : decode cX12_sidesOf 19 = .ok (.iload_n 2, 1) := by decide +kernel
theorem dX12_sidesOf_20 : decode cX12_sidesOf 20 = .ok (.aload_n 0, 1) := by decide +kernel
theorem dX12_sidesOf_21 : decode cX12_sidesOf 21 = .ok (.getfield 54, 3) := by decide +kernel
theorem dX12_sidesOf_24 : decode cX12_sidesOf 24 = .ok (.iload 4, 2) := by decide +kernel
theorem dX12_sidesOf_26 : decode cX12_sidesOf 26 = .ok (.iaload, 1) := by decide +kernel
theorem dX12_sidesOf_27 : decode cX12_sidesOf 27 = .ok (.iload 4, 2) := by decide +kernel
theorem dX12_sidesOf_29 : decode cX12_sidesOf 29 = .ok (.if_icmp .ne 10, 3) := by decide +kernel
theorem dX12_sidesOf_32 : decode cX12_sidesOf 32 = .ok (.iconst 1, 1) := by decide +kernel
theorem dX12_sidesOf_33 : decode cX12_sidesOf 33 = .ok (.iload 4, 2) := by decide +kernel
theorem dX12_sidesOf_35 : decode cX12_sidesOf 35 = .ok (.ishl, 1) := by decide +kernel
theorem dX12_sidesOf_36 : decode cX12_sidesOf 36 = .ok (.goto 4, 3) := by decide +kernel
theorem dX12_sidesOf_39 : decode cX12_sidesOf 39 = .ok (.iconst 0, 1) := by decide +kernel
theorem dX12_sidesOf_40 : decode cX12_sidesOf 40 = .ok (.ior, 1) := by decide +kernel
theorem dX12_sidesOf_41 : decode cX12_sidesOf 41 = .ok (.istore_n 2, 1) := by decide +kernel
theorem dX12_sidesOf_42 : decode cX12_sidesOf 42 = .ok (.iinc 4 1, 3) := by decide +kernel
theorem dX12_sidesOf_45 : decode cX12_sidesOf 45 = .ok (.goto (-38), 3) := by decide +kernel
theorem dX12_sidesOf_48 : decode cX12_sidesOf 48 = .ok (.iconst 0, 1) := by decide +kernel
theorem dX12_sidesOf_49 : decode cX12_sidesOf 49 = .ok (.istore 4, 2) := by decide +kernel
theorem dX12_sidesOf_51 : decode cX12_sidesOf 51 = .ok (.iload 4, 2) := by decide +kernel
theorem dX12_sidesOf_53 : decode cX12_sidesOf 53 = .ok (.aload_n 0, 1) := by decide +kernel
theorem dX12_sidesOf_54 : decode cX12_sidesOf 54 = .ok (.getfield 13, 3) := by decide +kernel
theorem dX12_sidesOf_57 : decode cX12_sidesOf 57 = .ok (.bipush 51, 2) := by decide +kernel
theorem dX12_sidesOf_59 : decode cX12_sidesOf 59 = .ok (.iaload, 1) := by decide +kernel
theorem dX12_sidesOf_60 : decode cX12_sidesOf 60 = .ok (.if_icmp .ge 107, 3) := by decide +kernel
theorem dX12_sidesOf_63 : decode cX12_sidesOf 63 = .ok (.iconst 0, 1) := by decide +kernel
theorem dX12_sidesOf_64 : decode cX12_sidesOf 64 = .ok (.istore 5, 2) := by decide +kernel
theorem dX12_sidesOf_66 : decode cX12_sidesOf 66 = .ok (.iload 5, 2) := by decide +kernel
theorem dX12_sidesOf_68 : decode cX12_sidesOf 68 = .ok (.iconst 2, 1) := by decide +kernel
theorem dX12_sidesOf_69 : decode cX12_sidesOf 69 = .ok (.aload_n 0, 1) := by decide +kernel
theorem dX12_sidesOf_70 : decode cX12_sidesOf 70 = .ok (.getfield 13, 3) := by decide +kernel
theorem dX12_sidesOf_73 : decode cX12_sidesOf 73 = .ok (.bipush 52, 2) := by decide +kernel
theorem dX12_sidesOf_75 : decode cX12_sidesOf 75 = .ok (.iaload, 1) := by decide +kernel
theorem dX12_sidesOf_76 : decode cX12_sidesOf 76 = .ok (.imul, 1) := by decide +kernel
theorem dX12_sidesOf_77 : decode cX12_sidesOf 77 = .ok (.if_icmp .ge 84, 3) := by decide +kernel
theorem dX12_sidesOf_80 : decode cX12_sidesOf 80 = .ok (.aload_n 0, 1) := by decide +kernel
theorem dX12_sidesOf_81 : decode cX12_sidesOf 81 = .ok (.iload 5, 2) := by decide +kernel
theorem dX12_sidesOf_83 : decode cX12_sidesOf 83 = .ok (.invokevirtual 275, 3) := by decide +kernel
theorem dX12_sidesOf_86 : decode cX12_sidesOf 86 = .ok (.istore 6, 2) := by decide +kernel
theorem dX12_sidesOf_88 : decode cX12_sidesOf 88 = .ok (.aload_n 0, 1) := by decide +kernel
theorem dX12_sidesOf_89 : decode cX12_sidesOf 89 = .ok (.iload 5, 2) := by decide +kernel
theorem dX12_sidesOf_91 : decode cX12_sidesOf 91 = .ok (.invokestatic 272, 3) := by decide +kernel
theorem dX12_sidesOf_94 : decode cX12_sidesOf 94 = .ok (.invokevirtual 275, 3) := by decide +kernel
theorem dX12_sidesOf_97 : decode cX12_sidesOf 97 = .ok (.istore 7, 2) := by decide +kernel
theorem dX12_sidesOf_99 : decode cX12_sidesOf 99 = .ok (.iload_n 2, 1) := by decide +kernel
theorem dX12_sidesOf_100 : decode cX12_sidesOf 100 = .ok (.iload 6, 2) := by decide +kernel
theorem dX12_sidesOf_102 : decode cX12_sidesOf 102 = .ok (.invokestatic 263, 3) := by decide +kernel
theorem dX12_sidesOf_105 : decode cX12_sidesOf 105 = .ok (.ifCond .eq 50, 3) := by decide +kernel
theorem dX12_sidesOf_108 : decode cX12_sidesOf 108 = .ok (.iload_n 2, 1) := by decide +kernel
theorem dX12_sidesOf_109 : decode cX12_sidesOf 109 = .ok (.iload 7, 2) := by decide +kernel
theorem dX12_sidesOf_111 : decode cX12_sidesOf 111 = .ok (.invokestatic 263, 3) := by decide +kernel
theorem dX12_sidesOf_114 : decode cX12_sidesOf 114 = .ok (.ifCond .eq 6, 3) := by decide +kernel
theorem dX12_sidesOf_117 : decode cX12_sidesOf 117 = .ok (.goto 38, 3) := by decide +kernel
theorem dX12_sidesOf_120 : decode cX12_sidesOf 120 = .ok (.iload_n 2, 1) := by decide +kernel
theorem dX12_sidesOf_121 : decode cX12_sidesOf 121 = .ok (.iconst 1, 1) := by decide +kernel
theorem dX12_sidesOf_122 : decode cX12_sidesOf 122 = .ok (.iload 7, 2) := by decide +kernel
theorem dX12_sidesOf_124 : decode cX12_sidesOf 124 = .ok (.ishl, 1) := by decide +kernel
theorem dX12_sidesOf_125 : decode cX12_sidesOf 125 = .ok (.ior, 1) := by decide +kernel
theorem dX12_sidesOf_126 : decode cX12_sidesOf 126 = .ok (.istore_n 2, 1) := by decide +kernel
theorem dX12_sidesOf_127 : decode cX12_sidesOf 127 = .ok (.iload_n 3, 1) := by decide +kernel
theorem dX12_sidesOf_128 : decode cX12_sidesOf 128 = .ok (.iload_n 3, 1) := by decide +kernel
theorem dX12_sidesOf_129 : decode cX12_sidesOf 129 = .ok (.iload 6, 2) := by decide +kernel
theorem dX12_sidesOf_131 : decode cX12_sidesOf 131 = .ok (.invokestatic 263, 3) := by decide +kernel
theorem dX12_sidesOf_134 : decode cX12_sidesOf 134 = .ok (.iload_n 1, 1) := by decide +kernel
theorem dX12_sidesOf_135 : decode cX12_sidesOf 135 = .ok (.iload 5, 2) := by decide +kernel
theorem dX12_sidesOf_137 : decode cX12_sidesOf 137 = .ok (.iconst 2, 1) := by decide +kernel
theorem dX12_sidesOf_138 : decode cX12_sidesOf 138 = .ok (.idiv, 1) := by decide +kernel
theorem dX12_sidesOf_139 : decode cX12_sidesOf 139 = .ok (.invokestatic 263, 3) := by decide +kernel
theorem dX12_sidesOf_142 : decode cX12_sidesOf 142 = .ok (.if_icmp .eq 10, 3) := by decide +kernel
theorem dX12_sidesOf_145 : decode cX12_sidesOf 145 = .ok (.iconst 1, 1) := by decide +kernel
theorem dX12_sidesOf_146 : decode cX12_sidesOf 146 = .ok (.iload 7, 2) := by decide +kernel
theorem dX12_sidesOf_148 : decode cX12_sidesOf 148 = .ok (.ishl, 1) := by decide +kernel
theorem dX12_sidesOf_149 : decode cX12_sidesOf 149 = .ok (.goto 4, 3) := by decide +kernel
theorem dX12_sidesOf_152 : decode cX12_sidesOf 152 = .ok (.iconst 0, 1) := by decide +kernel
theorem dX12_sidesOf_153 : decode cX12_sidesOf 153 = .ok (.ior, 1) := by decide +kernel
theorem dX12_sidesOf_154 : decode cX12_sidesOf 154 = .ok (.istore_n 3, 1) := by decide +kernel
theorem dX12_sidesOf_155 : decode cX12_sidesOf 155 = .ok (.iinc 5 1, 3) := by decide +kernel
theorem dX12_sidesOf_158 : decode cX12_sidesOf 158 = .ok (.goto (-92), 3) := by decide +kernel
theorem dX12_sidesOf_161 : decode cX12_sidesOf 161 = .ok (.iinc 4 1, 3) := by decide +kernel
theorem dX12_sidesOf_164 : decode cX12_sidesOf 164 = .ok (.goto (-113), 3) := by decide +kernel
theorem dX12_sidesOf_167 : decode cX12_sidesOf 167 = .ok (.iload_n 3, 1) := by decide +kernel
theorem dX12_sidesOf_168 : decode cX12_sidesOf 168 = .ok (.ireturn, 1) := by decide +kernel
theorem bX12_sidesOf_0 {d : Nat} {P : Int → q_Mem → Prop} {M : q_Mem} (x1 : Int) (h : q_v mX12_sidesOf d (qPI P) M 7 [some (qR 178), some (qI x1), some (qI 0), some (qI 0), some (qI 0), none, none, none] []) : q_v mX12_sidesOf d (qPI P) M 0 [some (qR 178), some (qI x1), none, none, none, none, none, none] [] := by
  refine qr_iconst 0 1 rfl (q_l32 _ rfl) dX12_sidesOf_0 ?_
  refine qr_istore_n 1 2 rfl (by decide) rfl rfl dX12_sidesOf_1 ?_
  refine qr_iconst 2 3 rfl (q_l32 _ rfl) dX12_sidesOf_2 ?_
  refine qr_istore_n 3 4 rfl (by decide) rfl rfl dX12_sidesOf_3 ?_
  refine qr_iconst 4 5 rfl (q_l32 _ rfl) dX12_sidesOf_4 ?_
  refine qr_istore 5 7 rfl (by decide) rfl rfl dX12_sidesOf_5 ?_
  exact h
theorem bX12_sidesOf_7 {d : Nat} {P : Int → q_Mem → Prop} {M : q_Mem} (x1 x2 x3 x4 : Int) (h : ((((M 179 51) ≤ x4) → q_v mX12_sidesOf d (qPI P) M 51 [some (qR 178), some (qI x1), some (qI x2), some (qI x3), some (qI 0), none, none, none] []) ∧ ((¬ ((M 179 51) ≤ x4)) → (0 ≤ x4 ∧ x4 < (10 : Int)) ∧ (((¬ (M 191 x4) = x4) → ∀ x2_2 : Int, x2_2 = (q_or x2 0) → q_v mX12_sidesOf d (qPI P) M 7 [some (qR 178), some (qI x1), some (qI x2_2), some (qI x3), some (qI (q_add x4 1)), none, none, none] []) ∧ (((M 191 x4) = x4) → ∀ x2_3 : Int, x2_3 = (q_or x2 (q_shl 1 x4)) → q_v mX12_sidesOf d (qPI P) M 7 [some (qR 178), some (qI x1), some (qI x2_3), some (qI x3), some (qI (q_add x4 1)), none, none, none] []))))) : q_v mX12_sidesOf d (qPI P) M 7 [some (qR 178), some (qI x1), some (qI x2), some (qI x3), some (qI x4), none, none, none] [] := by
  refine qr_iload 7 9 rfl (x := x4) rfl dX12_sidesOf_7 ?_
  refine qr_aload_n 9 10 rfl (x := 178) rfl dX12_sidesOf_9 ?_
  refine qr_getF 10 13 rfl ck12 1 (by decide) (b := 179) (by decide +kernel) rfl (by decide +kernel) (by decide +kernel) wm_1327 rfl dX12_sidesOf_10 ?_
  refine qr_bipush 13 15 rfl (q_l32 _ rfl) (by decide) dX12_sidesOf_13 ?_
  refine qi_ld 15 16 rfl (N := 4512) (by decide +kernel) (by decide +kernel) (by decide) (by decide) dX12_sidesOf_15 ?_
  refine qr_icmp_ge 16 19 48 rfl (by decide) dX12_sidesOf_16 (fun c16 => ?_) (fun c16 => ?_)
  · have h := h.1 c16
    refine qr_iconst 48 49 rfl (q_l32 _ rfl) dX12_sidesOf_48 ?_
    refine qr_istore 49 51 rfl (by decide) rfl rfl dX12_sidesOf_49 ?_
    exact h
  · have h := h.2 c16
    refine qr_iload_n 19 20 rfl (x := x2) rfl dX12_sidesOf_19 ?_
    refine qr_aload_n 20 21 rfl (x := 178) rfl dX12_sidesOf_20 ?_
    refine qr_getF 21 24 rfl ck12 23 (by decide) (b := 191) (by decide +kernel) rfl (by decide +kernel) (by decide +kernel) wm_1349 rfl dX12_sidesOf_21 ?_
    refine qr_iload 24 26 rfl (x := x4) rfl dX12_sidesOf_24 ?_
    have hb1 := h.1
    have h := h.2
    refine qi_ld 26 27 rfl (N := 10) (by decide +kernel) (by decide +kernel) hb1.1 hb1.2 dX12_sidesOf_26 ?_
    refine qr_iload 27 29 rfl (x := x4) rfl dX12_sidesOf_27 ?_
    refine qr_icmp_ne 29 32 39 rfl (by decide) dX12_sidesOf_29 (fun c29 => ?_) (fun c29 => ?_)
    · have h := h.1 c29
      refine qr_iconst 39 40 rfl (q_l32 _ rfl) dX12_sidesOf_39 ?_
      refine qr_ior 40 41 rfl dX12_sidesOf_40 ?_
      refine qn_i 41 (fun x2_2 e_x2_2 => ?_)
      have h := h x2_2 e_x2_2
      refine qr_istore_n 41 42 rfl (by decide) rfl rfl dX12_sidesOf_41 ?_
      refine qr_iinc 42 45 rfl (by decide) (x := x4) rfl rfl rfl dX12_sidesOf_42 ?_
      refine qr_goto 45 7 (by decide) dX12_sidesOf_45 ?_
      exact h
    · have h := h.2 c29
      refine qr_iconst 32 33 rfl (q_l32 _ rfl) dX12_sidesOf_32 ?_
      refine qr_iload 33 35 rfl (x := x4) rfl dX12_sidesOf_33 ?_
      refine qr_ishl 35 36 rfl dX12_sidesOf_35 ?_
      refine qr_goto 36 40 (by decide) dX12_sidesOf_36 ?_
      refine qr_ior 40 41 rfl dX12_sidesOf_40 ?_
      refine qn_i 41 (fun x2_3 e_x2_3 => ?_)
      have h := h x2_3 e_x2_3
      refine qr_istore_n 41 42 rfl (by decide) rfl rfl dX12_sidesOf_41 ?_
      refine qr_iinc 42 45 rfl (by decide) (x := x4) rfl rfl rfl dX12_sidesOf_42 ?_
      refine qr_goto 45 7 (by decide) dX12_sidesOf_45 ?_
      exact h
theorem bX12_sidesOf_51 {d : Nat} {P : Int → q_Mem → Prop} {M : q_Mem} (x1 x2 x3 x4 : Int) (h : ((((M 179 51) ≤ x4) → P x3 M) ∧ ((¬ ((M 179 51) ≤ x4)) → q_v mX12_sidesOf d (qPI P) M 66 [some (qR 178), some (qI x1), some (qI x2), some (qI x3), some (qI x4), some (qI 0), none, none] []))) : q_v mX12_sidesOf d (qPI P) M 51 [some (qR 178), some (qI x1), some (qI x2), some (qI x3), some (qI x4), none, none, none] [] := by
  refine qr_iload 51 53 rfl (x := x4) rfl dX12_sidesOf_51 ?_
  refine qr_aload_n 53 54 rfl (x := 178) rfl dX12_sidesOf_53 ?_
  refine qr_getF 54 57 rfl ck12 1 (by decide) (b := 179) (by decide +kernel) rfl (by decide +kernel) (by decide +kernel) wm_1327 rfl dX12_sidesOf_54 ?_
  refine qr_bipush 57 59 rfl (q_l32 _ rfl) (by decide) dX12_sidesOf_57 ?_
  refine qi_ld 59 60 rfl (N := 4512) (by decide +kernel) (by decide +kernel) (by decide) (by decide) dX12_sidesOf_59 ?_
  refine qr_icmp_ge 60 63 167 rfl (by decide) dX12_sidesOf_60 (fun c60 => ?_) (fun c60 => ?_)
  · have h := h.1 c60
    refine qr_iload_n 167 168 rfl (x := x3) rfl dX12_sidesOf_167 ?_
    exact qe_i 168 rfl dX12_sidesOf_168 h
  · have h := h.2 c60
    refine qr_iconst 63 64 rfl (q_l32 _ rfl) dX12_sidesOf_63 ?_
    refine qr_istore 64 66 rfl (by decide) rfl rfl dX12_sidesOf_64 ?_
    exact h
theorem bX12_sidesOf_66 {d : Nat} {P : Int → q_Mem → Prop} {M : q_Mem} (x1 x2 x3 x4 x5 : Int) (h : ((((q_mul 2 (M 179 52)) ≤ x5) → q_v mX12_sidesOf d (qPI P) M 51 [some (qR 178), some (qI x1), some (qI x2), some (qI x3), some (qI (q_add x4 1)), none, none, none] []) ∧ ((¬ ((q_mul 2 (M 179 52)) ≤ x5)) → q_kI yX12_fromOf mX12_fromOf d [qR 178, qI x5] M (fun v2 M1 => q_kI yX12_backOf mX12_backOf d [qI x5] M1 (fun v4 M3 => q_kI yX12_fromOf mX12_fromOf d [qR 178, qI v4] M3 (fun v6 M5 => q_kI yX12_isIn mX12_isIn d [qI x2, qI v2] M5 (fun v8 M7 => ((v8 = 0) → q_v mX12_sidesOf d (qPI P) M7 66 [some (qR 178), some (qI x1), some (qI x2), some (qI x3), some (qI x4), some (qI (q_add x5 1)), none, none] []) ∧ ((¬ (v8 = 0)) → q_kI yX12_isIn mX12_isIn d [qI x2, qI v6] M7 (fun v10 M9 => ((v10 = 0) → ∀ x2_11 : Int, x2_11 = (q_or x2 (q_shl 1 v6)) → q_kI yX12_isIn mX12_isIn d [qI x3, qI v2] M9 (fun v13 M12 => q_kI yX12_isIn mX12_isIn d [qI x1, qI (q_div x5 2)] M12 (fun v15 M14 => ((v13 = v15) → ∀ x3_16 : Int, x3_16 = (q_or x3 0) → q_v mX12_sidesOf d (qPI P) M14 66 [some (qR 178), some (qI x1), some (qI x2_11), some (qI x3_16), some (qI x4), some (qI (q_add x5 1)), none, none] []) ∧ ((¬ (v13 = v15)) → ∀ x3_17 : Int, x3_17 = (q_or x3 (q_shl 1 v6)) → q_v mX12_sidesOf d (qPI P) M14 66 [some (qR 178), some (qI x1), some (qI x2_11), some (qI x3_17), some (qI x4), some (qI (q_add x5 1)), none, none] [])))) ∧ ((¬ (v10 = 0)) → q_v mX12_sidesOf d (qPI P) M9 66 [some (qR 178), some (qI x1), some (qI x2), some (qI x3), some (qI x4), some (qI (q_add x5 1)), none, none] [])))))))))) : q_v mX12_sidesOf d (qPI P) M 66 [some (qR 178), some (qI x1), some (qI x2), some (qI x3), some (qI x4), some (qI x5), none, none] [] := by
  refine qr_iload 66 68 rfl (x := x5) rfl dX12_sidesOf_66 ?_
  refine qr_iconst 68 69 rfl (q_l32 _ rfl) dX12_sidesOf_68 ?_
  refine qr_aload_n 69 70 rfl (x := 178) rfl dX12_sidesOf_69 ?_
  refine qr_getF 70 73 rfl ck12 1 (by decide) (b := 179) (by decide +kernel) rfl (by decide +kernel) (by decide +kernel) wm_1327 rfl dX12_sidesOf_70 ?_
  refine qr_bipush 73 75 rfl (q_l32 _ rfl) (by decide) dX12_sidesOf_73 ?_
  refine qi_ld 75 76 rfl (N := 4512) (by decide +kernel) (by decide +kernel) (by decide) (by decide) dX12_sidesOf_75 ?_
  refine qr_imul 76 77 rfl dX12_sidesOf_76 ?_
  refine qr_icmp_ge 77 80 161 rfl (by decide) dX12_sidesOf_77 (fun c77 => ?_) (fun c77 => ?_)
  · have h := h.1 c77
    refine qr_iinc 161 164 rfl (by decide) (x := x4) rfl rfl rfl dX12_sidesOf_161 ?_
    refine qr_goto 164 51 (by decide) dX12_sidesOf_164 ?_
    exact qr_cut 51 (ls' := [some (qR 178), some (qI x1), some (qI x2), some (qI x3), some (qI (q_add x4 1)), none, none, none]) (And.intro rfl (And.intro rfl (And.intro rfl (And.intro rfl (And.intro rfl trivial))))) h
  · have h := h.2 c77
    refine qr_aload_n 80 81 rfl (x := 178) rfl dX12_sidesOf_80 ?_
    refine qr_iload 81 83 rfl (x := x5) rfl dX12_sidesOf_81 ?_
    refine qw_I 83 86 rfl (av := [qI x5]) ca_X12_fromOf wm_1626 wp_104 wm_1624 ck12 (by decide +kernel) rfl rfl (Nat.le_of_ble_eq_true rfl) dX12_sidesOf_83 h (fun v2 M1 h => ?_)
    refine qr_istore 86 88 rfl (by decide) rfl rfl dX12_sidesOf_86 ?_
    refine qr_aload_n 88 89 rfl (x := 178) rfl dX12_sidesOf_88 ?_
    refine qr_iload 89 91 rfl (x := x5) rfl dX12_sidesOf_89 ?_
    refine qs_I 91 94 rfl (av := [qI x5]) ca_X12_backOf wm_1622 wm_1621 rfl rfl (Nat.le_of_ble_eq_true rfl) dX12_sidesOf_91 h (fun v4 M3 h => ?_)
    refine qw_I 94 97 rfl (av := [qI v4]) ca_X12_fromOf wm_1626 wp_104 wm_1624 ck12 (by decide +kernel) rfl rfl (Nat.le_of_ble_eq_true rfl) dX12_sidesOf_94 h (fun v6 M5 h => ?_)
    refine qr_istore 97 99 rfl (by decide) rfl rfl dX12_sidesOf_97 ?_
    refine qr_iload_n 99 100 rfl (x := x2) rfl dX12_sidesOf_99 ?_
    refine qr_iload 100 102 rfl (x := v2) rfl dX12_sidesOf_100 ?_
    refine qs_I 102 105 rfl (av := [qI x2, qI v2]) ca_X12_isIn wm_1694 wm_1693 rfl rfl (Nat.le_of_ble_eq_true rfl) dX12_sidesOf_102 h (fun v8 M7 h => ?_)
    refine qr_if_eq 105 108 155 rfl (by decide) dX12_sidesOf_105 (fun c105 => ?_) (fun c105 => ?_)
    · have h := h.1 c105
      refine qr_iinc 155 158 rfl (by decide) (x := x5) rfl rfl rfl dX12_sidesOf_155 ?_
      refine qr_goto 158 66 (by decide) dX12_sidesOf_158 ?_
      exact qr_cut 66 (ls' := [some (qR 178), some (qI x1), some (qI x2), some (qI x3), some (qI x4), some (qI (q_add x5 1)), none, none]) (And.intro rfl (And.intro rfl (And.intro rfl (And.intro rfl (And.intro rfl (And.intro rfl trivial)))))) h
    · have h := h.2 c105
      refine qr_iload_n 108 109 rfl (x := x2) rfl dX12_sidesOf_108 ?_
      refine qr_iload 109 111 rfl (x := v6) rfl dX12_sidesOf_109 ?_
      refine qs_I 111 114 rfl (av := [qI x2, qI v6]) ca_X12_isIn wm_1694 wm_1693 rfl rfl (Nat.le_of_ble_eq_true rfl) dX12_sidesOf_111 h (fun v10 M9 h => ?_)
      refine qr_if_eq 114 117 120 rfl (by decide) dX12_sidesOf_114 (fun c114 => ?_) (fun c114 => ?_)
      · have h := h.1 c114
        refine qr_iload_n 120 121 rfl (x := x2) rfl dX12_sidesOf_120 ?_
        refine qr_iconst 121 122 rfl (q_l32 _ rfl) dX12_sidesOf_121 ?_
        refine qr_iload 122 124 rfl (x := v6) rfl dX12_sidesOf_122 ?_
        refine qr_ishl 124 125 rfl dX12_sidesOf_124 ?_
        refine qr_ior 125 126 rfl dX12_sidesOf_125 ?_
        refine qn_i 126 (fun x2_11 e_x2_11 => ?_)
        have h := h x2_11 e_x2_11
        refine qr_istore_n 126 127 rfl (by decide) rfl rfl dX12_sidesOf_126 ?_
        refine qr_iload_n 127 128 rfl (x := x3) rfl dX12_sidesOf_127 ?_
        refine qr_iload_n 128 129 rfl (x := x3) rfl dX12_sidesOf_128 ?_
        refine qr_iload 129 131 rfl (x := v2) rfl dX12_sidesOf_129 ?_
        refine qs_I 131 134 rfl (av := [qI x3, qI v2]) ca_X12_isIn wm_1694 wm_1693 rfl rfl (Nat.le_of_ble_eq_true rfl) dX12_sidesOf_131 h (fun v13 M12 h => ?_)
        refine qr_iload_n 134 135 rfl (x := x1) rfl dX12_sidesOf_134 ?_
        refine qr_iload 135 137 rfl (x := x5) rfl dX12_sidesOf_135 ?_
        refine qr_iconst 137 138 rfl (q_l32 _ rfl) dX12_sidesOf_137 ?_
        refine qr_idiv 138 139 rfl (by decide) dX12_sidesOf_138 ?_
        refine qs_I 139 142 rfl (av := [qI x1, qI (q_div x5 2)]) ca_X12_isIn wm_1694 wm_1693 rfl rfl (Nat.le_of_ble_eq_true rfl) dX12_sidesOf_139 h (fun v15 M14 h => ?_)
        refine qr_icmp_eq 142 145 152 rfl (by decide) dX12_sidesOf_142 (fun c142 => ?_) (fun c142 => ?_)
        · have h := h.1 c142
          refine qr_iconst 152 153 rfl (q_l32 _ rfl) dX12_sidesOf_152 ?_
          refine qr_ior 153 154 rfl dX12_sidesOf_153 ?_
          refine qn_i 154 (fun x3_16 e_x3_16 => ?_)
          have h := h x3_16 e_x3_16
          refine qr_istore_n 154 155 rfl (by decide) rfl rfl dX12_sidesOf_154 ?_
          refine qr_iinc 155 158 rfl (by decide) (x := x5) rfl rfl rfl dX12_sidesOf_155 ?_
          refine qr_goto 158 66 (by decide) dX12_sidesOf_158 ?_
          exact qr_cut 66 (ls' := [some (qR 178), some (qI x1), some (qI x2_11), some (qI x3_16), some (qI x4), some (qI (q_add x5 1)), none, none]) (And.intro rfl (And.intro rfl (And.intro rfl (And.intro rfl (And.intro rfl (And.intro rfl trivial)))))) h
        · have h := h.2 c142
          refine qr_iconst 145 146 rfl (q_l32 _ rfl) dX12_sidesOf_145 ?_
          refine qr_iload 146 148 rfl (x := v6) rfl dX12_sidesOf_146 ?_
          refine qr_ishl 148 149 rfl dX12_sidesOf_148 ?_
          refine qr_goto 149 153 (by decide) dX12_sidesOf_149 ?_
          refine qr_ior 153 154 rfl dX12_sidesOf_153 ?_
          refine qn_i 154 (fun x3_17 e_x3_17 => ?_)
          have h := h x3_17 e_x3_17
          refine qr_istore_n 154 155 rfl (by decide) rfl rfl dX12_sidesOf_154 ?_
          refine qr_iinc 155 158 rfl (by decide) (x := x5) rfl rfl rfl dX12_sidesOf_155 ?_
          refine qr_goto 158 66 (by decide) dX12_sidesOf_158 ?_
          exact qr_cut 66 (ls' := [some (qR 178), some (qI x1), some (qI x2_11), some (qI x3_17), some (qI x4), some (qI (q_add x5 1)), none, none]) (And.intro rfl (And.intro rfl (And.intro rfl (And.intro rfl (And.intro rfl (And.intro rfl trivial)))))) h
      · have h := h.2 c114
        refine qr_goto 117 155 (by decide) dX12_sidesOf_117 ?_
        refine qr_iinc 155 158 rfl (by decide) (x := x5) rfl rfl rfl dX12_sidesOf_155 ?_
        refine qr_goto 158 66 (by decide) dX12_sidesOf_158 ?_
        exact qr_cut 66 (ls' := [some (qR 178), some (qI x1), some (qI x2), some (qI x3), some (qI x4), some (qI (q_add x5 1)), none, none]) (And.intro rfl (And.intro rfl (And.intro rfl (And.intro rfl (And.intro rfl (And.intro rfl trivial)))))) h
theorem dX12_partner_0 : decode cX12_partner 0 = .ok (.aload_n 0, 1) := by decide +kernel
theorem dX12_partner_1 : decode cX12_partner 1 = .ok (.iconst 0, 1) := by decide +kernel
theorem dX12_partner_2 : decode cX12_partner 2 = .ok (.putfield 1, 3) := by decide +kernel
theorem dX12_partner_5 : decode cX12_partner 5 = .ok (.aload_n 0, 1) := by decide +kernel
theorem dX12_partner_6 : decode cX12_partner 6 = .ok (.invokevirtual 290, 3) := by decide +kernel
theorem dX12_partner_9 : decode cX12_partner 9 = .ok (.aload_n 0, 1) := by decide +kernel
theorem dX12_partner_10 : decode cX12_partner 10 = .ok (.iload_n 1, 1) := by decide +kernel
theorem dX12_partner_11 : decode cX12_partner 11 = .ok (.i2l, 1) := by decide +kernel
theorem dX12_partner_12 : decode cX12_partner 12 = .ok (.invokevirtual 388, 3) := by decide +kernel
theorem dX12_partner_15 : decode cX12_partner 15 = .ok (.ifCond .ne 6, 3) := by decide +kernel
theorem dX12_partner_18 : decode cX12_partner 18 = .ok (.bipush (-2), 2) := by decide +kernel
theorem dX12_partner_20 : decode cX12_partner 20 = .ok (.ireturn, 1) := by decide +kernel
theorem dX12_partner_21 : decode cX12_partner 21 = .ok (.aload_n 0, 1) := by decide +kernel
theorem dX12_partner_22 : decode cX12_partner 22 = .ok (.iconst 1, 1) := by decide +kernel
theorem dX12_partner_23 : decode cX12_partner 23 = .ok (.invokevirtual 335, 3) := by decide +kernel
theorem dX12_partner_26 : decode cX12_partner 26 = .ok (.ifCond .eq 12, 3) := by decide +kernel
theorem dX12_partner_29 : decode cX12_partner 29 = .ok (.aload_n 0, 1) := by decide +kernel
theorem dX12_partner_30 : decode cX12_partner 30 = .ok (.getfield 76, 3) := by decide +kernel
theorem dX12_partner_33 : decode cX12_partner 33 = .ok (.iload_n 1, 1) := by decide +kernel
theorem dX12_partner_34 : decode cX12_partner 34 = .ok (.iaload, 1) := by decide +kernel
theorem dX12_partner_35 : decode cX12_partner 35 = .ok (.goto 5, 3) := by decide +kernel
theorem dX12_partner_38 : decode cX12_partner 38 = .ok (.bipush (-5), 2) := by decide +kernel
theorem dX12_partner_40 : decode cX12_partner 40 = .ok (.ireturn, 1) := by decide +kernel
theorem bX12_partner_0 {d : Nat} {P : Int → q_Mem → Prop} {M : q_Mem} (x1 : Int) (h : (∀ M1 : q_Mem, M1 = q_up M 178 0 0 → q_kU yX12_laysFaces mX12_laysFaces d [qR 178] M1 (fun M2 => q_kI yX12_isFace mX12_isFace d [qR 178, qL x1] M2 (fun v4 M3 => ((¬ v4 = 0) → q_kI yX12_laysPairs mX12_laysPairs d [qR 178, qI 1] M3 (fun v6 M5 => ((v6 = 0) → P (-5) M5) ∧ ((¬ (v6 = 0)) → (0 ≤ x1 ∧ x1 < (16 : Int)) ∧ (P (M5 198 x1) M5)))) ∧ ((v4 = 0) → P (-2) M3))))) : q_v mX12_partner d (qPI P) M 0 [some (qR 178), some (qI x1)] [] := by
  refine qr_aload_n 0 1 rfl (x := 178) rfl dX12_partner_0 ?_
  refine qr_iconst 1 2 rfl (q_l32 _ rfl) dX12_partner_1 ?_
  refine qp_i 2 5 rfl ck12 0 (kk := 0) (by decide) (by decide +kernel) (by decide) rfl rfl wm_1326 rfl dX12_partner_2 (fun M1 e_M1 => ?_)
  have h := h M1 e_M1
  refine qr_aload_n 5 6 rfl (x := 178) rfl dX12_partner_5 ?_
  refine qw_U 6 9 rfl (av := []) ca_X12_laysFaces wm_1615 wp_102 wm_1613 ck12 (by decide +kernel) rfl rfl (Nat.le_of_ble_eq_true rfl) dX12_partner_6 h (fun M2 h => ?_)
  refine qr_aload_n 9 10 rfl (x := 178) rfl dX12_partner_9 ?_
  refine qr_iload_n 10 11 rfl (x := x1) rfl dX12_partner_10 ?_
  refine qr_i2l 11 12 rfl dX12_partner_11 ?_
  refine qw_I 12 15 rfl (av := [qL x1]) ca_X12_isFace wm_1855 wp_138 wm_1853 ck12 (by decide +kernel) rfl rfl (Nat.le_of_ble_eq_true rfl) dX12_partner_12 h (fun v4 M3 h => ?_)
  refine qr_if_ne 15 18 21 rfl (by decide) dX12_partner_15 (fun c15 => ?_) (fun c15 => ?_)
  · have h := h.1 c15
    refine qr_aload_n 21 22 rfl (x := 178) rfl dX12_partner_21 ?_
    refine qr_iconst 22 23 rfl (q_l32 _ rfl) dX12_partner_22 ?_
    refine qw_I 23 26 rfl (av := [qI 1]) ca_X12_laysPairs wm_1735 wp_119 wm_1733 ck12 (by decide +kernel) rfl rfl (Nat.le_of_ble_eq_true rfl) dX12_partner_23 h (fun v6 M5 h => ?_)
    refine qr_if_eq 26 29 38 rfl (by decide) dX12_partner_26 (fun c26 => ?_) (fun c26 => ?_)
    · have h := h.1 c26
      refine qr_bipush 38 40 rfl (q_l32 _ rfl) (by decide) dX12_partner_38 ?_
      exact qe_i 40 rfl dX12_partner_40 h
    · have h := h.2 c26
      refine qr_aload_n 29 30 rfl (x := 178) rfl dX12_partner_29 ?_
      refine qr_getF 30 33 rfl ck12 33 (by decide) (b := 198) (by decide +kernel) rfl (by decide +kernel) (by decide +kernel) wm_1359 rfl dX12_partner_30 ?_
      refine qr_iload_n 33 34 rfl (x := x1) rfl dX12_partner_33 ?_
      have hb7 := h.1
      have h := h.2
      refine qi_ld 34 35 rfl (N := 16) (by decide +kernel) (by decide +kernel) hb7.1 hb7.2 dX12_partner_34 ?_
      refine qr_goto 35 40 (by decide) dX12_partner_35 ?_
      exact qe_i 40 rfl dX12_partner_40 h
  · have h := h.2 c15
    refine qr_bipush 18 20 rfl (q_l32 _ rfl) (by decide) dX12_partner_18 ?_
    exact qe_i 20 rfl dX12_partner_20 h
theorem dX12_join_0 : decode cX12_join 0 = .ok (.aload_n 0, 1) := by decide +kernel
theorem dX12_join_1 : decode cX12_join 1 = .ok (.iconst 0, 1) := by decide +kernel
theorem dX12_join_2 : decode cX12_join 2 = .ok (.putfield 1, 3) := by decide +kernel
theorem dX12_join_5 : decode cX12_join 5 = .ok (.aload_n 0, 1) := by decide +kernel
theorem dX12_join_6 : decode cX12_join 6 = .ok (.iconst 1, 1) := by decide +kernel
theorem dX12_join_7 : decode cX12_join 7 = .ok (.invokevirtual 335, 3) := by decide +kernel
theorem dX12_join_10 : decode cX12_join 10 = .ok (.ifCond .eq 10, 3) := by decide +kernel
theorem dX12_join_13 : decode cX12_join 13 = .ok (.aload_n 0, 1) := by decide +kernel
theorem dX12_join_14 : decode cX12_join 14 = .ok (.getfield 429, 3) := by decide +kernel
theorem dX12_join_17 : decode cX12_join 17 = .ok (.goto 5, 3) := by decide +kernel
theorem dX12_join_20 : decode cX12_join 20 = .ok (.bipush (-5), 2) := by decide +kernel
theorem dX12_join_22 : decode cX12_join 22 = .ok (.ireturn, 1) := by decide +kernel
theorem bX12_join_0 {d : Nat} {P : Int → q_Mem → Prop} {M : q_Mem} (h : (∀ M1 : q_Mem, M1 = q_up M 178 0 0 → q_kI yX12_laysPairs mX12_laysPairs d [qR 178, qI 1] M1 (fun v3 M2 => ((v3 = 0) → P (-5) M2) ∧ ((¬ (v3 = 0)) → P (M2 178 35) M2)))) : q_v mX12_join d (qPI P) M 0 [some (qR 178)] [] := by
  refine qr_aload_n 0 1 rfl (x := 178) rfl dX12_join_0 ?_
  refine qr_iconst 1 2 rfl (q_l32 _ rfl) dX12_join_1 ?_
  refine qp_i 2 5 rfl ck12 0 (kk := 0) (by decide) (by decide +kernel) (by decide) rfl rfl wm_1326 rfl dX12_join_2 (fun M1 e_M1 => ?_)
  have h := h M1 e_M1
  refine qr_aload_n 5 6 rfl (x := 178) rfl dX12_join_5 ?_
  refine qr_iconst 6 7 rfl (q_l32 _ rfl) dX12_join_6 ?_
  refine qw_I 7 10 rfl (av := [qI 1]) ca_X12_laysPairs wm_1735 wp_119 wm_1733 ck12 (by decide +kernel) rfl rfl (Nat.le_of_ble_eq_true rfl) dX12_join_7 h (fun v3 M2 h => ?_)
  refine qr_if_eq 10 13 20 rfl (by decide) dX12_join_10 (fun c10 => ?_) (fun c10 => ?_)
  · have h := h.1 c10
    refine qr_bipush 20 22 rfl (q_l32 _ rfl) (by decide) dX12_join_20 ?_
    exact qe_i 22 rfl dX12_join_22 h
  · have h := h.2 c10
    refine qr_aload_n 13 14 rfl (x := 178) rfl dX12_join_13 ?_
    refine qg_i 14 17 rfl ck12 35 (kk := 35) (by decide) (by decide +kernel) (by decide +kernel) rfl wm_1361 rfl dX12_join_14 ?_
    refine qr_goto 17 22 (by decide) dX12_join_17 ?_
    exact qe_i 22 rfl dX12_join_22 h
theorem dX12_proof_0 : decode cX12_proof 0 = .ok (.aload_n 0, 1) := by decide +kernel
theorem dX12_proof_1 : decode cX12_proof 1 = .ok (.iconst 0, 1) := by decide +kernel
theorem dX12_proof_2 : decode cX12_proof 2 = .ok (.putfield 1, 3) := by decide +kernel
theorem dX12_proof_5 : decode cX12_proof 5 = .ok (.iload_n 1, 1) := by decide +kernel
theorem dX12_proof_6 : decode cX12_proof 6 = .ok (.i2l, 1) := by decide +kernel
theorem dX12_proof_7 : decode cX12_proof 7 = .ok (.lconst 0, 1) := by decide +kernel
theorem dX12_proof_8 : decode cX12_proof 8 = .ok (.lconst 1, 1) := by decide +kernel
theorem dX12_proof_9 : decode cX12_proof 9 = .ok (.invokestatic 176, 3) := by decide +kernel
theorem dX12_proof_12 : decode cX12_proof 12 = .ok (.ifCond .ne 6, 3) := by decide +kernel
theorem dX12_proof_15 : decode cX12_proof 15 = .ok (.bipush (-2), 2) := by decide +kernel
theorem dX12_proof_17 : decode cX12_proof 17 = .ok (.ireturn, 1) := by decide +kernel
theorem dX12_proof_18 : decode cX12_proof 18 = .ok (.aload_n 0, 1) := by decide +kernel
theorem dX12_proof_19 : decode cX12_proof 19 = .ok (.iconst 1, 1) := by decide +kernel
theorem dX12_proof_20 : decode cX12_proof 20 = .ok (.invokevirtual 335, 3) := by decide +kernel
theorem dX12_proof_23 : decode cX12_proof 23 = .ok (.ifCond .ne 6, 3) := by decide +kernel
theorem dX12_proof_26 : decode cX12_proof 26 = .ok (.bipush (-5), 2) := by decide +kernel
theorem dX12_proof_28 : decode cX12_proof 28 = .ok (.ireturn, 1) := by decide +kernel
theorem dX12_proof_29 : decode cX12_proof 29 = .ok (.iload_n 1, 1) := by decide +kernel
theorem dX12_proof_30 : decode cX12_proof 30 = .ok (.ifCond .ne 13, 3) := by decide +kernel
theorem dX12_proof_33 : decode cX12_proof 33 = .ok (.aload_n 0, 1) := by decide +kernel
theorem dX12_proof_34 : decode cX12_proof 34 = .ok (.aload_n 0, 1) := by decide +kernel
theorem dX12_proof_35 : decode cX12_proof 35 = .ok (.iconst 1, 1) := by decide +kernel
theorem dX12_proof_36 : decode cX12_proof 36 = .ok (.invokevirtual 438, 3) := by decide +kernel
theorem dX12_proof_39 : decode cX12_proof 39 = .ok (.invokevirtual 441, 3) := by decide +kernel
theorem dX12_proof_42 : decode cX12_proof 42 = .ok (.ireturn, 1) := by decide +kernel
theorem dX12_proof_43 : decode cX12_proof 43 = .ok (.iconst 0, 1) := by decide +kernel
theorem dX12_proof_44 : decode cX12_proof 44 = .ok (.istore_n 2, 1) := by decide +kernel
theorem dX12_proof_45 : decode cX12_proof 45 = .ok (.iconst 0, 1) := by decide +kernel
theorem dX12_proof_46 : decode cX12_proof 46 = .ok (.istore_n 3, 1) := by decide +kernel
theorem dX12_proof_47 : decode cX12_proof 47 = .ok (.iload_n 3, 1) := by decide +kernel
theorem dX12_proof_48 : decode cX12_proof 48 = .ok (.aload_n 0, 1) := by decide +kernel
theorem dX12_proof_49 : decode cX12_proof 49 = .ok (.getfield 13, 3) := by decide +kernel
theorem dX12_proof_52 : decode cX12_proof 52 = .ok (.bipush 52, 2) := by decide +kernel
theorem dX12_proof_54 : decode cX12_proof 54 = .ok (.iaload, 1) := by decide +kernel
theorem dX12_proof_55 : decode cX12_proof 55 = .ok (.if_icmp .ge 36, 3) := by decide +kernel
theorem dX12_proof_58 : decode cX12_proof 58 = .ok (.iload_n 2, 1) := by decide +kernel
theorem dX12_proof_59 : decode cX12_proof 59 = .ok (.aload_n 0, 1) := by decide +kernel
theorem dX12_proof_60 : decode cX12_proof 60 = .ok (.getfield 429, 3) := by decide +kernel
theorem dX12_proof_63 : decode cX12_proof 63 = .ok (.iload_n 3, 1) := by decide +kernel
theorem dX12_proof_64 : decode cX12_proof 64 = .ok (.invokestatic 263, 3) := by decide +kernel
theorem dX12_proof_67 : decode cX12_proof 67 = .ok (.ifCond .eq 15, 3) := by decide +kernel
theorem dX12_proof_70 : decode cX12_proof 70 = .ok (.aload_n 0, 1) := by decide +kernel
theorem dX12_proof_71 : decode cX12_proof 71 = .ok (.getfield 42, 3) := by decide +kernel
theorem dX12_proof_74 : decode cX12_proof 74 = .ok (.iload_n 3, 1) := by decide +kernel
theorem dX12_proof_75 : decode cX12_proof 75 = .ok (.iaload, 1) := by decide +kernel
theorem dX12_proof_76 : decode cX12_proof 76 = .ok (.invokestatic 400, 3) := by decide +kernel
theorem dX12_proof_79 : decode cX12_proof 79 = .ok (.goto 4, 3) := by decide +kernel
theorem dX12_proof_82 : decode cX12_proof 82 = .ok (.iconst 0, 1) := by decide +kernel
theorem dX12_proof_83 : decode cX12_proof 83 = .ok (.iadd, 1) := by decide +kernel
theorem dX12_proof_84 : decode cX12_proof 84 = .ok (.istore_n 2, 1) := by decide +kernel
theorem dX12_proof_85 : decode cX12_proof 85 = .ok (.iinc 3 1, 3) := by decide +kernel
theorem dX12_proof_88 : decode cX12_proof 88 = .ok (.goto (-41), 3) := by decide +kernel
theorem dX12_proof_91 : decode cX12_proof 91 = .ok (.iload_n 2, 1) := by decide +kernel
theorem dX12_proof_92 : decode cX12_proof 92 = .ok (.ireturn, 1) := by decide +kernel
theorem bX12_proof_0 {d : Nat} {P : Int → q_Mem → Prop} {M : q_Mem} (x1 : Int) (h : (∀ M1 : q_Mem, M1 = q_up M 178 0 0 → q_kI yX12_within mX12_within d [qL x1, qL 0, qL 1] M1 (fun v3 M2 => ((¬ v3 = 0) → q_kI yX12_laysPairs mX12_laysPairs d [qR 178, qI 1] M2 (fun v5 M4 => ((¬ v5 = 0) → ((¬ x1 = 0) → q_v mX12_proof d (qPI P) M4 47 [some (qR 178), none, some (qI 0), some (qI 0)] []) ∧ ((x1 = 0) → q_kI yX12_goodLinks mX12_goodLinks d [qR 178, qI 1] M4 (fun v7 M6 => q_kI yX12_weightsOf mX12_weightsOf d [qR 178, qI v7] M6 (fun v9 M8 => P v9 M8)))) ∧ ((v5 = 0) → P (-5) M4))) ∧ ((v3 = 0) → P (-2) M2)))) : q_v mX12_proof d (qPI P) M 0 [some (qR 178), some (qI x1), none, none] [] := by
  refine qr_aload_n 0 1 rfl (x := 178) rfl dX12_proof_0 ?_
  refine qr_iconst 1 2 rfl (q_l32 _ rfl) dX12_proof_1 ?_
  refine qp_i 2 5 rfl ck12 0 (kk := 0) (by decide) (by decide +kernel) (by decide) rfl rfl wm_1326 rfl dX12_proof_2 (fun M1 e_M1 => ?_)
  have h := h M1 e_M1
  refine qr_iload_n 5 6 rfl (x := x1) rfl dX12_proof_5 ?_
  refine qr_i2l 6 7 rfl dX12_proof_6 ?_
  refine qr_lconst 7 8 rfl (w := 0) (q_l64 _ rfl) (by decide) dX12_proof_7 ?_
  refine qr_lconst 8 9 rfl (w := 1) (q_l64 _ rfl) (by decide) dX12_proof_8 ?_
  refine qs_I 9 12 rfl (av := [qL x1, qL 0, qL 1]) ca_X12_within wm_1481 wm_1480 rfl rfl (Nat.le_of_ble_eq_true rfl) dX12_proof_9 h (fun v3 M2 h => ?_)
  refine qr_if_ne 12 15 18 rfl (by decide) dX12_proof_12 (fun c12 => ?_) (fun c12 => ?_)
  · have h := h.1 c12
    refine qr_aload_n 18 19 rfl (x := 178) rfl dX12_proof_18 ?_
    refine qr_iconst 19 20 rfl (q_l32 _ rfl) dX12_proof_19 ?_
    refine qw_I 20 23 rfl (av := [qI 1]) ca_X12_laysPairs wm_1735 wp_119 wm_1733 ck12 (by decide +kernel) rfl rfl (Nat.le_of_ble_eq_true rfl) dX12_proof_20 h (fun v5 M4 h => ?_)
    refine qr_if_ne 23 26 29 rfl (by decide) dX12_proof_23 (fun c23 => ?_) (fun c23 => ?_)
    · have h := h.1 c23
      refine qr_iload_n 29 30 rfl (x := x1) rfl dX12_proof_29 ?_
      refine qr_if_ne 30 33 43 rfl (by decide) dX12_proof_30 (fun c30 => ?_) (fun c30 => ?_)
      · have h := h.1 c30
        refine qr_iconst 43 44 rfl (q_l32 _ rfl) dX12_proof_43 ?_
        refine qr_istore_n 44 45 rfl (by decide) rfl rfl dX12_proof_44 ?_
        refine qr_iconst 45 46 rfl (q_l32 _ rfl) dX12_proof_45 ?_
        refine qr_istore_n 46 47 rfl (by decide) rfl rfl dX12_proof_46 ?_
        exact qr_cut 47 (ls' := [some (qR 178), none, some (qI 0), some (qI 0)]) (And.intro rfl (And.intro rfl (And.intro rfl trivial))) h
      · have h := h.2 c30
        refine qr_aload_n 33 34 rfl (x := 178) rfl dX12_proof_33 ?_
        refine qr_aload_n 34 35 rfl (x := 178) rfl dX12_proof_34 ?_
        refine qr_iconst 35 36 rfl (q_l32 _ rfl) dX12_proof_35 ?_
        refine qw_I 36 39 rfl (av := [qI 1]) ca_X12_goodLinks wm_1783 wp_129 wm_1781 ck12 (by decide +kernel) rfl rfl (Nat.le_of_ble_eq_true rfl) dX12_proof_36 h (fun v7 M6 h => ?_)
        refine qw_I 39 42 rfl (av := [qI v7]) ca_X12_weightsOf wm_1907 wp_142 wm_1905 ck12 (by decide +kernel) rfl rfl (Nat.le_of_ble_eq_true rfl) dX12_proof_39 h (fun v9 M8 h => ?_)
        exact qe_i 42 rfl dX12_proof_42 h
    · have h := h.2 c23
      refine qr_bipush 26 28 rfl (q_l32 _ rfl) (by decide) dX12_proof_26 ?_
      exact qe_i 28 rfl dX12_proof_28 h
  · have h := h.2 c12
    refine qr_bipush 15 17 rfl (q_l32 _ rfl) (by decide) dX12_proof_15 ?_
    exact qe_i 17 rfl dX12_proof_17 h
theorem bX12_proof_47 {d : Nat} {P : Int → q_Mem → Prop} {M : q_Mem} (x2 x3 : Int) (h : ((((M 179 52) ≤ x3) → P x2 M) ∧ ((¬ ((M 179 52) ≤ x3)) → q_kI yX12_isIn mX12_isIn d [qI (M 178 35), qI x3] M (fun v2 M1 => ((v2 = 0) → ∀ x2_3 : Int, x2_3 = (q_add x2 0) → q_v mX12_proof d (qPI P) M1 47 [some (qR 178), none, some (qI x2_3), some (qI (q_add x3 1))] []) ∧ ((¬ (v2 = 0)) → (0 ≤ x3 ∧ x3 < (16 : Int)) ∧ (q_kI yX12_signOff mX12_signOff d [qI (M1 187 x3)] M1 (fun v6 M5 => ∀ x2_7 : Int, x2_7 = (q_add x2 v6) → q_v mX12_proof d (qPI P) M5 47 [some (qR 178), none, some (qI x2_7), some (qI (q_add x3 1))] []))))))) : q_v mX12_proof d (qPI P) M 47 [some (qR 178), none, some (qI x2), some (qI x3)] [] := by
  refine qr_iload_n 47 48 rfl (x := x3) rfl dX12_proof_47 ?_
  refine qr_aload_n 48 49 rfl (x := 178) rfl dX12_proof_48 ?_
  refine qr_getF 49 52 rfl ck12 1 (by decide) (b := 179) (by decide +kernel) rfl (by decide +kernel) (by decide +kernel) wm_1327 rfl dX12_proof_49 ?_
  refine qr_bipush 52 54 rfl (q_l32 _ rfl) (by decide) dX12_proof_52 ?_
  refine qi_ld 54 55 rfl (N := 4512) (by decide +kernel) (by decide +kernel) (by decide) (by decide) dX12_proof_54 ?_
  refine qr_icmp_ge 55 58 91 rfl (by decide) dX12_proof_55 (fun c55 => ?_) (fun c55 => ?_)
  · have h := h.1 c55
    refine qr_iload_n 91 92 rfl (x := x2) rfl dX12_proof_91 ?_
    exact qe_i 92 rfl dX12_proof_92 h
  · have h := h.2 c55
    refine qr_iload_n 58 59 rfl (x := x2) rfl dX12_proof_58 ?_
    refine qr_aload_n 59 60 rfl (x := 178) rfl dX12_proof_59 ?_
    refine qg_i 60 63 rfl ck12 35 (kk := 35) (by decide) (by decide +kernel) (by decide +kernel) rfl wm_1361 rfl dX12_proof_60 ?_
    refine qr_iload_n 63 64 rfl (x := x3) rfl dX12_proof_63 ?_
    refine qs_I 64 67 rfl (av := [qI (M 178 35), qI x3]) ca_X12_isIn wm_1694 wm_1693 rfl rfl (Nat.le_of_ble_eq_true rfl) dX12_proof_64 h (fun v2 M1 h => ?_)
    refine qr_if_eq 67 70 82 rfl (by decide) dX12_proof_67 (fun c67 => ?_) (fun c67 => ?_)
    · have h := h.1 c67
      refine qr_iconst 82 83 rfl (q_l32 _ rfl) dX12_proof_82 ?_
      refine qr_iadd 83 84 rfl dX12_proof_83 ?_
      refine qn_i 84 (fun x2_3 e_x2_3 => ?_)
      have h := h x2_3 e_x2_3
      refine qr_istore_n 84 85 rfl (by decide) rfl rfl dX12_proof_84 ?_
      refine qr_iinc 85 88 rfl (by decide) (x := x3) rfl rfl rfl dX12_proof_85 ?_
      refine qr_goto 88 47 (by decide) dX12_proof_88 ?_
      exact h
    · have h := h.2 c67
      refine qr_aload_n 70 71 rfl (x := 178) rfl dX12_proof_70 ?_
      refine qr_getF 71 74 rfl ck12 19 (by decide) (b := 187) (by decide +kernel) rfl (by decide +kernel) (by decide +kernel) wm_1345 rfl dX12_proof_71 ?_
      refine qr_iload_n 74 75 rfl (x := x3) rfl dX12_proof_74 ?_
      have hb4 := h.1
      have h := h.2
      refine qi_ld 75 76 rfl (N := 16) (by decide +kernel) (by decide +kernel) hb4.1 hb4.2 dX12_proof_75 ?_
      refine qs_I 76 79 rfl (av := [qI (M1 187 x3)]) ca_X12_signOff wm_1751 wm_1750 rfl rfl (Nat.le_of_ble_eq_true rfl) dX12_proof_76 h (fun v6 M5 h => ?_)
      refine qr_goto 79 83 (by decide) dX12_proof_79 ?_
      refine qr_iadd 83 84 rfl dX12_proof_83 ?_
      refine qn_i 84 (fun x2_7 e_x2_7 => ?_)
      have h := h x2_7 e_x2_7
      refine qr_istore_n 84 85 rfl (by decide) rfl rfl dX12_proof_84 ?_
      refine qr_iinc 85 88 rfl (by decide) (x := x3) rfl rfl rfl dX12_proof_85 ?_
      refine qr_goto 88 47 (by decide) dX12_proof_88 ?_
      exact h
theorem dX12_cutTold_0 : decode cX12_cutTold 0 = .ok (.iload_n 2, 1) := by decide +kernel
theorem dX12_cutTold_1 : decode cX12_cutTold 1 = .ok (.i2l, 1) := by decide +kernel
theorem dX12_cutTold_2 : decode cX12_cutTold 2 = .ok (.lconst 0, 1) := by decide +kernel
theorem dX12_cutTold_3 : decode cX12_cutTold 3 = .ok (.ldc2_w 444, 3) := by decide +kernel
theorem dX12_cutTold_6 : decode cX12_cutTold 6 = .ok (.invokestatic 176, 3) := by decide +kernel
theorem dX12_cutTold_9 : decode cX12_cutTold 9 = .ok (.ifCond .ne 7, 3) := by decide +kernel
theorem dX12_cutTold_12 : decode cX12_cutTold 12 = .ok (.ldc_w 302, 3) := by decide +kernel
theorem dX12_cutTold_15 : decode cX12_cutTold 15 = .ok (.ireturn, 1) := by decide +kernel
theorem dX12_cutTold_16 : decode cX12_cutTold 16 = .ok (.aload_n 0, 1) := by decide +kernel
theorem dX12_cutTold_17 : decode cX12_cutTold 17 = .ok (.iload_n 1, 1) := by decide +kernel
theorem dX12_cutTold_18 : decode cX12_cutTold 18 = .ok (.invokevirtual 335, 3) := by decide +kernel
theorem dX12_cutTold_21 : decode cX12_cutTold 21 = .ok (.ifCond .ne 7, 3) := by decide +kernel
theorem dX12_cutTold_24 : decode cX12_cutTold 24 = .ok (.ldc_w 446, 3) := by decide +kernel
theorem dX12_cutTold_27 : decode cX12_cutTold 27 = .ok (.ireturn, 1) := by decide +kernel
theorem dX12_cutTold_28 : decode cX12_cutTold 28 = .ok (.aload_n 0, 1) := by decide +kernel
theorem dX12_cutTold_29 : decode cX12_cutTold 29 = .ok (.iload_n 1, 1) := by decide +kernel
theorem dX12_cutTold_30 : decode cX12_cutTold 30 = .ok (.invokevirtual 338, 3) := by decide +kernel
theorem dX12_cutTold_33 : decode cX12_cutTold 33 = .ok (.istore_n 3, 1) := by decide +kernel
theorem dX12_cutTold_34 : decode cX12_cutTold 34 = .ok (.iload_n 2, 1) := by decide +kernel
theorem dX12_cutTold_35 : decode cX12_cutTold 35 = .ok (.ifCond .ne 11, 3) := by decide +kernel
theorem dX12_cutTold_38 : decode cX12_cutTold 38 = .ok (.aload_n 0, 1) := by decide +kernel
theorem dX12_cutTold_39 : decode cX12_cutTold 39 = .ok (.iload_n 3, 1) := by decide +kernel
theorem dX12_cutTold_40 : decode cX12_cutTold 40 = .ok (.invokevirtual 441, 3) := by decide +kernel
theorem dX12_cutTold_43 : decode cX12_cutTold 43 = .ok (.goto 17, 3) := by decide +kernel
theorem dX12_cutTold_46 : decode cX12_cutTold 46 = .ok (.iload_n 2, 1) := by decide +kernel
theorem dX12_cutTold_47 : decode cX12_cutTold 47 = .ok (.iconst 1, 1) := by decide +kernel
theorem dX12_cutTold_48 : decode cX12_cutTold 48 = .ok (.if_icmp .ne 7, 3) := by decide +kernel
theorem dX12_cutTold_51 : decode cX12_cutTold 51 = .ok (.iload_n 3, 1) := by decide +kernel
theorem dX12_cutTold_52 : decode cX12_cutTold 52 = .ok (.goto 8, 3) := by decide +kernel
theorem dX12_cutTold_55 : decode cX12_cutTold 55 = .ok (.aload_n 0, 1) := by decide +kernel
theorem dX12_cutTold_56 : decode cX12_cutTold 56 = .ok (.iload_n 3, 1) := by decide +kernel
theorem dX12_cutTold_57 : decode cX12_cutTold 57 = .ok (.invokevirtual 341, 3) := by decide +kernel
theorem dX12_cutTold_60 : decode cX12_cutTold 60 = .ok (.ireturn, 1) := by decide +kernel
theorem bX12_cutTold_0 {d : Nat} {P : Int → q_Mem → Prop} {M : q_Mem} (x1 x2 : Int) (h : q_kI yX12_within mX12_within d [qL x2, qL 0, qL 2] M (fun v2 M1 => ((¬ v2 = 0) → q_kI yX12_laysPairs mX12_laysPairs d [qR 178, qI x1] M1 (fun v4 M3 => ((¬ v4 = 0) → q_kI yX12_cutOf mX12_cutOf d [qR 178, qI x1] M3 (fun v6 M5 => ((¬ x2 = 0) → ((¬ x2 = (1 : Int)) → q_kI yX12_sidesOf mX12_sidesOf d [qR 178, qI v6] M5 (fun v8 M7 => P v8 M7)) ∧ ((x2 = (1 : Int)) → P v6 M5)) ∧ ((x2 = 0) → q_kI yX12_weightsOf mX12_weightsOf d [qR 178, qI v6] M5 (fun v10 M9 => P v10 M9)))) ∧ ((v4 = 0) → P (-99000005) M3))) ∧ ((v2 = 0) → P (-99000002) M1))) : q_v mX12_cutTold d (qPI P) M 0 [some (qR 178), some (qI x1), some (qI x2), none] [] := by
  refine qr_iload_n 0 1 rfl (x := x2) rfl dX12_cutTold_0 ?_
  refine qr_i2l 1 2 rfl dX12_cutTold_1 ?_
  refine qr_lconst 2 3 rfl (w := 0) (q_l64 _ rfl) (by decide) dX12_cutTold_2 ?_
  refine qr_ldc2 3 6 rfl (v := 2) (q_l64 _ rfl) wm_1917 dX12_cutTold_3 ?_
  refine qs_I 6 9 rfl (av := [qL x2, qL 0, qL 2]) ca_X12_within wm_1481 wm_1480 rfl rfl (Nat.le_of_ble_eq_true rfl) dX12_cutTold_6 h (fun v2 M1 h => ?_)
  refine qr_if_ne 9 12 16 rfl (by decide) dX12_cutTold_9 (fun c9 => ?_) (fun c9 => ?_)
  · have h := h.1 c9
    refine qr_aload_n 16 17 rfl (x := 178) rfl dX12_cutTold_16 ?_
    refine qr_iload_n 17 18 rfl (x := x1) rfl dX12_cutTold_17 ?_
    refine qw_I 18 21 rfl (av := [qI x1]) ca_X12_laysPairs wm_1735 wp_119 wm_1733 ck12 (by decide +kernel) rfl rfl (Nat.le_of_ble_eq_true rfl) dX12_cutTold_18 h (fun v4 M3 h => ?_)
    refine qr_if_ne 21 24 28 rfl (by decide) dX12_cutTold_21 (fun c21 => ?_) (fun c21 => ?_)
    · have h := h.1 c21
      refine qr_aload_n 28 29 rfl (x := 178) rfl dX12_cutTold_28 ?_
      refine qr_iload_n 29 30 rfl (x := x1) rfl dX12_cutTold_29 ?_
      refine qw_I 30 33 rfl (av := [qI x1]) ca_X12_cutOf wm_1779 wp_128 wm_1777 ck12 (by decide +kernel) rfl rfl (Nat.le_of_ble_eq_true rfl) dX12_cutTold_30 h (fun v6 M5 h => ?_)
      refine qr_istore_n 33 34 rfl (by decide) rfl rfl dX12_cutTold_33 ?_
      refine qr_iload_n 34 35 rfl (x := x2) rfl dX12_cutTold_34 ?_
      refine qr_if_ne 35 38 46 rfl (by decide) dX12_cutTold_35 (fun c35 => ?_) (fun c35 => ?_)
      · have h := h.1 c35
        refine qr_iload_n 46 47 rfl (x := x2) rfl dX12_cutTold_46 ?_
        refine qr_iconst 47 48 rfl (q_l32 _ rfl) dX12_cutTold_47 ?_
        refine qr_icmp_ne 48 51 55 rfl (by decide) dX12_cutTold_48 (fun c48 => ?_) (fun c48 => ?_)
        · have h := h.1 c48
          refine qr_aload_n 55 56 rfl (x := 178) rfl dX12_cutTold_55 ?_
          refine qr_iload_n 56 57 rfl (x := v6) rfl dX12_cutTold_56 ?_
          refine qw_I 57 60 rfl (av := [qI v6]) ca_X12_sidesOf wm_1787 wp_130 wm_1785 ck12 (by decide +kernel) rfl rfl (Nat.le_of_ble_eq_true rfl) dX12_cutTold_57 h (fun v8 M7 h => ?_)
          exact qe_i 60 rfl dX12_cutTold_60 h
        · have h := h.2 c48
          refine qr_iload_n 51 52 rfl (x := v6) rfl dX12_cutTold_51 ?_
          refine qr_goto 52 60 (by decide) dX12_cutTold_52 ?_
          exact qe_i 60 rfl dX12_cutTold_60 h
      · have h := h.2 c35
        refine qr_aload_n 38 39 rfl (x := 178) rfl dX12_cutTold_38 ?_
        refine qr_iload_n 39 40 rfl (x := v6) rfl dX12_cutTold_39 ?_
        refine qw_I 40 43 rfl (av := [qI v6]) ca_X12_weightsOf wm_1907 wp_142 wm_1905 ck12 (by decide +kernel) rfl rfl (Nat.le_of_ble_eq_true rfl) dX12_cutTold_40 h (fun v10 M9 h => ?_)
        refine qr_goto 43 60 (by decide) dX12_cutTold_43 ?_
        exact qe_i 60 rfl dX12_cutTold_60 h
    · have h := h.2 c21
      refine qr_ldc_w 24 27 rfl (v := (-99000005)) (q_l32 _ rfl) wm_1918 dX12_cutTold_24 ?_
      exact qe_i 27 rfl dX12_cutTold_27 h
  · have h := h.2 c9
    refine qr_ldc_w 12 15 rfl (v := (-99000002)) (q_l32 _ rfl) wm_1649 dX12_cutTold_12 ?_
    exact qe_i 15 rfl dX12_cutTold_15 h
theorem dX12_greatest_0 : decode cX12_greatest 0 = .ok (.aload_n 0, 1) := by decide +kernel
theorem dX12_greatest_1 : decode cX12_greatest 1 = .ok (.iconst 0, 1) := by decide +kernel
theorem dX12_greatest_2 : decode cX12_greatest 2 = .ok (.putfield 1, 3) := by decide +kernel
theorem dX12_greatest_5 : decode cX12_greatest 5 = .ok (.aload_n 0, 1) := by decide +kernel
theorem dX12_greatest_6 : decode cX12_greatest 6 = .ok (.iconst 1, 1) := by decide +kernel
theorem dX12_greatest_7 : decode cX12_greatest 7 = .ok (.iload_n 1, 1) := by decide +kernel
theorem dX12_greatest_8 : decode cX12_greatest 8 = .ok (.invokevirtual 447, 3) := by decide +kernel
theorem dX12_greatest_11 : decode cX12_greatest 11 = .ok (.ireturn, 1) := by decide +kernel
theorem bX12_greatest_0 {d : Nat} {P : Int → q_Mem → Prop} {M : q_Mem} (x1 : Int) (h : (∀ M1 : q_Mem, M1 = q_up M 178 0 0 → q_kI yX12_cutTold mX12_cutTold d [qR 178, qI 1, qI x1] M1 (fun v3 M2 => P v3 M2))) : q_v mX12_greatest d (qPI P) M 0 [some (qR 178), some (qI x1)] [] := by
  refine qr_aload_n 0 1 rfl (x := 178) rfl dX12_greatest_0 ?_
  refine qr_iconst 1 2 rfl (q_l32 _ rfl) dX12_greatest_1 ?_
  refine qp_i 2 5 rfl ck12 0 (kk := 0) (by decide) (by decide +kernel) (by decide) rfl rfl wm_1326 rfl dX12_greatest_2 (fun M1 e_M1 => ?_)
  have h := h M1 e_M1
  refine qr_aload_n 5 6 rfl (x := 178) rfl dX12_greatest_5 ?_
  refine qr_iconst 6 7 rfl (q_l32 _ rfl) dX12_greatest_6 ?_
  refine qr_iload_n 7 8 rfl (x := x1) rfl dX12_greatest_7 ?_
  refine qw_I 8 11 rfl (av := [qI 1, qI x1]) ca_X12_cutTold wm_1915 wp_143 wm_1913 ck12 (by decide +kernel) rfl rfl (Nat.le_of_ble_eq_true rfl) dX12_greatest_8 h (fun v3 M2 h => ?_)
  exact qe_i 11 rfl dX12_greatest_11 h
theorem dX12_least_0 : decode cX12_least 0 = .ok (.aload_n 0, 1) := by decide +kernel
theorem dX12_least_1 : decode cX12_least 1 = .ok (.iconst 0, 1) := by decide +kernel
theorem dX12_least_2 : decode cX12_least 2 = .ok (.putfield 1, 3) := by decide +kernel
theorem dX12_least_5 : decode cX12_least 5 = .ok (.aload_n 0, 1) := by decide +kernel
theorem dX12_least_6 : decode cX12_least 6 = .ok (.iconst (-1), 1) := by decide +kernel
theorem dX12_least_7 : decode cX12_least 7 = .ok (.iload_n 1, 1) := by decide +kernel
theorem dX12_least_8 : decode cX12_least 8 = .ok (.invokevirtual 447, 3) := by decide +kernel
theorem dX12_least_11 : decode cX12_least 11 = .ok (.ireturn, 1) := by decide +kernel
theorem bX12_least_0 {d : Nat} {P : Int → q_Mem → Prop} {M : q_Mem} (x1 : Int) (h : (∀ M1 : q_Mem, M1 = q_up M 178 0 0 → q_kI yX12_cutTold mX12_cutTold d [qR 178, qI (-1), qI x1] M1 (fun v3 M2 => P v3 M2))) : q_v mX12_least d (qPI P) M 0 [some (qR 178), some (qI x1)] [] := by
  refine qr_aload_n 0 1 rfl (x := 178) rfl dX12_least_0 ?_
  refine qr_iconst 1 2 rfl (q_l32 _ rfl) dX12_least_1 ?_
  refine qp_i 2 5 rfl ck12 0 (kk := 0) (by decide) (by decide +kernel) (by decide) rfl rfl wm_1326 rfl dX12_least_2 (fun M1 e_M1 => ?_)
  have h := h M1 e_M1
  refine qr_aload_n 5 6 rfl (x := 178) rfl dX12_least_5 ?_
  refine qr_iconst 6 7 rfl (q_l32 _ rfl) dX12_least_6 ?_
  refine qr_iload_n 7 8 rfl (x := x1) rfl dX12_least_7 ?_
  refine qw_I 8 11 rfl (av := [qI (-1), qI x1]) ca_X12_cutTold wm_1915 wp_143 wm_1913 ck12 (by decide +kernel) rfl rfl (Nat.le_of_ble_eq_true rfl) dX12_least_8 h (fun v3 M2 h => ?_)
  exact qe_i 11 rfl dX12_least_11 h
theorem dX12_worth_0 : decode cX12_worth 0 = .ok (.aload_n 0, 1) := by decide +kernel
theorem dX12_worth_1 : decode cX12_worth 1 = .ok (.iconst 0, 1) := by decide +kernel
theorem dX12_worth_2 : decode cX12_worth 2 = .ok (.putfield 1, 3) := by decide +kernel
theorem dX12_worth_5 : decode cX12_worth 5 = .ok (.aload_n 0, 1) := by decide +kernel
theorem dX12_worth_6 : decode cX12_worth 6 = .ok (.invokevirtual 317, 3) := by decide +kernel
theorem dX12_worth_9 : decode cX12_worth 9 = .ok (.ireturn, 1) := by decide +kernel
theorem bX12_worth_0 {d : Nat} {P : Int → q_Mem → Prop} {M : q_Mem} (h : (∀ M1 : q_Mem, M1 = q_up M 178 0 0 → q_kI yX12_worthNow mX12_worthNow d [qR 178] M1 (fun v3 M2 => P v3 M2))) : q_v mX12_worth d (qPI P) M 0 [some (qR 178)] [] := by
  refine qr_aload_n 0 1 rfl (x := 178) rfl dX12_worth_0 ?_
  refine qr_iconst 1 2 rfl (q_l32 _ rfl) dX12_worth_1 ?_
  refine qp_i 2 5 rfl ck12 0 (kk := 0) (by decide) (by decide +kernel) (by decide) rfl rfl wm_1326 rfl dX12_worth_2 (fun M1 e_M1 => ?_)
  have h := h M1 e_M1
  refine qr_aload_n 5 6 rfl (x := 178) rfl dX12_worth_5 ?_
  refine qw_I 6 9 rfl (av := []) ca_X12_worthNow wm_1683 wp_111 wm_1681 ck12 (by decide +kernel) rfl rfl (Nat.le_of_ble_eq_true rfl) dX12_worth_6 h (fun v3 M2 h => ?_)
  exact qe_i 9 rfl dX12_worth_9 h
theorem dX12_gain_0 : decode cX12_gain 0 = .ok (.aload_n 0, 1) := by decide +kernel
theorem dX12_gain_1 : decode cX12_gain 1 = .ok (.iconst 0, 1) := by decide +kernel
theorem dX12_gain_2 : decode cX12_gain 2 = .ok (.putfield 1, 3) := by decide +kernel
theorem dX12_gain_5 : decode cX12_gain 5 = .ok (.aload_n 0, 1) := by decide +kernel
theorem dX12_gain_6 : decode cX12_gain 6 = .ok (.iload_n 1, 1) := by decide +kernel
theorem dX12_gain_7 : decode cX12_gain 7 = .ok (.i2l, 1) := by decide +kernel
theorem dX12_gain_8 : decode cX12_gain 8 = .ok (.invokevirtual 303, 3) := by decide +kernel
theorem dX12_gain_11 : decode cX12_gain 11 = .ok (.ifCond .ne 7, 3) := by decide +kernel
theorem dX12_gain_14 : decode cX12_gain 14 = .ok (.ldc_w 302, 3) := by decide +kernel
theorem dX12_gain_17 : decode cX12_gain 17 = .ok (.ireturn, 1) := by decide +kernel
theorem dX12_gain_18 : decode cX12_gain 18 = .ok (.aload_n 0, 1) := by decide +kernel
theorem dX12_gain_19 : decode cX12_gain 19 = .ok (.invokevirtual 266, 3) := by decide +kernel
theorem dX12_gain_22 : decode cX12_gain 22 = .ok (.aload_n 0, 1) := by decide +kernel
theorem dX12_gain_23 : decode cX12_gain 23 = .ok (.aload_n 0, 1) := by decide +kernel
theorem dX12_gain_24 : decode cX12_gain 24 = .ok (.getfield 13, 3) := by decide +kernel
theorem dX12_gain_27 : decode cX12_gain 27 = .ok (.iconst 2, 1) := by decide +kernel
theorem dX12_gain_28 : decode cX12_gain 28 = .ok (.iaload, 1) := by decide +kernel
theorem dX12_gain_29 : decode cX12_gain 29 = .ok (.iload_n 1, 1) := by decide +kernel
theorem dX12_gain_30 : decode cX12_gain 30 = .ok (.invokevirtual 332, 3) := by decide +kernel
theorem dX12_gain_33 : decode cX12_gain 33 = .ok (.ireturn, 1) := by decide +kernel
theorem bX12_gain_0 {d : Nat} {P : Int → q_Mem → Prop} {M : q_Mem} (x1 : Int) (h : (∀ M1 : q_Mem, M1 = q_up M 178 0 0 → q_kI yX12_isNode mX12_isNode d [qR 178, qL x1] M1 (fun v3 M2 => ((¬ v3 = 0) → q_kU yX12_laysWeights mX12_laysWeights d [qR 178] M2 (fun M4 => (q_kI yX12_gainOf mX12_gainOf d [qR 178, qI (M4 179 2), qI x1] M4 (fun v6 M5 => P v6 M5)))) ∧ ((v3 = 0) → P (-99000002) M2)))) : q_v mX12_gain d (qPI P) M 0 [some (qR 178), some (qI x1)] [] := by
  refine qr_aload_n 0 1 rfl (x := 178) rfl dX12_gain_0 ?_
  refine qr_iconst 1 2 rfl (q_l32 _ rfl) dX12_gain_1 ?_
  refine qp_i 2 5 rfl ck12 0 (kk := 0) (by decide) (by decide +kernel) (by decide) rfl rfl wm_1326 rfl dX12_gain_2 (fun M1 e_M1 => ?_)
  have h := h M1 e_M1
  refine qr_aload_n 5 6 rfl (x := 178) rfl dX12_gain_5 ?_
  refine qr_iload_n 6 7 rfl (x := x1) rfl dX12_gain_6 ?_
  refine qr_i2l 7 8 rfl dX12_gain_7 ?_
  refine qw_I 8 11 rfl (av := [qL x1]) ca_X12_isNode wm_1656 wp_108 wm_1654 ck12 (by decide +kernel) rfl rfl (Nat.le_of_ble_eq_true rfl) dX12_gain_8 h (fun v3 M2 h => ?_)
  refine qr_if_ne 11 14 18 rfl (by decide) dX12_gain_11 (fun c11 => ?_) (fun c11 => ?_)
  · have h := h.1 c11
    refine qr_aload_n 18 19 rfl (x := 178) rfl dX12_gain_18 ?_
    refine qw_U 19 22 rfl (av := []) ca_X12_laysWeights wm_1687 wp_112 wm_1685 ck12 (by decide +kernel) rfl rfl (Nat.le_of_ble_eq_true rfl) dX12_gain_19 h (fun M4 h => ?_)
    refine qr_aload_n 22 23 rfl (x := 178) rfl dX12_gain_22 ?_
    refine qr_aload_n 23 24 rfl (x := 178) rfl dX12_gain_23 ?_
    refine qr_getF 24 27 rfl ck12 1 (by decide) (b := 179) (by decide +kernel) rfl (by decide +kernel) (by decide +kernel) wm_1327 rfl dX12_gain_24 ?_
    refine qr_iconst 27 28 rfl (q_l32 _ rfl) dX12_gain_27 ?_
    refine qi_ld 28 29 rfl (N := 4512) (by decide +kernel) (by decide +kernel) (by decide) (by decide) dX12_gain_28 ?_
    refine qr_iload_n 29 30 rfl (x := x1) rfl dX12_gain_29 ?_
    refine qw_I 30 33 rfl (av := [qI (M4 179 2), qI x1]) ca_X12_gainOf wm_1727 wp_118 wm_1725 ck12 (by decide +kernel) rfl rfl (Nat.le_of_ble_eq_true rfl) dX12_gain_30 h (fun v6 M5 h => ?_)
    exact qe_i 33 rfl dX12_gain_33 h
  · have h := h.2 c11
    refine qr_ldc_w 14 17 rfl (v := (-99000002)) (q_l32 _ rfl) wm_1649 dX12_gain_14 ?_
    exact qe_i 17 rfl dX12_gain_17 h
theorem dX12_laysWorths_0 : decode cX12_laysWorths 0 = .ok (.aload_n 0, 1) := by decide +kernel
theorem dX12_laysWorths_1 : decode cX12_laysWorths 1 = .ok (.invokevirtual 266, 3) := by decide +kernel
theorem dX12_laysWorths_4 : decode cX12_laysWorths 4 = .ok (.aload_n 0, 1) := by decide +kernel
theorem dX12_laysWorths_5 : decode cX12_laysWorths 5 = .ok (.iconst 1, 1) := by decide +kernel
theorem dX12_laysWorths_6 : decode cX12_laysWorths 6 = .ok (.aload_n 0, 1) := by decide +kernel
theorem dX12_laysWorths_7 : decode cX12_laysWorths 7 = .ok (.getfield 13, 3) := by decide +kernel
theorem dX12_laysWorths_10 : decode cX12_laysWorths 10 = .ok (.bipush 51, 2) := by decide +kernel
theorem dX12_laysWorths_12 : decode cX12_laysWorths 12 = .ok (.iaload, 1) := by decide +kernel
theorem dX12_laysWorths_13 : decode cX12_laysWorths 13 = .ok (.ishl, 1) := by decide +kernel
theorem dX12_laysWorths_14 : decode cX12_laysWorths 14 = .ok (.putfield 450, 3) := by decide +kernel
theorem dX12_laysWorths_17 : decode cX12_laysWorths 17 = .ok (.aload_n 0, 1) := by decide +kernel
theorem dX12_laysWorths_18 : decode cX12_laysWorths 18 = .ok (.iconst 0, 1) := by decide +kernel
theorem dX12_laysWorths_19 : decode cX12_laysWorths 19 = .ok (.putfield 453, 3) := by decide +kernel
theorem dX12_laysWorths_22 : decode cX12_laysWorths 22 = .ok (.aload_n 0, 1) := by decide +kernel
theorem dX12_laysWorths_23 : decode cX12_laysWorths 23 = .ok (.iconst 0, 1) := by decide +kernel
theorem dX12_laysWorths_24 : decode cX12_laysWorths 24 = .ok (.putfield 456, 3) := by decide +kernel
theorem dX12_laysWorths_27 : decode cX12_laysWorths 27 = .ok (.iconst 0, 1) := by decide +kernel
theorem dX12_laysWorths_28 : decode cX12_laysWorths 28 = .ok (.istore_n 1, 1) := by decide +kernel
theorem dX12_laysWorths_29 : decode cX12_laysWorths 29 = .ok (.iload_n 1, 1) := by decide +kernel
theorem dX12_laysWorths_30 : decode cX12_laysWorths 30 = .ok (.aload_n 0, 1) := by decide +kernel
theorem dX12_laysWorths_31 : decode cX12_laysWorths 31 = .ok (.getfield 450, 3) := by decide +kernel
theorem dX12_laysWorths_34 : decode cX12_laysWorths 34 = .ok (.if_icmp .ge 80, 3) := by decide +kernel
theorem dX12_laysWorths_37 : decode cX12_laysWorths 37 = .ok (.aload_n 0, 1) := by decide +kernel
theorem dX12_laysWorths_38 : decode cX12_laysWorths 38 = .ok (.getfield 79, 3) := by decide +kernel
theorem dX12_laysWorths_41 : decode cX12_laysWorths 41 = .ok (.iload_n 1, 1) := by decide +kernel
theorem dX12_laysWorths_42 : decode cX12_laysWorths 42 = .ok (.aload_n 0, 1) := by decide +kernel
theorem dX12_laysWorths_43 : decode cX12_laysWorths 43 = .ok (.iload_n 1, 1) := by decide +kernel
theorem dX12_laysWorths_44 : decode cX12_laysWorths 44 = .ok (.invokevirtual 269, 3) := by decide +kernel
theorem dX12_laysWorths_47 : decode cX12_laysWorths 47 = .ok (.iastore, 1) := by decide +kernel
theorem dX12_laysWorths_48 : decode cX12_laysWorths 48 = .ok (.aload_n 0, 1) := by decide +kernel
theorem dX12_laysWorths_49 : decode cX12_laysWorths 49 = .ok (.aload_n 0, 1) := by decide +kernel
theorem dX12_laysWorths_50 : decode cX12_laysWorths 50 = .ok (.getfield 79, 3) := by decide +kernel
theorem dX12_laysWorths_53 : decode cX12_laysWorths 53 = .ok (.iload_n 1, 1) := by decide +kernel
theorem dX12_laysWorths_54 : decode cX12_laysWorths 54 = .ok (.iaload, 1) := by decide +kernel
theorem dX12_laysWorths_55 : decode cX12_laysWorths 55 = .ok (.aload_n 0, 1) := by decide +kernel
theorem dX12_laysWorths_56 : decode cX12_laysWorths 56 = .ok (.getfield 453, 3) := by decide +kernel
theorem dX12_laysWorths_59 : decode cX12_laysWorths 59 = .ok (.if_icmp .le 12, 3) := by decide +kernel
theorem dX12_laysWorths_62 : decode cX12_laysWorths 62 = .ok (.aload_n 0, 1) := by decide +kernel
theorem dX12_laysWorths_63 : decode cX12_laysWorths 63 = .ok (.getfield 79, 3) := by decide +kernel
theorem dX12_laysWorths_66 : decode cX12_laysWorths 66 = .ok (.iload_n 1, 1) := by decide +kernel
theorem dX12_laysWorths_67 : decode cX12_laysWorths 67 = .ok (.iaload, 1) := by decide +kernel
theorem dX12_laysWorths_68 : decode cX12_laysWorths 68 = .ok (.goto 7, 3) := by decide +kernel
theorem dX12_laysWorths_71 : decode cX12_laysWorths 71 = .ok (.aload_n 0, 1) := by decide +kernel
theorem dX12_laysWorths_72 : decode cX12_laysWorths 72 = .ok (.getfield 453, 3) := by decide +kernel
theorem dX12_laysWorths_75 : decode cX12_laysWorths 75 = .ok (.putfield 453, 3) := by decide +kernel
theorem dX12_laysWorths_78 : decode cX12_laysWorths 78 = .ok (.aload_n 0, 1) := by decide +kernel
theorem dX12_laysWorths_79 : decode cX12_laysWorths 79 = .ok (.aload_n 0, 1) := by decide +kernel
theorem dX12_laysWorths_80 : decode cX12_laysWorths 80 = .ok (.getfield 79, 3) := by decide +kernel
theorem dX12_laysWorths_83 : decode cX12_laysWorths 83 = .ok (.iload_n 1, 1) := by decide +kernel
theorem dX12_laysWorths_84 : decode cX12_laysWorths 84 = .ok (.iaload, 1) := by decide +kernel
theorem dX12_laysWorths_85 : decode cX12_laysWorths 85 = .ok (.aload_n 0, 1) := by decide +kernel
theorem dX12_laysWorths_86 : decode cX12_laysWorths 86 = .ok (.getfield 456, 3) := by decide +kernel
theorem dX12_laysWorths_89 : decode cX12_laysWorths 89 = .ok (.if_icmp .ge 12, 3) := by decide +kernel
theorem dX12_laysWorths_92 : decode cX12_laysWorths 92 = .ok (.aload_n 0, 1) := by decide +kernel
theorem dX12_laysWorths_93 : decode cX12_laysWorths 93 = .ok (.getfield 79, 3) := by decide +kernel
theorem dX12_laysWorths_96 : decode cX12_laysWorths 96 = .ok (.iload_n 1, 1) := by decide +kernel
theorem dX12_laysWorths_97 : decode cX12_laysWorths 97 = .ok (.iaload, 1) := by decide +kernel
theorem dX12_laysWorths_98 : decode cX12_laysWorths 98 = .ok (.goto 7, 3) := by decide +kernel
theorem dX12_laysWorths_101 : decode cX12_laysWorths 101 = .ok (.aload_n 0, 1) := by decide +kernel
theorem dX12_laysWorths_102 : decode cX12_laysWorths 102 = .ok (.getfield 456, 3) := by decide +kernel
theorem dX12_laysWorths_105 : decode cX12_laysWorths 105 = .ok (.putfield 456, 3) := by decide +kernel
theorem dX12_laysWorths_108 : decode cX12_laysWorths 108 = .ok (.iinc 1 1, 3) := by decide +kernel
theorem dX12_laysWorths_111 : decode cX12_laysWorths 111 = .ok (.goto (-82), 3) := by decide +kernel
theorem dX12_laysWorths_114 : decode cX12_laysWorths 114 = .ok (.return_, 1) := by decide +kernel
theorem bX12_laysWorths_0 {d : Nat} {P : q_Mem → Prop} {M : q_Mem} (h : q_kU yX12_laysWeights mX12_laysWeights d [qR 178] M (fun M1 => ((∀ M2 : q_Mem, M2 = q_up M1 178 39 (q_shl 1 (M1 179 51)) → (∀ M3 : q_Mem, M3 = q_up M2 178 40 0 → (∀ M4 : q_Mem, M4 = q_up M3 178 41 0 → q_v mX12_laysWorths d (qPU P) M4 29 [some (qR 178), some (qI 0)] [])))))) : q_v mX12_laysWorths d (qPU P) M 0 [some (qR 178), none] [] := by
  refine qr_aload_n 0 1 rfl (x := 178) rfl dX12_laysWorths_0 ?_
  refine qw_U 1 4 rfl (av := []) ca_X12_laysWeights wm_1687 wp_112 wm_1685 ck12 (by decide +kernel) rfl rfl (Nat.le_of_ble_eq_true rfl) dX12_laysWorths_1 h (fun M1 h => ?_)
  refine qr_aload_n 4 5 rfl (x := 178) rfl dX12_laysWorths_4 ?_
  refine qr_iconst 5 6 rfl (q_l32 _ rfl) dX12_laysWorths_5 ?_
  refine qr_aload_n 6 7 rfl (x := 178) rfl dX12_laysWorths_6 ?_
  refine qr_getF 7 10 rfl ck12 1 (by decide) (b := 179) (by decide +kernel) rfl (by decide +kernel) (by decide +kernel) wm_1327 rfl dX12_laysWorths_7 ?_
  refine qr_bipush 10 12 rfl (q_l32 _ rfl) (by decide) dX12_laysWorths_10 ?_
  refine qi_ld 12 13 rfl (N := 4512) (by decide +kernel) (by decide +kernel) (by decide) (by decide) dX12_laysWorths_12 ?_
  refine qr_ishl 13 14 rfl dX12_laysWorths_13 ?_
  refine qp_i 14 17 rfl ck12 39 (kk := 39) (by decide) (by decide +kernel) (by decide) rfl rfl wm_1365 rfl dX12_laysWorths_14 (fun M2 e_M2 => ?_)
  have h := h M2 e_M2
  refine qr_aload_n 17 18 rfl (x := 178) rfl dX12_laysWorths_17 ?_
  refine qr_iconst 18 19 rfl (q_l32 _ rfl) dX12_laysWorths_18 ?_
  refine qp_i 19 22 rfl ck12 40 (kk := 40) (by decide) (by decide +kernel) (by decide) rfl rfl wm_1366 rfl dX12_laysWorths_19 (fun M3 e_M3 => ?_)
  have h := h M3 e_M3
  refine qr_aload_n 22 23 rfl (x := 178) rfl dX12_laysWorths_22 ?_
  refine qr_iconst 23 24 rfl (q_l32 _ rfl) dX12_laysWorths_23 ?_
  refine qp_i 24 27 rfl ck12 41 (kk := 41) (by decide) (by decide +kernel) (by decide) rfl rfl wm_1367 rfl dX12_laysWorths_24 (fun M4 e_M4 => ?_)
  have h := h M4 e_M4
  refine qr_iconst 27 28 rfl (q_l32 _ rfl) dX12_laysWorths_27 ?_
  refine qr_istore_n 28 29 rfl (by decide) rfl rfl dX12_laysWorths_28 ?_
  exact h
theorem bX12_laysWorths_29 {d : Nat} {P : q_Mem → Prop} {M : q_Mem} (x1 : Int) (h : (((M 178 39) ≤ x1) → P M) ∧ ((¬ ((M 178 39) ≤ x1)) → q_kI yX12_worthOf mX12_worthOf d [qR 178, qI x1] M (fun v2 M1 => (0 ≤ x1 ∧ x1 < (1024 : Int)) ∧ (∀ M4 : q_Mem, M4 = q_up M1 199 x1 v2 → (0 ≤ x1 ∧ x1 < (1024 : Int)) ∧ ((((M4 199 x1) ≤ (M4 178 40)) → q_v mX12_laysWorths d (qPU P) M4 75 [some (qR 178), some (qI x1)] [qI (M4 178 40), qR 178]) ∧ ((¬ ((M4 199 x1) ≤ (M4 178 40))) → (0 ≤ x1 ∧ x1 < (1024 : Int)) ∧ (q_v mX12_laysWorths d (qPU P) M4 75 [some (qR 178), some (qI x1)] [qI (M4 199 x1), qR 178]))))))) : q_v mX12_laysWorths d (qPU P) M 29 [some (qR 178), some (qI x1)] [] := by
  refine qr_iload_n 29 30 rfl (x := x1) rfl dX12_laysWorths_29 ?_
  refine qr_aload_n 30 31 rfl (x := 178) rfl dX12_laysWorths_30 ?_
  refine qg_i 31 34 rfl ck12 39 (kk := 39) (by decide) (by decide +kernel) (by decide +kernel) rfl wm_1365 rfl dX12_laysWorths_31 ?_
  refine qr_icmp_ge 34 37 114 rfl (by decide) dX12_laysWorths_34 (fun c34 => ?_) (fun c34 => ?_)
  · have h := h.1 c34
    exact qe_u 114 rfl dX12_laysWorths_114 h
  · have h := h.2 c34
    refine qr_aload_n 37 38 rfl (x := 178) rfl dX12_laysWorths_37 ?_
    refine qr_getF 38 41 rfl ck12 36 (by decide) (b := 199) (by decide +kernel) rfl (by decide +kernel) (by decide +kernel) wm_1362 rfl dX12_laysWorths_38 ?_
    refine qr_iload_n 41 42 rfl (x := x1) rfl dX12_laysWorths_41 ?_
    refine qr_aload_n 42 43 rfl (x := 178) rfl dX12_laysWorths_42 ?_
    refine qr_iload_n 43 44 rfl (x := x1) rfl dX12_laysWorths_43 ?_
    refine qw_I 44 47 rfl (av := [qI x1]) ca_X12_worthOf wm_1691 wp_113 wm_1689 ck12 (by decide +kernel) rfl rfl (Nat.le_of_ble_eq_true rfl) dX12_laysWorths_44 h (fun v2 M1 h => ?_)
    have hb3 := h.1
    have h := h.2
    refine qi_st 47 48 rfl (N := 1024) (by decide +kernel) (by decide +kernel) hb3.1 hb3.2 dX12_laysWorths_47 (fun M4 e_M4 => ?_)
    have h := h M4 e_M4
    refine qr_aload_n 48 49 rfl (x := 178) rfl dX12_laysWorths_48 ?_
    refine qr_aload_n 49 50 rfl (x := 178) rfl dX12_laysWorths_49 ?_
    refine qr_getF 50 53 rfl ck12 36 (by decide) (b := 199) (by decide +kernel) rfl (by decide +kernel) (by decide +kernel) wm_1362 rfl dX12_laysWorths_50 ?_
    refine qr_iload_n 53 54 rfl (x := x1) rfl dX12_laysWorths_53 ?_
    have hb5 := h.1
    have h := h.2
    refine qi_ld 54 55 rfl (N := 1024) (by decide +kernel) (by decide +kernel) hb5.1 hb5.2 dX12_laysWorths_54 ?_
    refine qr_aload_n 55 56 rfl (x := 178) rfl dX12_laysWorths_55 ?_
    refine qg_i 56 59 rfl ck12 40 (kk := 40) (by decide) (by decide +kernel) (by decide +kernel) rfl wm_1366 rfl dX12_laysWorths_56 ?_
    refine qr_icmp_le 59 62 71 rfl (by decide) dX12_laysWorths_59 (fun c59 => ?_) (fun c59 => ?_)
    · have h := h.1 c59
      refine qr_aload_n 71 72 rfl (x := 178) rfl dX12_laysWorths_71 ?_
      refine qg_i 72 75 rfl ck12 40 (kk := 40) (by decide) (by decide +kernel) (by decide +kernel) rfl wm_1366 rfl dX12_laysWorths_72 ?_
      exact h
    · have h := h.2 c59
      refine qr_aload_n 62 63 rfl (x := 178) rfl dX12_laysWorths_62 ?_
      refine qr_getF 63 66 rfl ck12 36 (by decide) (b := 199) (by decide +kernel) rfl (by decide +kernel) (by decide +kernel) wm_1362 rfl dX12_laysWorths_63 ?_
      refine qr_iload_n 66 67 rfl (x := x1) rfl dX12_laysWorths_66 ?_
      have hb6 := h.1
      have h := h.2
      refine qi_ld 67 68 rfl (N := 1024) (by decide +kernel) (by decide +kernel) hb6.1 hb6.2 dX12_laysWorths_67 ?_
      refine qr_goto 68 75 (by decide) dX12_laysWorths_68 ?_
      exact h
theorem bX12_laysWorths_75 {d : Nat} {P : q_Mem → Prop} {M : q_Mem} (x1 y0 y1 : Int) (l0 : q_kd y0 = 12) (h : (∀ M1 : q_Mem, M1 = q_up M y0 40 y1 → (0 ≤ x1 ∧ x1 < (1024 : Int)) ∧ ((((M1 178 41) ≤ (M1 199 x1)) → (∀ M3 : q_Mem, M3 = q_up M1 178 41 (M1 178 41) → q_v mX12_laysWorths d (qPU P) M3 29 [some (qR 178), some (qI (q_add x1 1))] [])) ∧ ((¬ ((M1 178 41) ≤ (M1 199 x1))) → (0 ≤ x1 ∧ x1 < (1024 : Int)) ∧ ((∀ M5 : q_Mem, M5 = q_up M1 178 41 (M1 199 x1) → q_v mX12_laysWorths d (qPU P) M5 29 [some (qR 178), some (qI (q_add x1 1))] [])))))) : q_v mX12_laysWorths d (qPU P) M 75 [some (qR 178), some (qI x1)] [qI y1, qR y0] := by
  refine qp_i 75 78 rfl ck12 40 (kk := 40) (by decide) l0 (by decide) rfl rfl wm_1366 rfl dX12_laysWorths_75 (fun M1 e_M1 => ?_)
  have h := h M1 e_M1
  refine qr_aload_n 78 79 rfl (x := 178) rfl dX12_laysWorths_78 ?_
  refine qr_aload_n 79 80 rfl (x := 178) rfl dX12_laysWorths_79 ?_
  refine qr_getF 80 83 rfl ck12 36 (by decide) (b := 199) (by decide +kernel) rfl (by decide +kernel) (by decide +kernel) wm_1362 rfl dX12_laysWorths_80 ?_
  refine qr_iload_n 83 84 rfl (x := x1) rfl dX12_laysWorths_83 ?_
  have hb2 := h.1
  have h := h.2
  refine qi_ld 84 85 rfl (N := 1024) (by decide +kernel) (by decide +kernel) hb2.1 hb2.2 dX12_laysWorths_84 ?_
  refine qr_aload_n 85 86 rfl (x := 178) rfl dX12_laysWorths_85 ?_
  refine qg_i 86 89 rfl ck12 41 (kk := 41) (by decide) (by decide +kernel) (by decide +kernel) rfl wm_1367 rfl dX12_laysWorths_86 ?_
  refine qr_icmp_ge 89 92 101 rfl (by decide) dX12_laysWorths_89 (fun c89 => ?_) (fun c89 => ?_)
  · have h := h.1 c89
    refine qr_aload_n 101 102 rfl (x := 178) rfl dX12_laysWorths_101 ?_
    refine qg_i 102 105 rfl ck12 41 (kk := 41) (by decide) (by decide +kernel) (by decide +kernel) rfl wm_1367 rfl dX12_laysWorths_102 ?_
    refine qp_i 105 108 rfl ck12 41 (kk := 41) (by decide) (by decide +kernel) (by decide) rfl rfl wm_1367 rfl dX12_laysWorths_105 (fun M3 e_M3 => ?_)
    have h := h M3 e_M3
    refine qr_iinc 108 111 rfl (by decide) (x := x1) rfl rfl rfl dX12_laysWorths_108 ?_
    refine qr_goto 111 29 (by decide) dX12_laysWorths_111 ?_
    exact h
  · have h := h.2 c89
    refine qr_aload_n 92 93 rfl (x := 178) rfl dX12_laysWorths_92 ?_
    refine qr_getF 93 96 rfl ck12 36 (by decide) (b := 199) (by decide +kernel) rfl (by decide +kernel) (by decide +kernel) wm_1362 rfl dX12_laysWorths_93 ?_
    refine qr_iload_n 96 97 rfl (x := x1) rfl dX12_laysWorths_96 ?_
    have hb4 := h.1
    have h := h.2
    refine qi_ld 97 98 rfl (N := 1024) (by decide +kernel) (by decide +kernel) hb4.1 hb4.2 dX12_laysWorths_97 ?_
    refine qr_goto 98 105 (by decide) dX12_laysWorths_98 ?_
    refine qp_i 105 108 rfl ck12 41 (kk := 41) (by decide) (by decide +kernel) (by decide) rfl rfl wm_1367 rfl dX12_laysWorths_105 (fun M5 e_M5 => ?_)
    have h := h M5 e_M5
    refine qr_iinc 108 111 rfl (by decide) (x := x1) rfl rfl rfl dX12_laysWorths_108 ?_
    refine qr_goto 111 29 (by decide) dX12_laysWorths_111 ?_
    exact h
theorem dX12_all_0 : decode cX12_all 0 = .ok (.aload_n 0, 1) := by decide +kernel
theorem dX12_all_1 : decode cX12_all 1 = .ok (.iconst 0, 1) := by decide +kernel
theorem dX12_all_2 : decode cX12_all 2 = .ok (.putfield 1, 3) := by decide +kernel
theorem dX12_all_5 : decode cX12_all 5 = .ok (.iload_n 1, 1) := by decide +kernel
theorem dX12_all_6 : decode cX12_all 6 = .ok (.i2l, 1) := by decide +kernel
theorem dX12_all_7 : decode cX12_all 7 = .ok (.lconst 0, 1) := by decide +kernel
theorem dX12_all_8 : decode cX12_all 8 = .ok (.lconst 1, 1) := by decide +kernel
theorem dX12_all_9 : decode cX12_all 9 = .ok (.invokestatic 176, 3) := by decide +kernel
theorem dX12_all_12 : decode cX12_all 12 = .ok (.ifCond .ne 7, 3) := by decide +kernel
theorem dX12_all_15 : decode cX12_all 15 = .ok (.ldc_w 302, 3) := by decide +kernel
theorem dX12_all_18 : decode cX12_all 18 = .ok (.ireturn, 1) := by decide +kernel
theorem dX12_all_19 : decode cX12_all 19 = .ok (.aload_n 0, 1) := by decide +kernel
theorem dX12_all_20 : decode cX12_all 20 = .ok (.invokevirtual 459, 3) := by decide +kernel
theorem dX12_all_23 : decode cX12_all 23 = .ok (.iload_n 1, 1) := by decide +kernel
theorem dX12_all_24 : decode cX12_all 24 = .ok (.ifCond .ne 10, 3) := by decide +kernel
theorem dX12_all_27 : decode cX12_all 27 = .ok (.aload_n 0, 1) := by decide +kernel
theorem dX12_all_28 : decode cX12_all 28 = .ok (.getfield 453, 3) := by decide +kernel
theorem dX12_all_31 : decode cX12_all 31 = .ok (.goto 7, 3) := by decide +kernel
theorem dX12_all_34 : decode cX12_all 34 = .ok (.aload_n 0, 1) := by decide +kernel
theorem dX12_all_35 : decode cX12_all 35 = .ok (.getfield 456, 3) := by decide +kernel
theorem dX12_all_38 : decode cX12_all 38 = .ok (.ireturn, 1) := by decide +kernel
theorem bX12_all_0 {d : Nat} {P : Int → q_Mem → Prop} {M : q_Mem} (x1 : Int) (h : (∀ M1 : q_Mem, M1 = q_up M 178 0 0 → q_kI yX12_within mX12_within d [qL x1, qL 0, qL 1] M1 (fun v3 M2 => ((¬ v3 = 0) → q_kU yX12_laysWorths mX12_laysWorths d [qR 178] M2 (fun M4 => ((¬ x1 = 0) → P (M4 178 41) M4) ∧ ((x1 = 0) → P (M4 178 40) M4))) ∧ ((v3 = 0) → P (-99000002) M2)))) : q_v mX12_all d (qPI P) M 0 [some (qR 178), some (qI x1)] [] := by
  refine qr_aload_n 0 1 rfl (x := 178) rfl dX12_all_0 ?_
  refine qr_iconst 1 2 rfl (q_l32 _ rfl) dX12_all_1 ?_
  refine qp_i 2 5 rfl ck12 0 (kk := 0) (by decide) (by decide +kernel) (by decide) rfl rfl wm_1326 rfl dX12_all_2 (fun M1 e_M1 => ?_)
  have h := h M1 e_M1
  refine qr_iload_n 5 6 rfl (x := x1) rfl dX12_all_5 ?_
  refine qr_i2l 6 7 rfl dX12_all_6 ?_
  refine qr_lconst 7 8 rfl (w := 0) (q_l64 _ rfl) (by decide) dX12_all_7 ?_
  refine qr_lconst 8 9 rfl (w := 1) (q_l64 _ rfl) (by decide) dX12_all_8 ?_
  refine qs_I 9 12 rfl (av := [qL x1, qL 0, qL 1]) ca_X12_within wm_1481 wm_1480 rfl rfl (Nat.le_of_ble_eq_true rfl) dX12_all_9 h (fun v3 M2 h => ?_)
  refine qr_if_ne 12 15 19 rfl (by decide) dX12_all_12 (fun c12 => ?_) (fun c12 => ?_)
  · have h := h.1 c12
    refine qr_aload_n 19 20 rfl (x := 178) rfl dX12_all_19 ?_
    refine qw_U 20 23 rfl (av := []) ca_X12_laysWorths wm_1937 wp_144 wm_1935 ck12 (by decide +kernel) rfl rfl (Nat.le_of_ble_eq_true rfl) dX12_all_20 h (fun M4 h => ?_)
    refine qr_iload_n 23 24 rfl (x := x1) rfl dX12_all_23 ?_
    refine qr_if_ne 24 27 34 rfl (by decide) dX12_all_24 (fun c24 => ?_) (fun c24 => ?_)
    · have h := h.1 c24
      refine qr_aload_n 34 35 rfl (x := 178) rfl dX12_all_34 ?_
      refine qg_i 35 38 rfl ck12 41 (kk := 41) (by decide) (by decide +kernel) (by decide +kernel) rfl wm_1367 rfl dX12_all_35 ?_
      exact qe_i 38 rfl dX12_all_38 h
    · have h := h.2 c24
      refine qr_aload_n 27 28 rfl (x := 178) rfl dX12_all_27 ?_
      refine qg_i 28 31 rfl ck12 40 (kk := 40) (by decide) (by decide +kernel) (by decide +kernel) rfl wm_1366 rfl dX12_all_28 ?_
      refine qr_goto 31 38 (by decide) dX12_all_31 ?_
      exact qe_i 38 rfl dX12_all_38 h
  · have h := h.2 c12
    refine qr_ldc_w 15 18 rfl (v := (-99000002)) (q_l32 _ rfl) wm_1649 dX12_all_15 ?_
    exact qe_i 18 rfl dX12_all_18 h
theorem dX12_best_0 : decode cX12_best 0 = .ok (.aload_n 0, 1) := by decide +kernel
theorem dX12_best_1 : decode cX12_best 1 = .ok (.iconst 0, 1) := by decide +kernel
theorem dX12_best_2 : decode cX12_best 2 = .ok (.putfield 1, 3) := by decide +kernel
theorem dX12_best_5 : decode cX12_best 5 = .ok (.aload_n 0, 1) := by decide +kernel
theorem dX12_best_6 : decode cX12_best 6 = .ok (.invokevirtual 459, 3) := by decide +kernel
theorem dX12_best_9 : decode cX12_best 9 = .ok (.iconst 0, 1) := by decide +kernel
theorem dX12_best_10 : decode cX12_best 10 = .ok (.istore_n 1, 1) := by decide +kernel
theorem dX12_best_11 : decode cX12_best 11 = .ok (.iconst 0, 1) := by decide +kernel
theorem dX12_best_12 : decode cX12_best 12 = .ok (.istore_n 2, 1) := by decide +kernel
theorem dX12_best_13 : decode cX12_best 13 = .ok (.iload_n 2, 1) := by decide +kernel
theorem dX12_best_14 : decode cX12_best 14 = .ok (.aload_n 0, 1) := by decide +kernel
theorem dX12_best_15 : decode cX12_best 15 = .ok (.getfield 450, 3) := by decide +kernel
theorem dX12_best_18 : decode cX12_best 18 = .ok (.if_icmp .ge 30, 3) := by decide +kernel
theorem dX12_best_21 : decode cX12_best 21 = .ok (.iload_n 1, 1) := by decide +kernel
theorem dX12_best_22 : decode cX12_best 22 = .ok (.aload_n 0, 1) := by decide +kernel
theorem dX12_best_23 : decode cX12_best 23 = .ok (.getfield 79, 3) := by decide +kernel
theorem dX12_best_26 : decode cX12_best 26 = .ok (.iload_n 2, 1) := by decide +kernel
theorem dX12_best_27 : decode cX12_best 27 = .ok (.iaload, 1) := by decide +kernel
theorem dX12_best_28 : decode cX12_best 28 = .ok (.aload_n 0, 1) := by decide +kernel
theorem dX12_best_29 : decode cX12_best 29 = .ok (.getfield 453, 3) := by decide +kernel
theorem dX12_best_32 : decode cX12_best 32 = .ok (.if_icmp .ne 7, 3) := by decide +kernel
theorem dX12_best_35 : decode cX12_best 35 = .ok (.iconst 1, 1) := by decide +kernel
theorem dX12_best_36 : decode cX12_best 36 = .ok (.goto 4, 3) := by decide +kernel
theorem dX12_best_39 : decode cX12_best 39 = .ok (.iconst 0, 1) := by decide +kernel
theorem dX12_best_40 : decode cX12_best 40 = .ok (.iadd, 1) := by decide +kernel
theorem dX12_best_41 : decode cX12_best 41 = .ok (.istore_n 1, 1) := by decide +kernel
theorem dX12_best_42 : decode cX12_best 42 = .ok (.iinc 2 1, 3) := by decide +kernel
theorem dX12_best_45 : decode cX12_best 45 = .ok (.goto (-32), 3) := by decide +kernel
theorem dX12_best_48 : decode cX12_best 48 = .ok (.iload_n 1, 1) := by decide +kernel
theorem dX12_best_49 : decode cX12_best 49 = .ok (.ireturn, 1) := by decide +kernel
theorem bX12_best_0 {d : Nat} {P : Int → q_Mem → Prop} {M : q_Mem} (h : (∀ M1 : q_Mem, M1 = q_up M 178 0 0 → q_kU yX12_laysWorths mX12_laysWorths d [qR 178] M1 (fun M2 => q_v mX12_best d (qPI P) M2 13 [some (qR 178), some (qI 0), some (qI 0)] []))) : q_v mX12_best d (qPI P) M 0 [some (qR 178), none, none] [] := by
  refine qr_aload_n 0 1 rfl (x := 178) rfl dX12_best_0 ?_
  refine qr_iconst 1 2 rfl (q_l32 _ rfl) dX12_best_1 ?_
  refine qp_i 2 5 rfl ck12 0 (kk := 0) (by decide) (by decide +kernel) (by decide) rfl rfl wm_1326 rfl dX12_best_2 (fun M1 e_M1 => ?_)
  have h := h M1 e_M1
  refine qr_aload_n 5 6 rfl (x := 178) rfl dX12_best_5 ?_
  refine qw_U 6 9 rfl (av := []) ca_X12_laysWorths wm_1937 wp_144 wm_1935 ck12 (by decide +kernel) rfl rfl (Nat.le_of_ble_eq_true rfl) dX12_best_6 h (fun M2 h => ?_)
  refine qr_iconst 9 10 rfl (q_l32 _ rfl) dX12_best_9 ?_
  refine qr_istore_n 10 11 rfl (by decide) rfl rfl dX12_best_10 ?_
  refine qr_iconst 11 12 rfl (q_l32 _ rfl) dX12_best_11 ?_
  refine qr_istore_n 12 13 rfl (by decide) rfl rfl dX12_best_12 ?_
  exact h
theorem bX12_best_13 {d : Nat} {P : Int → q_Mem → Prop} {M : q_Mem} (x1 x2 : Int) (h : (((M 178 39) ≤ x2) → P x1 M) ∧ ((¬ ((M 178 39) ≤ x2)) → (0 ≤ x2 ∧ x2 < (1024 : Int)) ∧ (((¬ (M 199 x2) = (M 178 40)) → ∀ x1_2 : Int, x1_2 = (q_add x1 0) → q_v mX12_best d (qPI P) M 13 [some (qR 178), some (qI x1_2), some (qI (q_add x2 1))] []) ∧ (((M 199 x2) = (M 178 40)) → ∀ x1_3 : Int, x1_3 = (q_add x1 1) → q_v mX12_best d (qPI P) M 13 [some (qR 178), some (qI x1_3), some (qI (q_add x2 1))] [])))) : q_v mX12_best d (qPI P) M 13 [some (qR 178), some (qI x1), some (qI x2)] [] := by
  refine qr_iload_n 13 14 rfl (x := x2) rfl dX12_best_13 ?_
  refine qr_aload_n 14 15 rfl (x := 178) rfl dX12_best_14 ?_
  refine qg_i 15 18 rfl ck12 39 (kk := 39) (by decide) (by decide +kernel) (by decide +kernel) rfl wm_1365 rfl dX12_best_15 ?_
  refine qr_icmp_ge 18 21 48 rfl (by decide) dX12_best_18 (fun c18 => ?_) (fun c18 => ?_)
  · have h := h.1 c18
    refine qr_iload_n 48 49 rfl (x := x1) rfl dX12_best_48 ?_
    exact qe_i 49 rfl dX12_best_49 h
  · have h := h.2 c18
    refine qr_iload_n 21 22 rfl (x := x1) rfl dX12_best_21 ?_
    refine qr_aload_n 22 23 rfl (x := 178) rfl dX12_best_22 ?_
    refine qr_getF 23 26 rfl ck12 36 (by decide) (b := 199) (by decide +kernel) rfl (by decide +kernel) (by decide +kernel) wm_1362 rfl dX12_best_23 ?_
    refine qr_iload_n 26 27 rfl (x := x2) rfl dX12_best_26 ?_
    have hb1 := h.1
    have h := h.2
    refine qi_ld 27 28 rfl (N := 1024) (by decide +kernel) (by decide +kernel) hb1.1 hb1.2 dX12_best_27 ?_
    refine qr_aload_n 28 29 rfl (x := 178) rfl dX12_best_28 ?_
    refine qg_i 29 32 rfl ck12 40 (kk := 40) (by decide) (by decide +kernel) (by decide +kernel) rfl wm_1366 rfl dX12_best_29 ?_
    refine qr_icmp_ne 32 35 39 rfl (by decide) dX12_best_32 (fun c32 => ?_) (fun c32 => ?_)
    · have h := h.1 c32
      refine qr_iconst 39 40 rfl (q_l32 _ rfl) dX12_best_39 ?_
      refine qr_iadd 40 41 rfl dX12_best_40 ?_
      refine qn_i 41 (fun x1_2 e_x1_2 => ?_)
      have h := h x1_2 e_x1_2
      refine qr_istore_n 41 42 rfl (by decide) rfl rfl dX12_best_41 ?_
      refine qr_iinc 42 45 rfl (by decide) (x := x2) rfl rfl rfl dX12_best_42 ?_
      refine qr_goto 45 13 (by decide) dX12_best_45 ?_
      exact h
    · have h := h.2 c32
      refine qr_iconst 35 36 rfl (q_l32 _ rfl) dX12_best_35 ?_
      refine qr_goto 36 40 (by decide) dX12_best_36 ?_
      refine qr_iadd 40 41 rfl dX12_best_40 ?_
      refine qn_i 41 (fun x1_3 e_x1_3 => ?_)
      have h := h x1_3 e_x1_3
      refine qr_istore_n 41 42 rfl (by decide) rfl rfl dX12_best_41 ?_
      refine qr_iinc 42 45 rfl (by decide) (x := x2) rfl rfl rfl dX12_best_42 ?_
      refine qr_goto 45 13 (by decide) dX12_best_45 ?_
      exact h
theorem dX12_isStuck_0 : decode cX12_isStuck 0 = .ok (.iconst 0, 1) := by decide +kernel
theorem dX12_isStuck_1 : decode cX12_isStuck 1 = .ok (.istore_n 2, 1) := by decide +kernel
theorem dX12_isStuck_2 : decode cX12_isStuck 2 = .ok (.iload_n 2, 1) := by decide +kernel
theorem dX12_isStuck_3 : decode cX12_isStuck 3 = .ok (.aload_n 0, 1) := by decide +kernel
theorem dX12_isStuck_4 : decode cX12_isStuck 4 = .ok (.getfield 13, 3) := by decide +kernel
theorem dX12_isStuck_7 : decode cX12_isStuck 7 = .ok (.bipush 51, 2) := by decide +kernel
theorem dX12_isStuck_9 : decode cX12_isStuck 9 = .ok (.iaload, 1) := by decide +kernel
theorem dX12_isStuck_10 : decode cX12_isStuck 10 = .ok (.if_icmp .ge 30, 3) := by decide +kernel
theorem dX12_isStuck_13 : decode cX12_isStuck 13 = .ok (.aload_n 0, 1) := by decide +kernel
theorem dX12_isStuck_14 : decode cX12_isStuck 14 = .ok (.getfield 79, 3) := by decide +kernel
theorem dX12_isStuck_17 : decode cX12_isStuck 17 = .ok (.iload_n 1, 1) := by decide +kernel
theorem dX12_isStuck_18 : decode cX12_isStuck 18 = .ok (.iconst 1, 1) := by decide +kernel
theorem dX12_isStuck_19 : decode cX12_isStuck 19 = .ok (.iload_n 2, 1) := by decide +kernel
theorem dX12_isStuck_20 : decode cX12_isStuck 20 = .ok (.ishl, 1) := by decide +kernel
theorem dX12_isStuck_21 : decode cX12_isStuck 21 = .ok (.ixor, 1) := by decide +kernel
theorem dX12_isStuck_22 : decode cX12_isStuck 22 = .ok (.iaload, 1) := by decide +kernel
theorem dX12_isStuck_23 : decode cX12_isStuck 23 = .ok (.aload_n 0, 1) := by decide +kernel
theorem dX12_isStuck_24 : decode cX12_isStuck 24 = .ok (.getfield 79, 3) := by decide +kernel
theorem dX12_isStuck_27 : decode cX12_isStuck 27 = .ok (.iload_n 1, 1) := by decide +kernel
theorem dX12_isStuck_28 : decode cX12_isStuck 28 = .ok (.iaload, 1) := by decide +kernel
theorem dX12_isStuck_29 : decode cX12_isStuck 29 = .ok (.if_icmp .le 5, 3) := by decide +kernel
theorem dX12_isStuck_32 : decode cX12_isStuck 32 = .ok (.iconst 0, 1) := by decide +kernel
theorem dX12_isStuck_33 : decode cX12_isStuck 33 = .ok (.ireturn, 1) := by decide +kernel
theorem dX12_isStuck_34 : decode cX12_isStuck 34 = .ok (.iinc 2 1, 3) := by decide +kernel
theorem dX12_isStuck_37 : decode cX12_isStuck 37 = .ok (.goto (-35), 3) := by decide +kernel
theorem dX12_isStuck_40 : decode cX12_isStuck 40 = .ok (.iconst 1, 1) := by decide +kernel
theorem dX12_isStuck_41 : decode cX12_isStuck 41 = .ok (.ireturn, 1) := by decide +kernel
theorem bX12_isStuck_0 {d : Nat} {P : Int → q_Mem → Prop} {M : q_Mem} (x1 : Int) (h : q_v mX12_isStuck d (qPI P) M 2 [some (qR 178), some (qI x1), some (qI 0)] []) : q_v mX12_isStuck d (qPI P) M 0 [some (qR 178), some (qI x1), none] [] := by
  refine qr_iconst 0 1 rfl (q_l32 _ rfl) dX12_isStuck_0 ?_
  refine qr_istore_n 1 2 rfl (by decide) rfl rfl dX12_isStuck_1 ?_
  exact h
theorem bX12_isStuck_2 {d : Nat} {P : Int → q_Mem → Prop} {M : q_Mem} (x1 x2 : Int) (h : ((((M 179 51) ≤ x2) → P 1 M) ∧ ((¬ ((M 179 51) ≤ x2)) → (0 ≤ (q_xor x1 (q_shl 1 x2)) ∧ (q_xor x1 (q_shl 1 x2)) < (1024 : Int)) ∧ ((0 ≤ x1 ∧ x1 < (1024 : Int)) ∧ ((((M 199 (q_xor x1 (q_shl 1 x2))) ≤ (M 199 x1)) → q_v mX12_isStuck d (qPI P) M 2 [some (qR 178), some (qI x1), some (qI (q_add x2 1))] []) ∧ ((¬ ((M 199 (q_xor x1 (q_shl 1 x2))) ≤ (M 199 x1))) → P 0 M)))))) : q_v mX12_isStuck d (qPI P) M 2 [some (qR 178), some (qI x1), some (qI x2)] [] := by
  refine qr_iload_n 2 3 rfl (x := x2) rfl dX12_isStuck_2 ?_
  refine qr_aload_n 3 4 rfl (x := 178) rfl dX12_isStuck_3 ?_
  refine qr_getF 4 7 rfl ck12 1 (by decide) (b := 179) (by decide +kernel) rfl (by decide +kernel) (by decide +kernel) wm_1327 rfl dX12_isStuck_4 ?_
  refine qr_bipush 7 9 rfl (q_l32 _ rfl) (by decide) dX12_isStuck_7 ?_
  refine qi_ld 9 10 rfl (N := 4512) (by decide +kernel) (by decide +kernel) (by decide) (by decide) dX12_isStuck_9 ?_
  refine qr_icmp_ge 10 13 40 rfl (by decide) dX12_isStuck_10 (fun c10 => ?_) (fun c10 => ?_)
  · have h := h.1 c10
    refine qr_iconst 40 41 rfl (q_l32 _ rfl) dX12_isStuck_40 ?_
    exact qe_z 41 rfl (by decide) dX12_isStuck_41 h
  · have h := h.2 c10
    refine qr_aload_n 13 14 rfl (x := 178) rfl dX12_isStuck_13 ?_
    refine qr_getF 14 17 rfl ck12 36 (by decide) (b := 199) (by decide +kernel) rfl (by decide +kernel) (by decide +kernel) wm_1362 rfl dX12_isStuck_14 ?_
    refine qr_iload_n 17 18 rfl (x := x1) rfl dX12_isStuck_17 ?_
    refine qr_iconst 18 19 rfl (q_l32 _ rfl) dX12_isStuck_18 ?_
    refine qr_iload_n 19 20 rfl (x := x2) rfl dX12_isStuck_19 ?_
    refine qr_ishl 20 21 rfl dX12_isStuck_20 ?_
    refine qr_ixor 21 22 rfl dX12_isStuck_21 ?_
    have hb1 := h.1
    have h := h.2
    refine qi_ld 22 23 rfl (N := 1024) (by decide +kernel) (by decide +kernel) hb1.1 hb1.2 dX12_isStuck_22 ?_
    refine qr_aload_n 23 24 rfl (x := 178) rfl dX12_isStuck_23 ?_
    refine qr_getF 24 27 rfl ck12 36 (by decide) (b := 199) (by decide +kernel) rfl (by decide +kernel) (by decide +kernel) wm_1362 rfl dX12_isStuck_24 ?_
    refine qr_iload_n 27 28 rfl (x := x1) rfl dX12_isStuck_27 ?_
    have hb2 := h.1
    have h := h.2
    refine qi_ld 28 29 rfl (N := 1024) (by decide +kernel) (by decide +kernel) hb2.1 hb2.2 dX12_isStuck_28 ?_
    refine qr_icmp_le 29 32 34 rfl (by decide) dX12_isStuck_29 (fun c29 => ?_) (fun c29 => ?_)
    · have h := h.1 c29
      refine qr_iinc 34 37 rfl (by decide) (x := x2) rfl rfl rfl dX12_isStuck_34 ?_
      refine qr_goto 37 2 (by decide) dX12_isStuck_37 ?_
      exact h
    · have h := h.2 c29
      refine qr_iconst 32 33 rfl (q_l32 _ rfl) dX12_isStuck_32 ?_
      exact qe_z 33 rfl (by decide) dX12_isStuck_33 h
theorem dX12_stuck_0 : decode cX12_stuck 0 = .ok (.aload_n 0, 1) := by decide +kernel
theorem dX12_stuck_1 : decode cX12_stuck 1 = .ok (.iconst 0, 1) := by decide +kernel
theorem dX12_stuck_2 : decode cX12_stuck 2 = .ok (.putfield 1, 3) := by decide +kernel
theorem dX12_stuck_5 : decode cX12_stuck 5 = .ok (.aload_n 0, 1) := by decide +kernel
theorem dX12_stuck_6 : decode cX12_stuck 6 = .ok (.invokevirtual 459, 3) := by decide +kernel
theorem dX12_stuck_9 : decode cX12_stuck 9 = .ok (.iconst 0, 1) := by decide +kernel
theorem dX12_stuck_10 : decode cX12_stuck 10 = .ok (.istore_n 1, 1) := by decide +kernel
theorem dX12_stuck_11 : decode cX12_stuck 11 = .ok (.iconst 0, 1) := by decide +kernel
theorem dX12_stuck_12 : decode cX12_stuck 12 = .ok (.istore_n 2, 1) := by decide +kernel
theorem dX12_stuck_13 : decode cX12_stuck 13 = .ok (.iload_n 2, 1) := by decide +kernel
theorem dX12_stuck_14 : decode cX12_stuck 14 = .ok (.aload_n 0, 1) := by decide +kernel
theorem dX12_stuck_15 : decode cX12_stuck 15 = .ok (.getfield 450, 3) := by decide +kernel
theorem dX12_stuck_18 : decode cX12_stuck 18 = .ok (.if_icmp .ge 25, 3) := by decide +kernel
theorem dX12_stuck_21 : decode cX12_stuck 21 = .ok (.iload_n 1, 1) := by decide +kernel
theorem dX12_stuck_22 : decode cX12_stuck 22 = .ok (.aload_n 0, 1) := by decide +kernel
theorem dX12_stuck_23 : decode cX12_stuck 23 = .ok (.iload_n 2, 1) := by decide +kernel
theorem dX12_stuck_24 : decode cX12_stuck 24 = .ok (.invokevirtual 462, 3) := by decide +kernel
theorem dX12_stuck_27 : decode cX12_stuck 27 = .ok (.ifCond .eq 7, 3) := by decide +kernel
theorem dX12_stuck_30 : decode cX12_stuck 30 = .ok (.iconst 1, 1) := by decide +kernel
theorem dX12_stuck_31 : decode cX12_stuck 31 = .ok (.goto 4, 3) := by decide +kernel
theorem dX12_stuck_34 : decode cX12_stuck 34 = .ok (.iconst 0, 1) := by decide +kernel
theorem dX12_stuck_35 : decode cX12_stuck 35 = .ok (.iadd, 1) := by decide +kernel
theorem dX12_stuck_36 : decode cX12_stuck 36 = .ok (.istore_n 1, 1) := by decide +kernel
theorem dX12_stuck_37 : decode cX12_stuck 37 = .ok (.iinc 2 1, 3) := by decide +kernel
theorem dX12_stuck_40 : decode cX12_stuck 40 = .ok (.goto (-27), 3) := by decide +kernel
theorem dX12_stuck_43 : decode cX12_stuck 43 = .ok (.iload_n 1, 1) := by decide +kernel
theorem dX12_stuck_44 : decode cX12_stuck 44 = .ok (.ireturn, 1) := by decide +kernel
theorem bX12_stuck_0 {d : Nat} {P : Int → q_Mem → Prop} {M : q_Mem} (h : (∀ M1 : q_Mem, M1 = q_up M 178 0 0 → q_kU yX12_laysWorths mX12_laysWorths d [qR 178] M1 (fun M2 => q_v mX12_stuck d (qPI P) M2 13 [some (qR 178), some (qI 0), some (qI 0)] []))) : q_v mX12_stuck d (qPI P) M 0 [some (qR 178), none, none] [] := by
  refine qr_aload_n 0 1 rfl (x := 178) rfl dX12_stuck_0 ?_
  refine qr_iconst 1 2 rfl (q_l32 _ rfl) dX12_stuck_1 ?_
  refine qp_i 2 5 rfl ck12 0 (kk := 0) (by decide) (by decide +kernel) (by decide) rfl rfl wm_1326 rfl dX12_stuck_2 (fun M1 e_M1 => ?_)
  have h := h M1 e_M1
  refine qr_aload_n 5 6 rfl (x := 178) rfl dX12_stuck_5 ?_
  refine qw_U 6 9 rfl (av := []) ca_X12_laysWorths wm_1937 wp_144 wm_1935 ck12 (by decide +kernel) rfl rfl (Nat.le_of_ble_eq_true rfl) dX12_stuck_6 h (fun M2 h => ?_)
  refine qr_iconst 9 10 rfl (q_l32 _ rfl) dX12_stuck_9 ?_
  refine qr_istore_n 10 11 rfl (by decide) rfl rfl dX12_stuck_10 ?_
  refine qr_iconst 11 12 rfl (q_l32 _ rfl) dX12_stuck_11 ?_
  refine qr_istore_n 12 13 rfl (by decide) rfl rfl dX12_stuck_12 ?_
  exact h
theorem bX12_stuck_13 {d : Nat} {P : Int → q_Mem → Prop} {M : q_Mem} (x1 x2 : Int) (h : (((M 178 39) ≤ x2) → P x1 M) ∧ ((¬ ((M 178 39) ≤ x2)) → q_kI yX12_isStuck mX12_isStuck d [qR 178, qI x2] M (fun v2 M1 => ((v2 = 0) → ∀ x1_3 : Int, x1_3 = (q_add x1 0) → q_v mX12_stuck d (qPI P) M1 13 [some (qR 178), some (qI x1_3), some (qI (q_add x2 1))] []) ∧ ((¬ (v2 = 0)) → ∀ x1_4 : Int, x1_4 = (q_add x1 1) → q_v mX12_stuck d (qPI P) M1 13 [some (qR 178), some (qI x1_4), some (qI (q_add x2 1))] [])))) : q_v mX12_stuck d (qPI P) M 13 [some (qR 178), some (qI x1), some (qI x2)] [] := by
  refine qr_iload_n 13 14 rfl (x := x2) rfl dX12_stuck_13 ?_
  refine qr_aload_n 14 15 rfl (x := 178) rfl dX12_stuck_14 ?_
  refine qg_i 15 18 rfl ck12 39 (kk := 39) (by decide) (by decide +kernel) (by decide +kernel) rfl wm_1365 rfl dX12_stuck_15 ?_
  refine qr_icmp_ge 18 21 43 rfl (by decide) dX12_stuck_18 (fun c18 => ?_) (fun c18 => ?_)
  · have h := h.1 c18
    refine qr_iload_n 43 44 rfl (x := x1) rfl dX12_stuck_43 ?_
    exact qe_i 44 rfl dX12_stuck_44 h
  · have h := h.2 c18
    refine qr_iload_n 21 22 rfl (x := x1) rfl dX12_stuck_21 ?_
    refine qr_aload_n 22 23 rfl (x := 178) rfl dX12_stuck_22 ?_
    refine qr_iload_n 23 24 rfl (x := x2) rfl dX12_stuck_23 ?_
    refine qw_I 24 27 rfl (av := [qI x2]) ca_X12_isStuck wm_1949 wp_145 wm_1947 ck12 (by decide +kernel) rfl rfl (Nat.le_of_ble_eq_true rfl) dX12_stuck_24 h (fun v2 M1 h => ?_)
    refine qr_if_eq 27 30 34 rfl (by decide) dX12_stuck_27 (fun c27 => ?_) (fun c27 => ?_)
    · have h := h.1 c27
      refine qr_iconst 34 35 rfl (q_l32 _ rfl) dX12_stuck_34 ?_
      refine qr_iadd 35 36 rfl dX12_stuck_35 ?_
      refine qn_i 36 (fun x1_3 e_x1_3 => ?_)
      have h := h x1_3 e_x1_3
      refine qr_istore_n 36 37 rfl (by decide) rfl rfl dX12_stuck_36 ?_
      refine qr_iinc 37 40 rfl (by decide) (x := x2) rfl rfl rfl dX12_stuck_37 ?_
      refine qr_goto 40 13 (by decide) dX12_stuck_40 ?_
      exact h
    · have h := h.2 c27
      refine qr_iconst 30 31 rfl (q_l32 _ rfl) dX12_stuck_30 ?_
      refine qr_goto 31 35 (by decide) dX12_stuck_31 ?_
      refine qr_iadd 35 36 rfl dX12_stuck_35 ?_
      refine qn_i 36 (fun x1_4 e_x1_4 => ?_)
      have h := h x1_4 e_x1_4
      refine qr_istore_n 36 37 rfl (by decide) rfl rfl dX12_stuck_36 ?_
      refine qr_iinc 37 40 rfl (by decide) (x := x2) rfl rfl rfl dX12_stuck_37 ?_
      refine qr_goto 40 13 (by decide) dX12_stuck_40 ?_
      exact h
theorem dX12_steps_0 : decode cX12_steps 0 = .ok (.aload_n 0, 1) := by decide +kernel
theorem dX12_steps_1 : decode cX12_steps 1 = .ok (.iconst 0, 1) := by decide +kernel
theorem dX12_steps_2 : decode cX12_steps 2 = .ok (.putfield 1, 3) := by decide +kernel
theorem dX12_steps_5 : decode cX12_steps 5 = .ok (.aload_n 0, 1) := by decide +kernel
theorem dX12_steps_6 : decode cX12_steps 6 = .ok (.invokevirtual 459, 3) := by decide +kernel
theorem dX12_steps_9 : decode cX12_steps 9 = .ok (.bipush 10, 2) := by decide +kernel
theorem dX12_steps_11 : decode cX12_steps 11 = .ok (.istore_n 1, 1) := by decide +kernel
theorem dX12_steps_12 : decode cX12_steps 12 = .ok (.iconst 0, 1) := by decide +kernel
theorem dX12_steps_13 : decode cX12_steps 13 = .ok (.istore_n 2, 1) := by decide +kernel
theorem dX12_steps_14 : decode cX12_steps 14 = .ok (.iload_n 2, 1) := by decide +kernel
theorem dX12_steps_15 : decode cX12_steps 15 = .ok (.aload_n 0, 1) := by decide +kernel
theorem dX12_steps_16 : decode cX12_steps 16 = .ok (.getfield 450, 3) := by decide +kernel
theorem dX12_steps_19 : decode cX12_steps 19 = .ok (.if_icmp .ge 41, 3) := by decide +kernel
theorem dX12_steps_22 : decode cX12_steps 22 = .ok (.iload_n 2, 1) := by decide +kernel
theorem dX12_steps_23 : decode cX12_steps 23 = .ok (.aload_n 0, 1) := by decide +kernel
theorem dX12_steps_24 : decode cX12_steps 24 = .ok (.getfield 13, 3) := by decide +kernel
theorem dX12_steps_27 : decode cX12_steps 27 = .ok (.iconst 2, 1) := by decide +kernel
theorem dX12_steps_28 : decode cX12_steps 28 = .ok (.iaload, 1) := by decide +kernel
theorem dX12_steps_29 : decode cX12_steps 29 = .ok (.ixor, 1) := by decide +kernel
theorem dX12_steps_30 : decode cX12_steps 30 = .ok (.invokestatic 344, 3) := by decide +kernel
theorem dX12_steps_33 : decode cX12_steps 33 = .ok (.istore_n 3, 1) := by decide +kernel
theorem dX12_steps_34 : decode cX12_steps 34 = .ok (.aload_n 0, 1) := by decide +kernel
theorem dX12_steps_35 : decode cX12_steps 35 = .ok (.getfield 79, 3) := by decide +kernel
theorem dX12_steps_38 : decode cX12_steps 38 = .ok (.iload_n 2, 1) := by decide +kernel
theorem dX12_steps_39 : decode cX12_steps 39 = .ok (.iaload, 1) := by decide +kernel
theorem dX12_steps_40 : decode cX12_steps 40 = .ok (.aload_n 0, 1) := by decide +kernel
theorem dX12_steps_41 : decode cX12_steps 41 = .ok (.getfield 453, 3) := by decide +kernel
theorem dX12_steps_44 : decode cX12_steps 44 = .ok (.if_icmp .ne 10, 3) := by decide +kernel
theorem dX12_steps_47 : decode cX12_steps 47 = .ok (.iload_n 3, 1) := by decide +kernel
theorem dX12_steps_48 : decode cX12_steps 48 = .ok (.iload_n 1, 1) := by decide +kernel
theorem dX12_steps_49 : decode cX12_steps 49 = .ok (.if_icmp .ge 5, 3) := by decide +kernel
theorem dX12_steps_52 : decode cX12_steps 52 = .ok (.iload_n 3, 1) := by decide +kernel
theorem dX12_steps_53 : decode cX12_steps 53 = .ok (.istore_n 1, 1) := by decide +kernel
theorem dX12_steps_54 : decode cX12_steps 54 = .ok (.iinc 2 1, 3) := by decide +kernel
theorem dX12_steps_57 : decode cX12_steps 57 = .ok (.goto (-43), 3) := by decide +kernel
theorem dX12_steps_60 : decode cX12_steps 60 = .ok (.iload_n 1, 1) := by decide +kernel
theorem dX12_steps_61 : decode cX12_steps 61 = .ok (.ireturn, 1) := by decide +kernel
theorem bX12_steps_0 {d : Nat} {P : Int → q_Mem → Prop} {M : q_Mem} (h : (∀ M1 : q_Mem, M1 = q_up M 178 0 0 → q_kU yX12_laysWorths mX12_laysWorths d [qR 178] M1 (fun M2 => q_v mX12_steps d (qPI P) M2 14 [some (qR 178), some (qI 10), some (qI 0), none] []))) : q_v mX12_steps d (qPI P) M 0 [some (qR 178), none, none, none] [] := by
  refine qr_aload_n 0 1 rfl (x := 178) rfl dX12_steps_0 ?_
  refine qr_iconst 1 2 rfl (q_l32 _ rfl) dX12_steps_1 ?_
  refine qp_i 2 5 rfl ck12 0 (kk := 0) (by decide) (by decide +kernel) (by decide) rfl rfl wm_1326 rfl dX12_steps_2 (fun M1 e_M1 => ?_)
  have h := h M1 e_M1
  refine qr_aload_n 5 6 rfl (x := 178) rfl dX12_steps_5 ?_
  refine qw_U 6 9 rfl (av := []) ca_X12_laysWorths wm_1937 wp_144 wm_1935 ck12 (by decide +kernel) rfl rfl (Nat.le_of_ble_eq_true rfl) dX12_steps_6 h (fun M2 h => ?_)
  refine qr_bipush 9 11 rfl (q_l32 _ rfl) (by decide) dX12_steps_9 ?_
  refine qr_istore_n 11 12 rfl (by decide) rfl rfl dX12_steps_11 ?_
  refine qr_iconst 12 13 rfl (q_l32 _ rfl) dX12_steps_12 ?_
  refine qr_istore_n 13 14 rfl (by decide) rfl rfl dX12_steps_13 ?_
  exact h
theorem bX12_steps_14 {d : Nat} {P : Int → q_Mem → Prop} {M : q_Mem} (x1 x2 : Int) (h : (((M 178 39) ≤ x2) → P x1 M) ∧ ((¬ ((M 178 39) ≤ x2)) → (q_kI yX12_bitsOf mX12_bitsOf d [qI (q_xor x2 (M 179 2))] M (fun v2 M1 => (0 ≤ x2 ∧ x2 < (1024 : Int)) ∧ (((¬ (M1 199 x2) = (M1 178 40)) → q_v mX12_steps d (qPI P) M1 14 [some (qR 178), some (qI x1), some (qI (q_add x2 1)), none] []) ∧ (((M1 199 x2) = (M1 178 40)) → ((x1 ≤ v2) → q_v mX12_steps d (qPI P) M1 14 [some (qR 178), some (qI x1), some (qI (q_add x2 1)), none] []) ∧ ((¬ (x1 ≤ v2)) → q_v mX12_steps d (qPI P) M1 14 [some (qR 178), some (qI v2), some (qI (q_add x2 1)), none] []))))))) : q_v mX12_steps d (qPI P) M 14 [some (qR 178), some (qI x1), some (qI x2), none] [] := by
  refine qr_iload_n 14 15 rfl (x := x2) rfl dX12_steps_14 ?_
  refine qr_aload_n 15 16 rfl (x := 178) rfl dX12_steps_15 ?_
  refine qg_i 16 19 rfl ck12 39 (kk := 39) (by decide) (by decide +kernel) (by decide +kernel) rfl wm_1365 rfl dX12_steps_16 ?_
  refine qr_icmp_ge 19 22 60 rfl (by decide) dX12_steps_19 (fun c19 => ?_) (fun c19 => ?_)
  · have h := h.1 c19
    refine qr_iload_n 60 61 rfl (x := x1) rfl dX12_steps_60 ?_
    exact qe_i 61 rfl dX12_steps_61 h
  · have h := h.2 c19
    refine qr_iload_n 22 23 rfl (x := x2) rfl dX12_steps_22 ?_
    refine qr_aload_n 23 24 rfl (x := 178) rfl dX12_steps_23 ?_
    refine qr_getF 24 27 rfl ck12 1 (by decide) (b := 179) (by decide +kernel) rfl (by decide +kernel) (by decide +kernel) wm_1327 rfl dX12_steps_24 ?_
    refine qr_iconst 27 28 rfl (q_l32 _ rfl) dX12_steps_27 ?_
    refine qi_ld 28 29 rfl (N := 4512) (by decide +kernel) (by decide +kernel) (by decide) (by decide) dX12_steps_28 ?_
    refine qr_ixor 29 30 rfl dX12_steps_29 ?_
    refine qs_I 30 33 rfl (av := [qI (q_xor x2 (M 179 2))]) ca_X12_bitsOf wm_1790 wm_1789 rfl rfl (Nat.le_of_ble_eq_true rfl) dX12_steps_30 h (fun v2 M1 h => ?_)
    refine qr_istore_n 33 34 rfl (by decide) rfl rfl dX12_steps_33 ?_
    refine qr_aload_n 34 35 rfl (x := 178) rfl dX12_steps_34 ?_
    refine qr_getF 35 38 rfl ck12 36 (by decide) (b := 199) (by decide +kernel) rfl (by decide +kernel) (by decide +kernel) wm_1362 rfl dX12_steps_35 ?_
    refine qr_iload_n 38 39 rfl (x := x2) rfl dX12_steps_38 ?_
    have hb3 := h.1
    have h := h.2
    refine qi_ld 39 40 rfl (N := 1024) (by decide +kernel) (by decide +kernel) hb3.1 hb3.2 dX12_steps_39 ?_
    refine qr_aload_n 40 41 rfl (x := 178) rfl dX12_steps_40 ?_
    refine qg_i 41 44 rfl ck12 40 (kk := 40) (by decide) (by decide +kernel) (by decide +kernel) rfl wm_1366 rfl dX12_steps_41 ?_
    refine qr_icmp_ne 44 47 54 rfl (by decide) dX12_steps_44 (fun c44 => ?_) (fun c44 => ?_)
    · have h := h.1 c44
      refine qr_iinc 54 57 rfl (by decide) (x := x2) rfl rfl rfl dX12_steps_54 ?_
      refine qr_goto 57 14 (by decide) dX12_steps_57 ?_
      exact qr_cut 14 (ls' := [some (qR 178), some (qI x1), some (qI (q_add x2 1)), none]) (And.intro rfl (And.intro rfl (And.intro rfl trivial))) h
    · have h := h.2 c44
      refine qr_iload_n 47 48 rfl (x := v2) rfl dX12_steps_47 ?_
      refine qr_iload_n 48 49 rfl (x := x1) rfl dX12_steps_48 ?_
      refine qr_icmp_ge 49 52 54 rfl (by decide) dX12_steps_49 (fun c49 => ?_) (fun c49 => ?_)
      · have h := h.1 c49
        refine qr_iinc 54 57 rfl (by decide) (x := x2) rfl rfl rfl dX12_steps_54 ?_
        refine qr_goto 57 14 (by decide) dX12_steps_57 ?_
        exact qr_cut 14 (ls' := [some (qR 178), some (qI x1), some (qI (q_add x2 1)), none]) (And.intro rfl (And.intro rfl (And.intro rfl trivial))) h
      · have h := h.2 c49
        refine qr_iload_n 52 53 rfl (x := v2) rfl dX12_steps_52 ?_
        refine qr_istore_n 53 54 rfl (by decide) rfl rfl dX12_steps_53 ?_
        refine qr_iinc 54 57 rfl (by decide) (x := x2) rfl rfl rfl dX12_steps_54 ?_
        refine qr_goto 57 14 (by decide) dX12_steps_57 ?_
        exact qr_cut 14 (ls' := [some (qR 178), some (qI v2), some (qI (q_add x2 1)), none]) (And.intro rfl (And.intro rfl (And.intro rfl trivial))) h
theorem dX12_climb_0 : decode cX12_climb 0 = .ok (.aload_n 0, 1) := by decide +kernel
theorem dX12_climb_1 : decode cX12_climb 1 = .ok (.iconst 0, 1) := by decide +kernel
theorem dX12_climb_2 : decode cX12_climb 2 = .ok (.putfield 1, 3) := by decide +kernel
theorem dX12_climb_5 : decode cX12_climb 5 = .ok (.aload_n 0, 1) := by decide +kernel
theorem dX12_climb_6 : decode cX12_climb 6 = .ok (.invokevirtual 459, 3) := by decide +kernel
theorem dX12_climb_9 : decode cX12_climb 9 = .ok (.iconst 0, 1) := by decide +kernel
theorem dX12_climb_10 : decode cX12_climb 10 = .ok (.istore_n 1, 1) := by decide +kernel
theorem dX12_climb_11 : decode cX12_climb 11 = .ok (.iload_n 1, 1) := by decide +kernel
theorem dX12_climb_12 : decode cX12_climb 12 = .ok (.aload_n 0, 1) := by decide +kernel
theorem dX12_climb_13 : decode cX12_climb 13 = .ok (.getfield 450, 3) := by decide +kernel
theorem dX12_climb_16 : decode cX12_climb 16 = .ok (.if_icmp .ge 16, 3) := by decide +kernel
theorem dX12_climb_19 : decode cX12_climb 19 = .ok (.aload_n 0, 1) := by decide +kernel
theorem dX12_climb_20 : decode cX12_climb 20 = .ok (.getfield 82, 3) := by decide +kernel
theorem dX12_climb_23 : decode cX12_climb 23 = .ok (.iload_n 1, 1) := by decide +kernel
theorem dX12_climb_24 : decode cX12_climb 24 = .ok (.iconst (-1), 1) := by decide +kernel
theorem dX12_climb_25 : decode cX12_climb 25 = .ok (.iastore, 1) := by decide +kernel
theorem dX12_climb_26 : decode cX12_climb 26 = .ok (.iinc 1 1, 3) := by decide +kernel
theorem dX12_climb_29 : decode cX12_climb 29 = .ok (.goto (-18), 3) := by decide +kernel
theorem dX12_climb_32 : decode cX12_climb 32 = .ok (.aload_n 0, 1) := by decide +kernel
theorem dX12_climb_33 : decode cX12_climb 33 = .ok (.getfield 82, 3) := by decide +kernel
theorem dX12_climb_36 : decode cX12_climb 36 = .ok (.aload_n 0, 1) := by decide +kernel
theorem dX12_climb_37 : decode cX12_climb 37 = .ok (.getfield 13, 3) := by decide +kernel
theorem dX12_climb_40 : decode cX12_climb 40 = .ok (.iconst 2, 1) := by decide +kernel
theorem dX12_climb_41 : decode cX12_climb 41 = .ok (.iaload, 1) := by decide +kernel
theorem dX12_climb_42 : decode cX12_climb 42 = .ok (.iconst 0, 1) := by decide +kernel
theorem dX12_climb_43 : decode cX12_climb 43 = .ok (.iastore, 1) := by decide +kernel
theorem dX12_climb_44 : decode cX12_climb 44 = .ok (.aload_n 0, 1) := by decide +kernel
theorem dX12_climb_45 : decode cX12_climb 45 = .ok (.getfield 85, 3) := by decide +kernel
theorem dX12_climb_48 : decode cX12_climb 48 = .ok (.iconst 0, 1) := by decide +kernel
theorem dX12_climb_49 : decode cX12_climb 49 = .ok (.aload_n 0, 1) := by decide +kernel
theorem dX12_climb_50 : decode cX12_climb 50 = .ok (.getfield 13, 3) := by decide +kernel
theorem dX12_climb_53 : decode cX12_climb 53 = .ok (.iconst 2, 1) := by decide +kernel
theorem dX12_climb_54 : decode cX12_climb 54 = .ok (.iaload, 1) := by decide +kernel
theorem dX12_climb_55 : decode cX12_climb 55 = .ok (.iastore, 1) := by decide +kernel
theorem dX12_climb_56 : decode cX12_climb 56 = .ok (.iconst 1, 1) := by decide +kernel
theorem dX12_climb_57 : decode cX12_climb 57 = .ok (.istore_n 1, 1) := by decide +kernel
theorem dX12_climb_58 : decode cX12_climb 58 = .ok (.iconst 0, 1) := by decide +kernel
theorem dX12_climb_59 : decode cX12_climb 59 = .ok (.istore_n 2, 1) := by decide +kernel
theorem dX12_climb_60 : decode cX12_climb 60 = .ok (.iload_n 2, 1) := by decide +kernel
theorem dX12_climb_61 : decode cX12_climb 61 = .ok (.iload_n 1, 1) := by decide +kernel
theorem dX12_climb_62 : decode cX12_climb 62 = .ok (.if_icmp .ge 121, 3) := by decide +kernel
theorem dX12_climb_65 : decode cX12_climb 65 = .ok (.aload_n 0, 1) := by decide +kernel
theorem dX12_climb_66 : decode cX12_climb 66 = .ok (.getfield 85, 3) := by decide +kernel
theorem dX12_climb_69 : decode cX12_climb 69 = .ok (.iload_n 2, 1) := by decide +kernel
theorem dX12_climb_70 : decode cX12_climb 70 = .ok (.iaload, 1) := by decide +kernel
theorem dX12_climb_71 : decode cX12_climb 71 = .ok (.istore_n 3, 1) := by decide +kernel
theorem dX12_climb_72 : decode cX12_climb 72 = .ok (.aload_n 0, 1) := by decide +kernel
theorem dX12_climb_73 : decode cX12_climb 73 = .ok (.getfield 79, 3) := by decide +kernel
theorem dX12_climb_76 : decode cX12_climb 76 = .ok (.iload_n 3, 1) := by decide +kernel
theorem dX12_climb_77 : decode cX12_climb 77 = .ok (.iaload, 1) := by decide +kernel
theorem dX12_climb_78 : decode cX12_climb 78 = .ok (.aload_n 0, 1) := by decide +kernel
theorem dX12_climb_79 : decode cX12_climb 79 = .ok (.getfield 453, 3) := by decide +kernel
theorem dX12_climb_82 : decode cX12_climb 82 = .ok (.if_icmp .ne 10, 3) := by decide +kernel
theorem dX12_climb_85 : decode cX12_climb 85 = .ok (.aload_n 0, 1) := by decide +kernel
theorem dX12_climb_86 : decode cX12_climb 86 = .ok (.getfield 82, 3) := by decide +kernel
theorem dX12_climb_89 : decode cX12_climb 89 = .ok (.iload_n 3, 1) := by decide +kernel
theorem dX12_climb_90 : decode cX12_climb 90 = .ok (.iaload, 1) := by decide +kernel
theorem dX12_climb_91 : decode cX12_climb 91 = .ok (.ireturn, 1) := by decide +kernel
theorem dX12_climb_92 : decode cX12_climb 92 = .ok (.iconst 0, 1) := by decide +kernel
theorem dX12_climb_93 : decode cX12_climb 93 = .ok (.istore 4, 2) := by decide +kernel
theorem dX12_climb_95 : decode cX12_climb 95 = .ok (.iload 4, 2) := by decide +kernel
theorem dX12_climb_97 : decode cX12_climb 97 = .ok (.aload_n 0, 1) := by decide +kernel
theorem dX12_climb_98 : decode cX12_climb 98 = .ok (.getfield 13, 3) := by decide +kernel
theorem dX12_climb_101 : decode cX12_climb 101 = .ok (.bipush 51, 2) := by decide +kernel
theorem dX12_climb_103 : decode cX12_climb 103 = .ok (.iaload, 1) := by decide +kernel
theorem dX12_climb_104 : decode cX12_climb 104 = .ok (.if_icmp .ge 73, 3) := by decide +kernel
theorem dX12_climb_107 : decode cX12_climb 107 = .ok (.iload_n 3, 1) := by decide +kernel
theorem dX12_climb_108 : decode cX12_climb 108 = .ok (.iconst 1, 1) := by decide +kernel
theorem dX12_climb_109 : decode cX12_climb 109 = .ok (.iload 4, 2) := by decide +kernel
theorem dX12_climb_111 : decode cX12_climb 111 = .ok (.ishl, 1) := by decide +kernel
theorem dX12_climb_112 : decode cX12_climb 112 = .ok (.ixor, 1) := by decide +kernel
theorem dX12_climb_113 : decode cX12_climb 113 = .ok (.istore 5, 2) := by decide +kernel
theorem dX12_climb_115 : decode cX12_climb 115 = .ok (.aload_n 0, 1) := by decide +kernel
theorem dX12_climb_116 : decode cX12_climb 116 = .ok (.getfield 82, 3) := by decide +kernel
theorem dX12_climb_119 : decode cX12_climb 119 = .ok (.iload 5, 2) := by decide +kernel
theorem dX12_climb_121 : decode cX12_climb 121 = .ok (.iaload, 1) := by decide +kernel
theorem dX12_climb_122 : decode cX12_climb 122 = .ok (.iconst (-1), 1) := by decide +kernel
theorem dX12_climb_123 : decode cX12_climb 123 = .ok (.if_icmp .ne 48, 3) := by decide +kernel
theorem dX12_climb_126 : decode cX12_climb 126 = .ok (.aload_n 0, 1) := by decide +kernel
theorem dX12_climb_127 : decode cX12_climb 127 = .ok (.getfield 79, 3) := by decide +kernel
theorem dX12_climb_130 : decode cX12_climb 130 = .ok (.iload 5, 2) := by decide +kernel
theorem dX12_climb_132 : decode cX12_climb 132 = .ok (.iaload, 1) := by decide +kernel
theorem dX12_climb_133 : decode cX12_climb 133 = .ok (.aload_n 0, 1) := by decide +kernel
theorem dX12_climb_134 : decode cX12_climb 134 = .ok (.getfield 79, 3) := by decide +kernel
theorem dX12_climb_137 : decode cX12_climb 137 = .ok (.iload_n 3, 1) := by decide +kernel
theorem dX12_climb_138 : decode cX12_climb 138 = .ok (.iaload, 1) := by decide +kernel
theorem dX12_climb_139 : decode cX12_climb 139 = .ok (.if_icmp .ge 6, 3) := by decide +kernel
theorem dX12_climb_142 : decode cX12_climb 142 = .ok (.goto 29, 3) := by decide +kernel
theorem dX12_climb_145 : decode cX12_climb 145 = .ok (.aload_n 0, 1) := by decide +kernel
theorem dX12_climb_146 : decode cX12_climb 146 = .ok (.getfield 82, 3) := by decide +kernel
theorem dX12_climb_149 : decode cX12_climb 149 = .ok (.iload 5, 2) := by decide +kernel
theorem dX12_climb_151 : decode cX12_climb 151 = .ok (.aload_n 0, 1) := by decide +kernel
theorem dX12_climb_152 : decode cX12_climb 152 = .ok (.getfield 82, 3) := by decide +kernel
theorem dX12_climb_155 : decode cX12_climb 155 = .ok (.iload_n 3, 1) := by decide +kernel
theorem dX12_climb_156 : decode cX12_climb 156 = .ok (.iaload, 1) := by decide +kernel
theorem dX12_climb_157 : decode cX12_climb 157 = .ok (.iconst 1, 1) := by decide +kernel
theorem dX12_climb_158 : decode cX12_climb 158 = .ok (.iadd, 1) := by decide +kernel
theorem dX12_climb_159 : decode cX12_climb 159 = .ok (.iastore, 1) := by decide +kernel
theorem dX12_climb_160 : decode cX12_climb 160 = .ok (.aload_n 0, 1) := by decide +kernel
theorem dX12_climb_161 : decode cX12_climb 161 = .ok (.getfield 85, 3) := by decide +kernel
theorem dX12_climb_164 : decode cX12_climb 164 = .ok (.iload_n 1, 1) := by decide +kernel
theorem dX12_climb_165 : decode cX12_climb 165 = .ok (.iload 5, 2) := by decide +kernel
theorem dX12_climb_167 : decode cX12_climb 167 = .ok (.iastore, 1) := by decide +kernel
theorem dX12_climb_168 : decode cX12_climb 168 = .ok (.iinc 1 1, 3) := by decide +kernel
theorem dX12_climb_171 : decode cX12_climb 171 = .ok (.iinc 4 1, 3) := by decide +kernel
theorem dX12_climb_174 : decode cX12_climb 174 = .ok (.goto (-79), 3) := by decide +kernel
theorem dX12_climb_177 : decode cX12_climb 177 = .ok (.iinc 2 1, 3) := by decide +kernel
theorem dX12_climb_180 : decode cX12_climb 180 = .ok (.goto (-120), 3) := by decide +kernel
theorem dX12_climb_183 : decode cX12_climb 183 = .ok (.iconst (-1), 1) := by decide +kernel
theorem dX12_climb_184 : decode cX12_climb 184 = .ok (.ireturn, 1) := by decide +kernel
theorem bX12_climb_0 {d : Nat} {P : Int → q_Mem → Prop} {M : q_Mem} (h : (∀ M1 : q_Mem, M1 = q_up M 178 0 0 → q_kU yX12_laysWorths mX12_laysWorths d [qR 178] M1 (fun M2 => q_v mX12_climb d (qPI P) M2 11 [some (qR 178), some (qI 0), none, none, none, none] []))) : q_v mX12_climb d (qPI P) M 0 [some (qR 178), none, none, none, none, none] [] := by
  refine qr_aload_n 0 1 rfl (x := 178) rfl dX12_climb_0 ?_
  refine qr_iconst 1 2 rfl (q_l32 _ rfl) dX12_climb_1 ?_
  refine qp_i 2 5 rfl ck12 0 (kk := 0) (by decide) (by decide +kernel) (by decide) rfl rfl wm_1326 rfl dX12_climb_2 (fun M1 e_M1 => ?_)
  have h := h M1 e_M1
  refine qr_aload_n 5 6 rfl (x := 178) rfl dX12_climb_5 ?_
  refine qw_U 6 9 rfl (av := []) ca_X12_laysWorths wm_1937 wp_144 wm_1935 ck12 (by decide +kernel) rfl rfl (Nat.le_of_ble_eq_true rfl) dX12_climb_6 h (fun M2 h => ?_)
  refine qr_iconst 9 10 rfl (q_l32 _ rfl) dX12_climb_9 ?_
  refine qr_istore_n 10 11 rfl (by decide) rfl rfl dX12_climb_10 ?_
  exact h
theorem bX12_climb_11 {d : Nat} {P : Int → q_Mem → Prop} {M : q_Mem} (x1 : Int) (h : (((M 178 39) ≤ x1) → ((0 ≤ (M 179 2) ∧ (M 179 2) < (1024 : Int)) ∧ (∀ M2 : q_Mem, M2 = q_up M 200 (M 179 2) 0 → ((∀ M3 : q_Mem, M3 = q_up M2 201 0 (M2 179 2) → q_v mX12_climb d (qPI P) M3 60 [some (qR 178), some (qI 1), some (qI 0), none, none, none] []))))) ∧ ((¬ ((M 178 39) ≤ x1)) → (0 ≤ x1 ∧ x1 < (1024 : Int)) ∧ (∀ M5 : q_Mem, M5 = q_up M 200 x1 (-1) → q_v mX12_climb d (qPI P) M5 11 [some (qR 178), some (qI (q_add x1 1)), none, none, none, none] []))) : q_v mX12_climb d (qPI P) M 11 [some (qR 178), some (qI x1), none, none, none, none] [] := by
  refine qr_iload_n 11 12 rfl (x := x1) rfl dX12_climb_11 ?_
  refine qr_aload_n 12 13 rfl (x := 178) rfl dX12_climb_12 ?_
  refine qg_i 13 16 rfl ck12 39 (kk := 39) (by decide) (by decide +kernel) (by decide +kernel) rfl wm_1365 rfl dX12_climb_13 ?_
  refine qr_icmp_ge 16 19 32 rfl (by decide) dX12_climb_16 (fun c16 => ?_) (fun c16 => ?_)
  · have h := h.1 c16
    refine qr_aload_n 32 33 rfl (x := 178) rfl dX12_climb_32 ?_
    refine qr_getF 33 36 rfl ck12 37 (by decide) (b := 200) (by decide +kernel) rfl (by decide +kernel) (by decide +kernel) wm_1363 rfl dX12_climb_33 ?_
    refine qr_aload_n 36 37 rfl (x := 178) rfl dX12_climb_36 ?_
    refine qr_getF 37 40 rfl ck12 1 (by decide) (b := 179) (by decide +kernel) rfl (by decide +kernel) (by decide +kernel) wm_1327 rfl dX12_climb_37 ?_
    refine qr_iconst 40 41 rfl (q_l32 _ rfl) dX12_climb_40 ?_
    refine qi_ld 41 42 rfl (N := 4512) (by decide +kernel) (by decide +kernel) (by decide) (by decide) dX12_climb_41 ?_
    refine qr_iconst 42 43 rfl (q_l32 _ rfl) dX12_climb_42 ?_
    have hb1 := h.1
    have h := h.2
    refine qi_st 43 44 rfl (N := 1024) (by decide +kernel) (by decide +kernel) hb1.1 hb1.2 dX12_climb_43 (fun M2 e_M2 => ?_)
    have h := h M2 e_M2
    refine qr_aload_n 44 45 rfl (x := 178) rfl dX12_climb_44 ?_
    refine qr_getF 45 48 rfl ck12 38 (by decide) (b := 201) (by decide +kernel) rfl (by decide +kernel) (by decide +kernel) wm_1364 rfl dX12_climb_45 ?_
    refine qr_iconst 48 49 rfl (q_l32 _ rfl) dX12_climb_48 ?_
    refine qr_aload_n 49 50 rfl (x := 178) rfl dX12_climb_49 ?_
    refine qr_getF 50 53 rfl ck12 1 (by decide) (b := 179) (by decide +kernel) rfl (by decide +kernel) (by decide +kernel) wm_1327 rfl dX12_climb_50 ?_
    refine qr_iconst 53 54 rfl (q_l32 _ rfl) dX12_climb_53 ?_
    refine qi_ld 54 55 rfl (N := 4512) (by decide +kernel) (by decide +kernel) (by decide) (by decide) dX12_climb_54 ?_
    refine qi_st 55 56 rfl (N := 1024) (by decide +kernel) (by decide +kernel) (by decide) (by decide) dX12_climb_55 (fun M3 e_M3 => ?_)
    have h := h M3 e_M3
    refine qr_iconst 56 57 rfl (q_l32 _ rfl) dX12_climb_56 ?_
    refine qr_istore_n 57 58 rfl (by decide) rfl rfl dX12_climb_57 ?_
    refine qr_iconst 58 59 rfl (q_l32 _ rfl) dX12_climb_58 ?_
    refine qr_istore_n 59 60 rfl (by decide) rfl rfl dX12_climb_59 ?_
    exact h
  · have h := h.2 c16
    refine qr_aload_n 19 20 rfl (x := 178) rfl dX12_climb_19 ?_
    refine qr_getF 20 23 rfl ck12 37 (by decide) (b := 200) (by decide +kernel) rfl (by decide +kernel) (by decide +kernel) wm_1363 rfl dX12_climb_20 ?_
    refine qr_iload_n 23 24 rfl (x := x1) rfl dX12_climb_23 ?_
    refine qr_iconst 24 25 rfl (q_l32 _ rfl) dX12_climb_24 ?_
    have hb4 := h.1
    have h := h.2
    refine qi_st 25 26 rfl (N := 1024) (by decide +kernel) (by decide +kernel) hb4.1 hb4.2 dX12_climb_25 (fun M5 e_M5 => ?_)
    have h := h M5 e_M5
    refine qr_iinc 26 29 rfl (by decide) (x := x1) rfl rfl rfl dX12_climb_26 ?_
    refine qr_goto 29 11 (by decide) dX12_climb_29 ?_
    exact h
theorem bX12_climb_60 {d : Nat} {P : Int → q_Mem → Prop} {M : q_Mem} (x1 x2 : Int) (h : ((x1 ≤ x2) → P (-1) M) ∧ ((¬ (x1 ≤ x2)) → (0 ≤ x2 ∧ x2 < (1024 : Int)) ∧ (∀ x3_2 : Int, x3_2 = (M 201 x2) → (0 ≤ x3_2 ∧ x3_2 < (1024 : Int)) ∧ (((¬ (M 199 x3_2) = (M 178 40)) → q_v mX12_climb d (qPI P) M 95 [some (qR 178), some (qI x1), some (qI x2), some (qI x3_2), some (qI 0), none] []) ∧ (((M 199 x3_2) = (M 178 40)) → (0 ≤ x3_2 ∧ x3_2 < (1024 : Int)) ∧ (P (M 200 x3_2) M)))))) : q_v mX12_climb d (qPI P) M 60 [some (qR 178), some (qI x1), some (qI x2), none, none, none] [] := by
  refine qr_iload_n 60 61 rfl (x := x2) rfl dX12_climb_60 ?_
  refine qr_iload_n 61 62 rfl (x := x1) rfl dX12_climb_61 ?_
  refine qr_icmp_ge 62 65 183 rfl (by decide) dX12_climb_62 (fun c62 => ?_) (fun c62 => ?_)
  · have h := h.1 c62
    refine qr_iconst 183 184 rfl (q_l32 _ rfl) dX12_climb_183 ?_
    exact qe_i 184 rfl dX12_climb_184 h
  · have h := h.2 c62
    refine qr_aload_n 65 66 rfl (x := 178) rfl dX12_climb_65 ?_
    refine qr_getF 66 69 rfl ck12 38 (by decide) (b := 201) (by decide +kernel) rfl (by decide +kernel) (by decide +kernel) wm_1364 rfl dX12_climb_66 ?_
    refine qr_iload_n 69 70 rfl (x := x2) rfl dX12_climb_69 ?_
    have hb1 := h.1
    have h := h.2
    refine qi_ld 70 71 rfl (N := 1024) (by decide +kernel) (by decide +kernel) hb1.1 hb1.2 dX12_climb_70 ?_
    refine qn_i 71 (fun x3_2 e_x3_2 => ?_)
    have h := h x3_2 e_x3_2
    refine qr_istore_n 71 72 rfl (by decide) rfl rfl dX12_climb_71 ?_
    refine qr_aload_n 72 73 rfl (x := 178) rfl dX12_climb_72 ?_
    refine qr_getF 73 76 rfl ck12 36 (by decide) (b := 199) (by decide +kernel) rfl (by decide +kernel) (by decide +kernel) wm_1362 rfl dX12_climb_73 ?_
    refine qr_iload_n 76 77 rfl (x := x3_2) rfl dX12_climb_76 ?_
    have hb3 := h.1
    have h := h.2
    refine qi_ld 77 78 rfl (N := 1024) (by decide +kernel) (by decide +kernel) hb3.1 hb3.2 dX12_climb_77 ?_
    refine qr_aload_n 78 79 rfl (x := 178) rfl dX12_climb_78 ?_
    refine qg_i 79 82 rfl ck12 40 (kk := 40) (by decide) (by decide +kernel) (by decide +kernel) rfl wm_1366 rfl dX12_climb_79 ?_
    refine qr_icmp_ne 82 85 92 rfl (by decide) dX12_climb_82 (fun c82 => ?_) (fun c82 => ?_)
    · have h := h.1 c82
      refine qr_iconst 92 93 rfl (q_l32 _ rfl) dX12_climb_92 ?_
      refine qr_istore 93 95 rfl (by decide) rfl rfl dX12_climb_93 ?_
      exact h
    · have h := h.2 c82
      refine qr_aload_n 85 86 rfl (x := 178) rfl dX12_climb_85 ?_
      refine qr_getF 86 89 rfl ck12 37 (by decide) (b := 200) (by decide +kernel) rfl (by decide +kernel) (by decide +kernel) wm_1363 rfl dX12_climb_86 ?_
      refine qr_iload_n 89 90 rfl (x := x3_2) rfl dX12_climb_89 ?_
      have hb4 := h.1
      have h := h.2
      refine qi_ld 90 91 rfl (N := 1024) (by decide +kernel) (by decide +kernel) hb4.1 hb4.2 dX12_climb_90 ?_
      exact qe_i 91 rfl dX12_climb_91 h
theorem bX12_climb_95 {d : Nat} {P : Int → q_Mem → Prop} {M : q_Mem} (x1 x2 x3 x4 : Int) (h : ((((M 179 51) ≤ x4) → q_v mX12_climb d (qPI P) M 60 [some (qR 178), some (qI x1), some (qI (q_add x2 1)), none, none, none] []) ∧ ((¬ ((M 179 51) ≤ x4)) → ∀ x5_1 : Int, x5_1 = (q_xor x3 (q_shl 1 x4)) → (0 ≤ x5_1 ∧ x5_1 < (1024 : Int)) ∧ (((¬ (M 200 x5_1) = ((-1) : Int)) → q_v mX12_climb d (qPI P) M 95 [some (qR 178), some (qI x1), some (qI x2), some (qI x3), some (qI (q_add x4 1)), none] []) ∧ (((M 200 x5_1) = ((-1) : Int)) → (0 ≤ x5_1 ∧ x5_1 < (1024 : Int)) ∧ ((0 ≤ x3 ∧ x3 < (1024 : Int)) ∧ ((((M 199 x3) ≤ (M 199 x5_1)) → (0 ≤ x3 ∧ x3 < (1024 : Int)) ∧ ((0 ≤ x5_1 ∧ x5_1 < (1024 : Int)) ∧ (∀ M7 : q_Mem, M7 = q_up M 200 x5_1 (q_add (M 200 x3) 1) → (0 ≤ x1 ∧ x1 < (1024 : Int)) ∧ (∀ M9 : q_Mem, M9 = q_up M7 201 x1 x5_1 → q_v mX12_climb d (qPI P) M9 95 [some (qR 178), some (qI (q_add x1 1)), some (qI x2), some (qI x3), some (qI (q_add x4 1)), none] [])))) ∧ ((¬ ((M 199 x3) ≤ (M 199 x5_1))) → q_v mX12_climb d (qPI P) M 95 [some (qR 178), some (qI x1), some (qI x2), some (qI x3), some (qI (q_add x4 1)), none] [])))))))) : q_v mX12_climb d (qPI P) M 95 [some (qR 178), some (qI x1), some (qI x2), some (qI x3), some (qI x4), none] [] := by
  refine qr_iload 95 97 rfl (x := x4) rfl dX12_climb_95 ?_
  refine qr_aload_n 97 98 rfl (x := 178) rfl dX12_climb_97 ?_
  refine qr_getF 98 101 rfl ck12 1 (by decide) (b := 179) (by decide +kernel) rfl (by decide +kernel) (by decide +kernel) wm_1327 rfl dX12_climb_98 ?_
  refine qr_bipush 101 103 rfl (q_l32 _ rfl) (by decide) dX12_climb_101 ?_
  refine qi_ld 103 104 rfl (N := 4512) (by decide +kernel) (by decide +kernel) (by decide) (by decide) dX12_climb_103 ?_
  refine qr_icmp_ge 104 107 177 rfl (by decide) dX12_climb_104 (fun c104 => ?_) (fun c104 => ?_)
  · have h := h.1 c104
    refine qr_iinc 177 180 rfl (by decide) (x := x2) rfl rfl rfl dX12_climb_177 ?_
    refine qr_goto 180 60 (by decide) dX12_climb_180 ?_
    exact qr_cut 60 (ls' := [some (qR 178), some (qI x1), some (qI (q_add x2 1)), none, none, none]) (And.intro rfl (And.intro rfl (And.intro rfl trivial))) h
  · have h := h.2 c104
    refine qr_iload_n 107 108 rfl (x := x3) rfl dX12_climb_107 ?_
    refine qr_iconst 108 109 rfl (q_l32 _ rfl) dX12_climb_108 ?_
    refine qr_iload 109 111 rfl (x := x4) rfl dX12_climb_109 ?_
    refine qr_ishl 111 112 rfl dX12_climb_111 ?_
    refine qr_ixor 112 113 rfl dX12_climb_112 ?_
    refine qn_i 113 (fun x5_1 e_x5_1 => ?_)
    have h := h x5_1 e_x5_1
    refine qr_istore 113 115 rfl (by decide) rfl rfl dX12_climb_113 ?_
    refine qr_aload_n 115 116 rfl (x := 178) rfl dX12_climb_115 ?_
    refine qr_getF 116 119 rfl ck12 37 (by decide) (b := 200) (by decide +kernel) rfl (by decide +kernel) (by decide +kernel) wm_1363 rfl dX12_climb_116 ?_
    refine qr_iload 119 121 rfl (x := x5_1) rfl dX12_climb_119 ?_
    have hb2 := h.1
    have h := h.2
    refine qi_ld 121 122 rfl (N := 1024) (by decide +kernel) (by decide +kernel) hb2.1 hb2.2 dX12_climb_121 ?_
    refine qr_iconst 122 123 rfl (q_l32 _ rfl) dX12_climb_122 ?_
    refine qr_icmp_ne 123 126 171 rfl (by decide) dX12_climb_123 (fun c123 => ?_) (fun c123 => ?_)
    · have h := h.1 c123
      refine qr_iinc 171 174 rfl (by decide) (x := x4) rfl rfl rfl dX12_climb_171 ?_
      refine qr_goto 174 95 (by decide) dX12_climb_174 ?_
      exact qr_cut 95 (ls' := [some (qR 178), some (qI x1), some (qI x2), some (qI x3), some (qI (q_add x4 1)), none]) (And.intro rfl (And.intro rfl (And.intro rfl (And.intro rfl (And.intro rfl trivial))))) h
    · have h := h.2 c123
      refine qr_aload_n 126 127 rfl (x := 178) rfl dX12_climb_126 ?_
      refine qr_getF 127 130 rfl ck12 36 (by decide) (b := 199) (by decide +kernel) rfl (by decide +kernel) (by decide +kernel) wm_1362 rfl dX12_climb_127 ?_
      refine qr_iload 130 132 rfl (x := x5_1) rfl dX12_climb_130 ?_
      have hb3 := h.1
      have h := h.2
      refine qi_ld 132 133 rfl (N := 1024) (by decide +kernel) (by decide +kernel) hb3.1 hb3.2 dX12_climb_132 ?_
      refine qr_aload_n 133 134 rfl (x := 178) rfl dX12_climb_133 ?_
      refine qr_getF 134 137 rfl ck12 36 (by decide) (b := 199) (by decide +kernel) rfl (by decide +kernel) (by decide +kernel) wm_1362 rfl dX12_climb_134 ?_
      refine qr_iload_n 137 138 rfl (x := x3) rfl dX12_climb_137 ?_
      have hb4 := h.1
      have h := h.2
      refine qi_ld 138 139 rfl (N := 1024) (by decide +kernel) (by decide +kernel) hb4.1 hb4.2 dX12_climb_138 ?_
      refine qr_icmp_ge 139 142 145 rfl (by decide) dX12_climb_139 (fun c139 => ?_) (fun c139 => ?_)
      · have h := h.1 c139
        refine qr_aload_n 145 146 rfl (x := 178) rfl dX12_climb_145 ?_
        refine qr_getF 146 149 rfl ck12 37 (by decide) (b := 200) (by decide +kernel) rfl (by decide +kernel) (by decide +kernel) wm_1363 rfl dX12_climb_146 ?_
        refine qr_iload 149 151 rfl (x := x5_1) rfl dX12_climb_149 ?_
        refine qr_aload_n 151 152 rfl (x := 178) rfl dX12_climb_151 ?_
        refine qr_getF 152 155 rfl ck12 37 (by decide) (b := 200) (by decide +kernel) rfl (by decide +kernel) (by decide +kernel) wm_1363 rfl dX12_climb_152 ?_
        refine qr_iload_n 155 156 rfl (x := x3) rfl dX12_climb_155 ?_
        have hb5 := h.1
        have h := h.2
        refine qi_ld 156 157 rfl (N := 1024) (by decide +kernel) (by decide +kernel) hb5.1 hb5.2 dX12_climb_156 ?_
        refine qr_iconst 157 158 rfl (q_l32 _ rfl) dX12_climb_157 ?_
        refine qr_iadd 158 159 rfl dX12_climb_158 ?_
        have hb6 := h.1
        have h := h.2
        refine qi_st 159 160 rfl (N := 1024) (by decide +kernel) (by decide +kernel) hb6.1 hb6.2 dX12_climb_159 (fun M7 e_M7 => ?_)
        have h := h M7 e_M7
        refine qr_aload_n 160 161 rfl (x := 178) rfl dX12_climb_160 ?_
        refine qr_getF 161 164 rfl ck12 38 (by decide) (b := 201) (by decide +kernel) rfl (by decide +kernel) (by decide +kernel) wm_1364 rfl dX12_climb_161 ?_
        refine qr_iload_n 164 165 rfl (x := x1) rfl dX12_climb_164 ?_
        refine qr_iload 165 167 rfl (x := x5_1) rfl dX12_climb_165 ?_
        have hb8 := h.1
        have h := h.2
        refine qi_st 167 168 rfl (N := 1024) (by decide +kernel) (by decide +kernel) hb8.1 hb8.2 dX12_climb_167 (fun M9 e_M9 => ?_)
        have h := h M9 e_M9
        refine qr_iinc 168 171 rfl (by decide) (x := x1) rfl rfl rfl dX12_climb_168 ?_
        refine qr_iinc 171 174 rfl (by decide) (x := x4) rfl rfl rfl dX12_climb_171 ?_
        refine qr_goto 174 95 (by decide) dX12_climb_174 ?_
        exact qr_cut 95 (ls' := [some (qR 178), some (qI (q_add x1 1)), some (qI x2), some (qI x3), some (qI (q_add x4 1)), none]) (And.intro rfl (And.intro rfl (And.intro rfl (And.intro rfl (And.intro rfl trivial))))) h
      · have h := h.2 c139
        refine qr_goto 142 171 (by decide) dX12_climb_142 ?_
        refine qr_iinc 171 174 rfl (by decide) (x := x4) rfl rfl rfl dX12_climb_171 ?_
        refine qr_goto 174 95 (by decide) dX12_climb_174 ?_
        exact qr_cut 95 (ls' := [some (qR 178), some (qI x1), some (qI x2), some (qI x3), some (qI (q_add x4 1)), none]) (And.intro rfl (And.intro rfl (And.intro rfl (And.intro rfl (And.intro rfl trivial))))) h
