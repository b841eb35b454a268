-- blocks of methods (by program)
theorem dX5_readText_0 : decode cX5_readText 0 = .ok (.aload_n 0, 1) := by decide +kernel
theorem dX5_readText_1 : decode cX5_readText 1 = .ok (.aload_n 1, 1) := by decide +kernel
theorem dX5_readText_2 : decode cX5_readText 2 = .ok (.putfield 15, 3) := by decide +kernel
theorem dX5_readText_5 : decode cX5_readText 5 = .ok (.aload_n 0, 1) := by decide +kernel
theorem dX5_readText_6 : decode cX5_readText 6 = .ok (.iload_n 2, 1) := by decide +kernel
theorem dX5_readText_7 : decode cX5_readText 7 = .ok (.aload_n 1, 1) := by decide +kernel
theorem dX5_readText_8 : decode cX5_readText 8 = .ok (.arraylength, 1) := by decide +kernel
theorem dX5_readText_9 : decode cX5_readText 9 = .ok (.invokestatic 33, 3) := by decide +kernel
theorem dX5_readText_12 : decode cX5_readText 12 = .ok (.putfield 39, 3) := by decide +kernel
theorem dX5_readText_15 : decode cX5_readText 15 = .ok (.aload_n 0, 1) := by decide +kernel
theorem dX5_readText_16 : decode cX5_readText 16 = .ok (.aload_n 3, 1) := by decide +kernel
theorem dX5_readText_17 : decode cX5_readText 17 = .ok (.putfield 22, 3) := by decide +kernel
theorem dX5_readText_20 : decode cX5_readText 20 = .ok (.aload_n 0, 1) := by decide +kernel
theorem dX5_readText_21 : decode cX5_readText 21 = .ok (.getfield 22, 3) := by decide +kernel
theorem dX5_readText_24 : decode cX5_readText 24 = .ok (.invokevirtual 42, 3) := by decide +kernel
theorem dX5_readText_27 : decode cX5_readText 27 = .ok (.aload_n 0, 1) := by decide +kernel
theorem dX5_readText_28 : decode cX5_readText 28 = .ok (.iconst 0, 1) := by decide +kernel
theorem dX5_readText_29 : decode cX5_readText 29 = .ok (.putfield 45, 3) := by decide +kernel
theorem dX5_readText_32 : decode cX5_readText 32 = .ok (.aload_n 0, 1) := by decide +kernel
theorem dX5_readText_33 : decode cX5_readText 33 = .ok (.iconst (-1), 1) := by decide +kernel
theorem dX5_readText_34 : decode cX5_readText 34 = .ok (.putfield 9, 3) := by decide +kernel
theorem dX5_readText_37 : decode cX5_readText 37 = .ok (.aload_n 0, 1) := by decide +kernel
theorem dX5_readText_38 : decode cX5_readText 38 = .ok (.iconst 0, 1) := by decide +kernel
theorem dX5_readText_39 : decode cX5_readText 39 = .ok (.putfield 48, 3) := by decide +kernel
theorem dX5_readText_42 : decode cX5_readText 42 = .ok (.aload_n 0, 1) := by decide +kernel
theorem dX5_readText_43 : decode cX5_readText 43 = .ok (.invokevirtual 51, 3) := by decide +kernel
theorem dX5_readText_46 : decode cX5_readText 46 = .ok (.aload_n 0, 1) := by decide +kernel
theorem dX5_readText_47 : decode cX5_readText 47 = .ok (.invokevirtual 54, 3) := by decide +kernel
theorem dX5_readText_50 : decode cX5_readText 50 = .ok (.ifCond .ne 5, 3) := by decide +kernel
theorem dX5_readText_53 : decode cX5_readText 53 = .ok (.iconst 0, 1) := by decide +kernel
theorem dX5_readText_54 : decode cX5_readText 54 = .ok (.ireturn, 1) := by decide +kernel
theorem dX5_readText_55 : decode cX5_readText 55 = .ok (.iconst 0, 1) := by decide +kernel
theorem dX5_readText_56 : decode cX5_readText 56 = .ok (.istore 4, 2) := by decide +kernel
theorem dX5_readText_58 : decode cX5_readText 58 = .ok (.iload 4, 2) := by decide +kernel
theorem dX5_readText_60 : decode cX5_readText 60 = .ok (.aload_n 0, 1) := by decide +kernel
theorem dX5_readText_61 : decode cX5_readText 61 = .ok (.getfield 39, 3) := by decide +kernel
theorem dX5_readText_64 : decode cX5_readText 64 = .ok (.if_icmp .ge 47, 3) := by decide +kernel
theorem dX5_readText_67 : decode cX5_readText 67 = .ok (.aload_n 0, 1) := by decide +kernel
theorem dX5_readText_68 : decode cX5_readText 68 = .ok (.getfield 58, 3) := by decide +kernel
theorem dX5_readText_71 : decode cX5_readText 71 = .ok (.ifCond .eq 40, 3) := by decide +kernel
theorem dX5_readText_74 : decode cX5_readText 74 = .ok (.aload_n 0, 1) := by decide +kernel
theorem dX5_readText_75 : decode cX5_readText 75 = .ok (.invokevirtual 61, 3) := by decide +kernel
theorem dX5_readText_78 : decode cX5_readText 78 = .ok (.ifCond .eq 12, 3) := by decide +kernel
theorem dX5_readText_81 : decode cX5_readText 81 = .ok (.aload_n 0, 1) := by decide +kernel
theorem dX5_readText_82 : decode cX5_readText 82 = .ok (.bipush 59, 2) := by decide +kernel
theorem dX5_readText_84 : decode cX5_readText 84 = .ok (.invokevirtual 64, 3) := by decide +kernel
theorem dX5_readText_87 : decode cX5_readText 87 = .ok (.ifCond .ne 5, 3) := by decide +kernel
theorem dX5_readText_90 : decode cX5_readText 90 = .ok (.iconst 0, 1) := by decide +kernel
theorem dX5_readText_91 : decode cX5_readText 91 = .ok (.ireturn, 1) := by decide +kernel
theorem dX5_readText_92 : decode cX5_readText 92 = .ok (.aload_n 0, 1) := by decide +kernel
theorem dX5_readText_93 : decode cX5_readText 93 = .ok (.getfield 22, 3) := by decide +kernel
theorem dX5_readText_96 : decode cX5_readText 96 = .ok (.dup, 1) := by decide +kernel
theorem dX5_readText_97 : decode cX5_readText 97 = .ok (.getfield 68, 3) := by decide +kernel
theorem dX5_readText_100 : decode cX5_readText 100 = .ok (.iconst 1, 1) := by decide +kernel
theorem dX5_readText_101 : decode cX5_readText 101 = .ok (.iadd, 1) := by decide +kernel
theorem dX5_readText_102 : decode cX5_readText 102 = .ok (.putfield 68, 3) := by decide +kernel
theorem dX5_readText_105 : decode cX5_readText 105 = .ok (.iinc 4 1, 3) := by decide +kernel
theorem dX5_readText_108 : decode cX5_readText 108 = .ok (.goto (-50), 3) := by decide +kernel
theorem dX5_readText_111 : decode cX5_readText 111 = .ok (.iconst 1, 1) := by decide +kernel
theorem dX5_readText_112 : decode cX5_readText 112 = .ok (.ireturn, 1) := by decide +kernel
theorem bX5_readText_0 {d : Nat} {P : Int → q_Mem → Prop} {M : q_Mem} (x1 x2 x3 : Int) (k1 : q_kd x1 = 13) (k3 : q_kd x3 = 4) (h : (∀ M1 : q_Mem, M1 = q_up M 33 2 x1 → (q_kI yJ9_min_7cf53 mJ9_min_7cf53 d [qI x2, qI (q_ln x1 : Int)] M1 (fun v3 M2 => (∀ M4 : q_Mem, M4 = q_up M2 33 3 v3 → (∀ M5 : q_Mem, M5 = q_up M4 33 8 x3 → q_kd (M5 33 8) = 4 ∧ (q_kU yX4_clear mX4_clear d [qR (M5 33 8)] M5 (fun M7 => (∀ M8 : q_Mem, M8 = q_up M7 33 0 0 → (∀ M9 : q_Mem, M9 = q_up M8 33 1 (-1) → (∀ M10 : q_Mem, M10 = q_up M9 33 5 0 → q_kU yX5_advance mX5_advance d [qR 33] M10 (fun M11 => q_kI yX5_readHead mX5_readHead d [qR 33] M11 (fun v13 M12 => ((¬ v13 = 0) → q_v mX5_readText d (qPI P) M12 58 [some (qR 33), none, none, none, some (qI 0)] []) ∧ ((v13 = 0) → P 0 M12)))))))))))))) : q_v mX5_readText d (qPI P) M 0 [some (qR 33), some (qR x1), some (qI x2), some (qR x3), none] [] := by
  refine qr_aload_n 0 1 rfl (x := 33) rfl dX5_readText_0 ?_
  refine qr_aload_n 1 2 rfl (x := x1) rfl dX5_readText_1 ?_
  refine qp_r 2 5 rfl ck5 2 (kk := 2) (by decide) (by decide +kernel) (by decide) (by decide +kernel) rfl wm_130 rfl dX5_readText_2 (fun M1 e_M1 => ?_)
  have h := h M1 e_M1
  refine qr_aload_n 5 6 rfl (x := 33) rfl dX5_readText_5 ?_
  refine qr_iload_n 6 7 rfl (x := x2) rfl dX5_readText_6 ?_
  refine qr_aload_n 7 8 rfl (x := x1) rfl dX5_readText_7 ?_
  refine qr_alen 8 9 rfl (by rw [k1]; decide) dX5_readText_8 (q_ln32 _) ?_
  refine qs_I 9 12 rfl (av := [qI x2, qI (q_ln x1 : Int)]) ca_J9_min_7cf53 wm_452 wm_451 rfl rfl (Nat.le_of_ble_eq_true rfl) dX5_readText_9 h (fun v3 M2 h => ?_)
  refine qp_i 12 15 rfl ck5 3 (kk := 3) (by decide) (by decide +kernel) (by decide) rfl rfl wm_131 rfl dX5_readText_12 (fun M4 e_M4 => ?_)
  have h := h M4 e_M4
  refine qr_aload_n 15 16 rfl (x := 33) rfl dX5_readText_15 ?_
  refine qr_aload_n 16 17 rfl (x := x3) rfl dX5_readText_16 ?_
  refine qp_r 17 20 rfl ck5 8 (kk := 8) (by decide) (by decide +kernel) (by decide) (by decide +kernel) rfl wm_136 rfl dX5_readText_17 (fun M5 e_M5 => ?_)
  have h := h M5 e_M5
  refine qr_aload_n 20 21 rfl (x := 33) rfl dX5_readText_20 ?_
  refine qg_r 21 24 rfl ck5 8 (kk := 8) (by decide) (by decide +kernel) (by decide +kernel) rfl wm_136 rfl dX5_readText_21 ?_
  have hk6 := h.1
  have h := h.2
  refine qw_U 24 27 rfl (av := []) ca_X4_clear wm_455 wm_456 wm_454 ck4 hk6 rfl rfl (Nat.le_of_ble_eq_true rfl) dX5_readText_24 h (fun M7 h => ?_)
  refine qr_aload_n 27 28 rfl (x := 33) rfl dX5_readText_27 ?_
  refine qr_iconst 28 29 rfl (q_l32 _ rfl) dX5_readText_28 ?_
  refine qp_i 29 32 rfl ck5 0 (kk := 0) (by decide) (by decide +kernel) (by decide) rfl rfl wm_126 rfl dX5_readText_29 (fun M8 e_M8 => ?_)
  have h := h M8 e_M8
  refine qr_aload_n 32 33 rfl (x := 33) rfl dX5_readText_32 ?_
  refine qr_iconst 33 34 rfl (q_l32 _ rfl) dX5_readText_33 ?_
  refine qp_i 34 37 rfl ck5 1 (kk := 1) (by decide) (by decide +kernel) (by decide) rfl rfl wm_128 rfl dX5_readText_34 (fun M9 e_M9 => ?_)
  have h := h M9 e_M9
  refine qr_aload_n 37 38 rfl (x := 33) rfl dX5_readText_37 ?_
  refine qr_iconst 38 39 rfl (q_l32 _ rfl) dX5_readText_38 ?_
  refine qp_i 39 42 rfl ck5 5 (kk := 5) (by decide) (by decide +kernel) (by decide) rfl rfl wm_133 rfl dX5_readText_39 (fun M10 e_M10 => ?_)
  have h := h M10 e_M10
  refine qr_aload_n 42 43 rfl (x := 33) rfl dX5_readText_42 ?_
  refine qw_U 43 46 rfl (av := []) ca_X5_advance wm_467 wp_1 wm_465 ck5 (by decide +kernel) rfl rfl (Nat.le_of_ble_eq_true rfl) dX5_readText_43 h (fun M11 h => ?_)
  refine qr_aload_n 46 47 rfl (x := 33) rfl dX5_readText_46 ?_
  refine qw_I 47 50 rfl (av := []) ca_X5_readHead wm_577 wp_5 wm_575 ck5 (by decide +kernel) rfl rfl (Nat.le_of_ble_eq_true rfl) dX5_readText_47 h (fun v13 M12 h => ?_)
  refine qr_if_ne 50 53 55 rfl (by decide) dX5_readText_50 (fun c50 => ?_) (fun c50 => ?_)
  · have h := h.1 c50
    refine qr_iconst 55 56 rfl (q_l32 _ rfl) dX5_readText_55 ?_
    refine qr_istore 56 58 rfl (by decide) rfl rfl dX5_readText_56 ?_
    exact qr_cut 58 (ls' := [some (qR 33), none, none, none, some (qI 0)]) (And.intro rfl (And.intro rfl trivial)) h
  · have h := h.2 c50
    refine qr_iconst 53 54 rfl (q_l32 _ rfl) dX5_readText_53 ?_
    exact qe_z 54 rfl (by decide) dX5_readText_54 h
theorem bX5_readText_58 {d : Nat} {P : Int → q_Mem → Prop} {M : q_Mem} (x4 : Int) (h : (((M 33 3) ≤ x4) → P 1 M) ∧ ((¬ ((M 33 3) ≤ x4)) → (((M 33 6) = 0) → P 1 M) ∧ ((¬ ((M 33 6) = 0)) → q_kI yX5_readLine mX5_readLine d [qR 33] M (fun v2 M1 => ((v2 = 0) → P 0 M1) ∧ ((¬ (v2 = 0)) → q_kI yX5_takeSign mX5_takeSign d [qR 33, qI 59] M1 (fun v4 M3 => ((¬ v4 = 0) → q_kd (M3 33 8) = 4 ∧ ((∀ M6 : q_Mem, M6 = q_up M3 (M3 33 8) 2 (q_add (M3 (M3 33 8) 2) 1) → q_v mX5_readText d (qPI P) M6 58 [some (qR 33), none, none, none, some (qI (q_add x4 1))] []))) ∧ ((v4 = 0) → P 0 M3))))))) : q_v mX5_readText d (qPI P) M 58 [some (qR 33), none, none, none, some (qI x4)] [] := by
  refine qr_iload 58 60 rfl (x := x4) rfl dX5_readText_58 ?_
  refine qr_aload_n 60 61 rfl (x := 33) rfl dX5_readText_60 ?_
  refine qg_i 61 64 rfl ck5 3 (kk := 3) (by decide) (by decide +kernel) (by decide +kernel) rfl wm_131 rfl dX5_readText_61 ?_
  refine qr_icmp_ge 64 67 111 rfl (by decide) dX5_readText_64 (fun c64 => ?_) (fun c64 => ?_)
  · have h := h.1 c64
    refine qr_iconst 111 112 rfl (q_l32 _ rfl) dX5_readText_111 ?_
    exact qe_z 112 rfl (by decide) dX5_readText_112 h
  · have h := h.2 c64
    refine qr_aload_n 67 68 rfl (x := 33) rfl dX5_readText_67 ?_
    refine qg_i 68 71 rfl ck5 6 (kk := 6) (by decide) (by decide +kernel) (by decide +kernel) rfl wm_134 rfl dX5_readText_68 ?_
    refine qr_if_eq 71 74 111 rfl (by decide) dX5_readText_71 (fun c71 => ?_) (fun c71 => ?_)
    · have h := h.1 c71
      refine qr_iconst 111 112 rfl (q_l32 _ rfl) dX5_readText_111 ?_
      exact qe_z 112 rfl (by decide) dX5_readText_112 h
    · have h := h.2 c71
      refine qr_aload_n 74 75 rfl (x := 33) rfl dX5_readText_74 ?_
      refine qw_I 75 78 rfl (av := []) ca_X5_readLine wm_628 wp_12 wm_626 ck5 (by decide +kernel) rfl rfl (Nat.le_of_ble_eq_true rfl) dX5_readText_75 h (fun v2 M1 h => ?_)
      refine qr_if_eq 78 81 90 rfl (by decide) dX5_readText_78 (fun c78 => ?_) (fun c78 => ?_)
      · have h := h.1 c78
        refine qr_iconst 90 91 rfl (q_l32 _ rfl) dX5_readText_90 ?_
        exact qe_z 91 rfl (by decide) dX5_readText_91 h
      · have h := h.2 c78
        refine qr_aload_n 81 82 rfl (x := 33) rfl dX5_readText_81 ?_
        refine qr_bipush 82 84 rfl (q_l32 _ rfl) (by decide) dX5_readText_82 ?_
        refine qw_I 84 87 rfl (av := [qI 59]) ca_X5_takeSign wm_620 wp_10 wm_618 ck5 (by decide +kernel) rfl rfl (Nat.le_of_ble_eq_true rfl) dX5_readText_84 h (fun v4 M3 h => ?_)
        refine qr_if_ne 87 90 92 rfl (by decide) dX5_readText_87 (fun c87 => ?_) (fun c87 => ?_)
        · have h := h.1 c87
          refine qr_aload_n 92 93 rfl (x := 33) rfl dX5_readText_92 ?_
          refine qg_r 93 96 rfl ck5 8 (kk := 8) (by decide) (by decide +kernel) (by decide +kernel) rfl wm_136 rfl dX5_readText_93 ?_
          refine qr_dup 96 97 rfl rfl dX5_readText_96 ?_
          have hk5 := h.1
          have h := h.2
          refine qg_i 97 100 rfl ck4 2 (kk := 2) (by decide) hk5 (by decide +kernel) rfl wm_70 rfl dX5_readText_97 ?_
          refine qr_iconst 100 101 rfl (q_l32 _ rfl) dX5_readText_100 ?_
          refine qr_iadd 101 102 rfl dX5_readText_101 ?_
          refine qp_i 102 105 rfl ck4 2 (kk := 2) (by decide) hk5 (by decide) rfl rfl wm_70 rfl dX5_readText_102 (fun M6 e_M6 => ?_)
          have h := h M6 e_M6
          refine qr_iinc 105 108 rfl (by decide) (x := x4) rfl rfl rfl dX5_readText_105 ?_
          refine qr_goto 108 58 (by decide) dX5_readText_108 ?_
          exact h
        · have h := h.2 c87
          refine qr_iconst 90 91 rfl (q_l32 _ rfl) dX5_readText_90 ?_
          exact qe_z 91 rfl (by decide) dX5_readText_91 h
theorem dX5_readHead_0 : decode cX5_readHead 0 = .ok (.aload_n 0, 1) := by decide +kernel
theorem dX5_readHead_1 : decode cX5_readHead 1 = .ok (.ldc 71, 2) := by decide +kernel
theorem dX5_readHead_3 : decode cX5_readHead 3 = .ok (.invokevirtual 73, 3) := by decide +kernel
theorem dX5_readHead_6 : decode cX5_readHead 6 = .ok (.ifCond .eq 12, 3) := by decide +kernel
theorem dX5_readHead_9 : decode cX5_readHead 9 = .ok (.aload_n 0, 1) := by decide +kernel
theorem dX5_readHead_10 : decode cX5_readHead 10 = .ok (.ldc 77, 2) := by decide +kernel
theorem dX5_readHead_12 : decode cX5_readHead 12 = .ok (.invokevirtual 73, 3) := by decide +kernel
theorem dX5_readHead_15 : decode cX5_readHead 15 = .ok (.ifCond .ne 5, 3) := by decide +kernel
theorem dX5_readHead_18 : decode cX5_readHead 18 = .ok (.iconst 0, 1) := by decide +kernel
theorem dX5_readHead_19 : decode cX5_readHead 19 = .ok (.ireturn, 1) := by decide +kernel
theorem dX5_readHead_20 : decode cX5_readHead 20 = .ok (.aload_n 0, 1) := by decide +kernel
theorem dX5_readHead_21 : decode cX5_readHead 21 = .ok (.bipush 9, 2) := by decide +kernel
theorem dX5_readHead_23 : decode cX5_readHead 23 = .ok (.invokevirtual 79, 3) := by decide +kernel
theorem dX5_readHead_26 : decode cX5_readHead 26 = .ok (.istore_n 1, 1) := by decide +kernel
theorem dX5_readHead_27 : decode cX5_readHead 27 = .ok (.iload_n 1, 1) := by decide +kernel
theorem dX5_readHead_28 : decode cX5_readHead 28 = .ok (.ifCond .lt 12, 3) := by decide +kernel
theorem dX5_readHead_31 : decode cX5_readHead 31 = .ok (.aload_n 0, 1) := by decide +kernel
theorem dX5_readHead_32 : decode cX5_readHead 32 = .ok (.bipush 59, 2) := by decide +kernel
theorem dX5_readHead_34 : decode cX5_readHead 34 = .ok (.invokevirtual 64, 3) := by decide +kernel
theorem dX5_readHead_37 : decode cX5_readHead 37 = .ok (.ifCond .ne 5, 3) := by decide +kernel
theorem dX5_readHead_40 : decode cX5_readHead 40 = .ok (.iconst 0, 1) := by decide +kernel
theorem dX5_readHead_41 : decode cX5_readHead 41 = .ok (.ireturn, 1) := by decide +kernel
theorem dX5_readHead_42 : decode cX5_readHead 42 = .ok (.aload_n 0, 1) := by decide +kernel
theorem dX5_readHead_43 : decode cX5_readHead 43 = .ok (.getfield 22, 3) := by decide +kernel
theorem dX5_readHead_46 : decode cX5_readHead 46 = .ok (.iload_n 1, 1) := by decide +kernel
theorem dX5_readHead_47 : decode cX5_readHead 47 = .ok (.putfield 83, 3) := by decide +kernel
theorem dX5_readHead_50 : decode cX5_readHead 50 = .ok (.aload_n 0, 1) := by decide +kernel
theorem dX5_readHead_51 : decode cX5_readHead 51 = .ok (.getfield 22, 3) := by decide +kernel
theorem dX5_readHead_54 : decode cX5_readHead 54 = .ok (.iconst 1, 1) := by decide +kernel
theorem dX5_readHead_55 : decode cX5_readHead 55 = .ok (.putfield 68, 3) := by decide +kernel
theorem dX5_readHead_58 : decode cX5_readHead 58 = .ok (.iconst 1, 1) := by decide +kernel
theorem dX5_readHead_59 : decode cX5_readHead 59 = .ok (.ireturn, 1) := by decide +kernel
theorem bX5_readHead_0 {d : Nat} {P : Int → q_Mem → Prop} {M : q_Mem} (h : q_kI yX5_takeWord mX5_takeWord d [qR 33, qR (-((0 : Nat) : Int) - 1)] M (fun v2 M1 => ((v2 = 0) → P 0 M1) ∧ ((¬ (v2 = 0)) → q_kI yX5_takeWord mX5_takeWord d [qR 33, qR (-((1 : Nat) : Int) - 1)] M1 (fun v4 M3 => ((¬ v4 = 0) → q_kI yX5_takeNumber mX5_takeNumber d [qR 33, qI 9] M3 (fun v6 M5 => ((v6 < 0) → P 0 M5) ∧ ((¬ (v6 < 0)) → q_kI yX5_takeSign mX5_takeSign d [qR 33, qI 59] M5 (fun v8 M7 => ((¬ v8 = 0) → q_kd (M7 33 8) = 4 ∧ (∀ M10 : q_Mem, M10 = q_up M7 (M7 33 8) 3 v6 → q_kd (M10 33 8) = 4 ∧ (∀ M12 : q_Mem, M12 = q_up M10 (M10 33 8) 2 1 → P 1 M12))) ∧ ((v8 = 0) → P 0 M7))))) ∧ ((v4 = 0) → P 0 M3))))) : q_v mX5_readHead d (qPI P) M 0 [some (qR 33), none] [] := by
  refine qr_aload_n 0 1 rfl (x := 33) rfl dX5_readHead_0 ?_
  refine qr_ldcS 1 3 rfl 0 (by decide) rfl rfl rfl dX5_readHead_1 ?_
  refine qw_I 3 6 rfl (av := [qR (-((0 : Nat) : Int) - 1)]) ca_X5_takeWord wm_582 wp_6 wm_580 ck5 (by decide +kernel) rfl rfl (Nat.le_of_ble_eq_true rfl) dX5_readHead_3 h (fun v2 M1 h => ?_)
  refine qr_if_eq 6 9 18 rfl (by decide) dX5_readHead_6 (fun c6 => ?_) (fun c6 => ?_)
  · have h := h.1 c6
    refine qr_iconst 18 19 rfl (q_l32 _ rfl) dX5_readHead_18 ?_
    exact qe_z 19 rfl (by decide) dX5_readHead_19 h
  · have h := h.2 c6
    refine qr_aload_n 9 10 rfl (x := 33) rfl dX5_readHead_9 ?_
    refine qr_ldcS 10 12 rfl 1 (by decide) rfl rfl rfl dX5_readHead_10 ?_
    refine qw_I 12 15 rfl (av := [qR (-((1 : Nat) : Int) - 1)]) ca_X5_takeWord wm_582 wp_6 wm_580 ck5 (by decide +kernel) rfl rfl (Nat.le_of_ble_eq_true rfl) dX5_readHead_12 h (fun v4 M3 h => ?_)
    refine qr_if_ne 15 18 20 rfl (by decide) dX5_readHead_15 (fun c15 => ?_) (fun c15 => ?_)
    · have h := h.1 c15
      refine qr_aload_n 20 21 rfl (x := 33) rfl dX5_readHead_20 ?_
      refine qr_bipush 21 23 rfl (q_l32 _ rfl) (by decide) dX5_readHead_21 ?_
      refine qw_I 23 26 rfl (av := [qI 9]) ca_X5_takeNumber wm_616 wp_9 wm_614 ck5 (by decide +kernel) rfl rfl (Nat.le_of_ble_eq_true rfl) dX5_readHead_23 h (fun v6 M5 h => ?_)
      refine qr_istore_n 26 27 rfl (by decide) rfl rfl dX5_readHead_26 ?_
      refine qr_iload_n 27 28 rfl (x := v6) rfl dX5_readHead_27 ?_
      refine qr_if_lt 28 31 40 rfl (by decide) dX5_readHead_28 (fun c28 => ?_) (fun c28 => ?_)
      · have h := h.1 c28
        refine qr_iconst 40 41 rfl (q_l32 _ rfl) dX5_readHead_40 ?_
        exact qe_z 41 rfl (by decide) dX5_readHead_41 h
      · have h := h.2 c28
        refine qr_aload_n 31 32 rfl (x := 33) rfl dX5_readHead_31 ?_
        refine qr_bipush 32 34 rfl (q_l32 _ rfl) (by decide) dX5_readHead_32 ?_
        refine qw_I 34 37 rfl (av := [qI 59]) ca_X5_takeSign wm_620 wp_10 wm_618 ck5 (by decide +kernel) rfl rfl (Nat.le_of_ble_eq_true rfl) dX5_readHead_34 h (fun v8 M7 h => ?_)
        refine qr_if_ne 37 40 42 rfl (by decide) dX5_readHead_37 (fun c37 => ?_) (fun c37 => ?_)
        · have h := h.1 c37
          refine qr_aload_n 42 43 rfl (x := 33) rfl dX5_readHead_42 ?_
          refine qg_r 43 46 rfl ck5 8 (kk := 8) (by decide) (by decide +kernel) (by decide +kernel) rfl wm_136 rfl dX5_readHead_43 ?_
          refine qr_iload_n 46 47 rfl (x := v6) rfl dX5_readHead_46 ?_
          have hk9 := h.1
          have h := h.2
          refine qp_i 47 50 rfl ck4 3 (kk := 3) (by decide) hk9 (by decide) rfl rfl wm_73 rfl dX5_readHead_47 (fun M10 e_M10 => ?_)
          have h := h M10 e_M10
          refine qr_aload_n 50 51 rfl (x := 33) rfl dX5_readHead_50 ?_
          refine qg_r 51 54 rfl ck5 8 (kk := 8) (by decide) (by decide +kernel) (by decide +kernel) rfl wm_136 rfl dX5_readHead_51 ?_
          refine qr_iconst 54 55 rfl (q_l32 _ rfl) dX5_readHead_54 ?_
          have hk11 := h.1
          have h := h.2
          refine qp_i 55 58 rfl ck4 2 (kk := 2) (by decide) hk11 (by decide) rfl rfl wm_70 rfl dX5_readHead_55 (fun M12 e_M12 => ?_)
          have h := h M12 e_M12
          refine qr_iconst 58 59 rfl (q_l32 _ rfl) dX5_readHead_58 ?_
          exact qe_z 59 rfl (by decide) dX5_readHead_59 h
        · have h := h.2 c37
          refine qr_iconst 40 41 rfl (q_l32 _ rfl) dX5_readHead_40 ?_
          exact qe_z 41 rfl (by decide) dX5_readHead_41 h
    · have h := h.2 c15
      refine qr_iconst 18 19 rfl (q_l32 _ rfl) dX5_readHead_18 ?_
      exact qe_z 19 rfl (by decide) dX5_readHead_19 h
theorem dX5_readLine_0 : decode cX5_readLine 0 = .ok (.aload_n 0, 1) := by decide +kernel
theorem dX5_readLine_1 : decode cX5_readLine 1 = .ok (.ldc 86, 2) := by decide +kernel
theorem dX5_readLine_3 : decode cX5_readLine 3 = .ok (.invokevirtual 88, 3) := by decide +kernel
theorem dX5_readLine_6 : decode cX5_readLine 6 = .ok (.ifCond .eq 8, 3) := by decide +kernel
theorem dX5_readLine_9 : decode cX5_readLine 9 = .ok (.aload_n 0, 1) := by decide +kernel
theorem dX5_readLine_10 : decode cX5_readLine 10 = .ok (.invokevirtual 91, 3) := by decide +kernel
theorem dX5_readLine_13 : decode cX5_readLine 13 = .ok (.ireturn, 1) := by decide +kernel
theorem dX5_readLine_14 : decode cX5_readLine 14 = .ok (.aload_n 0, 1) := by decide +kernel
theorem dX5_readLine_15 : decode cX5_readLine 15 = .ok (.ldc 94, 2) := by decide +kernel
theorem dX5_readLine_17 : decode cX5_readLine 17 = .ok (.invokevirtual 88, 3) := by decide +kernel
theorem dX5_readLine_20 : decode cX5_readLine 20 = .ok (.ifCond .eq 8, 3) := by decide +kernel
theorem dX5_readLine_23 : decode cX5_readLine 23 = .ok (.aload_n 0, 1) := by decide +kernel
theorem dX5_readLine_24 : decode cX5_readLine 24 = .ok (.invokevirtual 96, 3) := by decide +kernel
theorem dX5_readLine_27 : decode cX5_readLine 27 = .ok (.ireturn, 1) := by decide +kernel
theorem dX5_readLine_28 : decode cX5_readLine 28 = .ok (.aload_n 0, 1) := by decide +kernel
theorem dX5_readLine_29 : decode cX5_readLine 29 = .ok (.ldc 99, 2) := by decide +kernel
theorem dX5_readLine_31 : decode cX5_readLine 31 = .ok (.invokevirtual 88, 3) := by decide +kernel
theorem dX5_readLine_34 : decode cX5_readLine 34 = .ok (.ifCond .eq 8, 3) := by decide +kernel
theorem dX5_readLine_37 : decode cX5_readLine 37 = .ok (.aload_n 0, 1) := by decide +kernel
theorem dX5_readLine_38 : decode cX5_readLine 38 = .ok (.invokevirtual 101, 3) := by decide +kernel
theorem dX5_readLine_41 : decode cX5_readLine 41 = .ok (.ireturn, 1) := by decide +kernel
theorem dX5_readLine_42 : decode cX5_readLine 42 = .ok (.aload_n 0, 1) := by decide +kernel
theorem dX5_readLine_43 : decode cX5_readLine 43 = .ok (.ldc 104, 2) := by decide +kernel
theorem dX5_readLine_45 : decode cX5_readLine 45 = .ok (.invokevirtual 88, 3) := by decide +kernel
theorem dX5_readLine_48 : decode cX5_readLine 48 = .ok (.ifCond .eq 31, 3) := by decide +kernel
theorem dX5_readLine_51 : decode cX5_readLine 51 = .ok (.aload_n 0, 1) := by decide +kernel
theorem dX5_readLine_52 : decode cX5_readLine 52 = .ok (.aload_n 0, 1) := by decide +kernel
theorem dX5_readLine_53 : decode cX5_readLine 53 = .ok (.getfield 22, 3) := by decide +kernel
theorem dX5_readLine_56 : decode cX5_readLine 56 = .ok (.getfield 26, 3) := by decide +kernel
theorem dX5_readLine_59 : decode cX5_readLine 59 = .ok (.invokevirtual 105, 3) := by decide +kernel
theorem dX5_readLine_62 : decode cX5_readLine 62 = .ok (.ifCond .eq 15, 3) := by decide +kernel
theorem dX5_readLine_65 : decode cX5_readLine 65 = .ok (.aload_n 0, 1) := by decide +kernel
theorem dX5_readLine_66 : decode cX5_readLine 66 = .ok (.iconst 0, 1) := by decide +kernel
theorem dX5_readLine_67 : decode cX5_readLine 67 = .ok (.invokevirtual 109, 3) := by decide +kernel
theorem dX5_readLine_70 : decode cX5_readLine 70 = .ok (.ifCond .eq 7, 3) := by decide +kernel
theorem dX5_readLine_73 : decode cX5_readLine 73 = .ok (.iconst 1, 1) := by decide +kernel
theorem dX5_readLine_74 : decode cX5_readLine 74 = .ok (.goto 4, 3) := by decide +kernel
theorem dX5_readLine_77 : decode cX5_readLine 77 = .ok (.iconst 0, 1) := by decide +kernel
theorem dX5_readLine_78 : decode cX5_readLine 78 = .ok (.ireturn, 1) := by decide +kernel
theorem dX5_readLine_79 : decode cX5_readLine 79 = .ok (.aload_n 0, 1) := by decide +kernel
theorem dX5_readLine_80 : decode cX5_readLine 80 = .ok (.ldc 113, 2) := by decide +kernel
theorem dX5_readLine_82 : decode cX5_readLine 82 = .ok (.invokevirtual 88, 3) := by decide +kernel
theorem dX5_readLine_85 : decode cX5_readLine 85 = .ok (.ifCond .eq 31, 3) := by decide +kernel
theorem dX5_readLine_88 : decode cX5_readLine 88 = .ok (.aload_n 0, 1) := by decide +kernel
theorem dX5_readLine_89 : decode cX5_readLine 89 = .ok (.aload_n 0, 1) := by decide +kernel
theorem dX5_readLine_90 : decode cX5_readLine 90 = .ok (.getfield 22, 3) := by decide +kernel
theorem dX5_readLine_93 : decode cX5_readLine 93 = .ok (.getfield 115, 3) := by decide +kernel
theorem dX5_readLine_96 : decode cX5_readLine 96 = .ok (.invokevirtual 105, 3) := by decide +kernel
theorem dX5_readLine_99 : decode cX5_readLine 99 = .ok (.ifCond .eq 15, 3) := by decide +kernel
theorem dX5_readLine_102 : decode cX5_readLine 102 = .ok (.aload_n 0, 1) := by decide +kernel
theorem dX5_readLine_103 : decode cX5_readLine 103 = .ok (.iconst 0, 1) := by decide +kernel
theorem dX5_readLine_104 : decode cX5_readLine 104 = .ok (.invokevirtual 117, 3) := by decide +kernel
theorem dX5_readLine_107 : decode cX5_readLine 107 = .ok (.ifCond .eq 7, 3) := by decide +kernel
theorem dX5_readLine_110 : decode cX5_readLine 110 = .ok (.iconst 1, 1) := by decide +kernel
theorem dX5_readLine_111 : decode cX5_readLine 111 = .ok (.goto 4, 3) := by decide +kernel
theorem dX5_readLine_114 : decode cX5_readLine 114 = .ok (.iconst 0, 1) := by decide +kernel
theorem dX5_readLine_115 : decode cX5_readLine 115 = .ok (.ireturn, 1) := by decide +kernel
theorem dX5_readLine_116 : decode cX5_readLine 116 = .ok (.aload_n 0, 1) := by decide +kernel
theorem dX5_readLine_117 : decode cX5_readLine 117 = .ok (.iconst 2, 1) := by decide +kernel
theorem dX5_readLine_118 : decode cX5_readLine 118 = .ok (.invokevirtual 120, 3) := by decide +kernel
theorem dX5_readLine_121 : decode cX5_readLine 121 = .ok (.ireturn, 1) := by decide +kernel
theorem bX5_readLine_0 {d : Nat} {P : Int → q_Mem → Prop} {M : q_Mem} (h : q_kI yX5_isWord mX5_isWord d [qR 33, qR (-((2 : Nat) : Int) - 1)] M (fun v2 M1 => ((v2 = 0) → q_kI yX5_isWord mX5_isWord d [qR 33, qR (-((3 : Nat) : Int) - 1)] M1 (fun v4 M3 => ((v4 = 0) → q_kI yX5_isWord mX5_isWord d [qR 33, qR (-((4 : Nat) : Int) - 1)] M3 (fun v6 M5 => ((v6 = 0) → q_kI yX5_isWord mX5_isWord d [qR 33, qR (-((5 : Nat) : Int) - 1)] M5 (fun v8 M7 => ((v8 = 0) → q_kI yX5_isWord mX5_isWord d [qR 33, qR (-((6 : Nat) : Int) - 1)] M7 (fun v10 M9 => ((v10 = 0) → q_kI yX5_refuse mX5_refuse d [qR 33, qI 2] M9 (fun v12 M11 => (v12 = 0 ∨ v12 = 1) ∧ P v12 M11)) ∧ ((¬ (v10 = 0)) → q_kd (M9 33 8) = 4 ∧ (q_kI yX5_startLaw mX5_startLaw d [qR 33, qR (q_lay (M9 33 8) 11)] M9 (fun v15 M14 => ((v15 = 0) → P 0 M14) ∧ ((¬ (v15 = 0)) → q_kI yX5_readTruth mX5_readTruth d [qR 33, qI 0] M14 (fun v17 M16 => ((v17 = 0) → P 0 M16) ∧ ((¬ (v17 = 0)) → P 1 M16)))))))) ∧ ((¬ (v8 = 0)) → q_kd (M7 33 8) = 4 ∧ (q_kI yX5_startLaw mX5_startLaw d [qR 33, qR (q_lay (M7 33 8) 10)] M7 (fun v20 M19 => ((v20 = 0) → P 0 M19) ∧ ((¬ (v20 = 0)) → q_kI yX5_readSum mX5_readSum d [qR 33, qI 0] M19 (fun v22 M21 => ((v22 = 0) → P 0 M21) ∧ ((¬ (v22 = 0)) → P 1 M21)))))))) ∧ ((¬ (v6 = 0)) → q_kI yX5_readRound mX5_readRound d [qR 33] M5 (fun v24 M23 => (v24 = 0 ∨ v24 = 1) ∧ P v24 M23)))) ∧ ((¬ (v4 = 0)) → q_kI yX5_readLink mX5_readLink d [qR 33] M3 (fun v26 M25 => (v26 = 0 ∨ v26 = 1) ∧ P v26 M25)))) ∧ ((¬ (v2 = 0)) → q_kI yX5_readNode mX5_readNode d [qR 33] M1 (fun v28 M27 => (v28 = 0 ∨ v28 = 1) ∧ P v28 M27)))) : q_v mX5_readLine d (qPI P) M 0 [some (qR 33)] [] := by
  refine qr_aload_n 0 1 rfl (x := 33) rfl dX5_readLine_0 ?_
  refine qr_ldcS 1 3 rfl 2 (by decide) rfl rfl rfl dX5_readLine_1 ?_
  refine qw_I 3 6 rfl (av := [qR (-((2 : Nat) : Int) - 1)]) ca_X5_isWord wm_586 wp_7 wm_584 ck5 (by decide +kernel) rfl rfl (Nat.le_of_ble_eq_true rfl) dX5_readLine_3 h (fun v2 M1 h => ?_)
  refine qr_if_eq 6 9 14 rfl (by decide) dX5_readLine_6 (fun c6 => ?_) (fun c6 => ?_)
  · have h := h.1 c6
    refine qr_aload_n 14 15 rfl (x := 33) rfl dX5_readLine_14 ?_
    refine qr_ldcS 15 17 rfl 3 (by decide) rfl rfl rfl dX5_readLine_15 ?_
    refine qw_I 17 20 rfl (av := [qR (-((3 : Nat) : Int) - 1)]) ca_X5_isWord wm_586 wp_7 wm_584 ck5 (by decide +kernel) rfl rfl (Nat.le_of_ble_eq_true rfl) dX5_readLine_17 h (fun v4 M3 h => ?_)
    refine qr_if_eq 20 23 28 rfl (by decide) dX5_readLine_20 (fun c20 => ?_) (fun c20 => ?_)
    · have h := h.1 c20
      refine qr_aload_n 28 29 rfl (x := 33) rfl dX5_readLine_28 ?_
      refine qr_ldcS 29 31 rfl 4 (by decide) rfl rfl rfl dX5_readLine_29 ?_
      refine qw_I 31 34 rfl (av := [qR (-((4 : Nat) : Int) - 1)]) ca_X5_isWord wm_586 wp_7 wm_584 ck5 (by decide +kernel) rfl rfl (Nat.le_of_ble_eq_true rfl) dX5_readLine_31 h (fun v6 M5 h => ?_)
      refine qr_if_eq 34 37 42 rfl (by decide) dX5_readLine_34 (fun c34 => ?_) (fun c34 => ?_)
      · have h := h.1 c34
        refine qr_aload_n 42 43 rfl (x := 33) rfl dX5_readLine_42 ?_
        refine qr_ldcS 43 45 rfl 5 (by decide) rfl rfl rfl dX5_readLine_43 ?_
        refine qw_I 45 48 rfl (av := [qR (-((5 : Nat) : Int) - 1)]) ca_X5_isWord wm_586 wp_7 wm_584 ck5 (by decide +kernel) rfl rfl (Nat.le_of_ble_eq_true rfl) dX5_readLine_45 h (fun v8 M7 h => ?_)
        refine qr_if_eq 48 51 79 rfl (by decide) dX5_readLine_48 (fun c48 => ?_) (fun c48 => ?_)
        · have h := h.1 c48
          refine qr_aload_n 79 80 rfl (x := 33) rfl dX5_readLine_79 ?_
          refine qr_ldcS 80 82 rfl 6 (by decide) rfl rfl rfl dX5_readLine_80 ?_
          refine qw_I 82 85 rfl (av := [qR (-((6 : Nat) : Int) - 1)]) ca_X5_isWord wm_586 wp_7 wm_584 ck5 (by decide +kernel) rfl rfl (Nat.le_of_ble_eq_true rfl) dX5_readLine_82 h (fun v10 M9 h => ?_)
          refine qr_if_eq 85 88 116 rfl (by decide) dX5_readLine_85 (fun c85 => ?_) (fun c85 => ?_)
          · have h := h.1 c85
            refine qr_aload_n 116 117 rfl (x := 33) rfl dX5_readLine_116 ?_
            refine qr_iconst 117 118 rfl (q_l32 _ rfl) dX5_readLine_117 ?_
            refine qw_I 118 121 rfl (av := [qI 2]) ca_X5_refuse wm_611 wp_8 wm_609 ck5 (by decide +kernel) rfl rfl (Nat.le_of_ble_eq_true rfl) dX5_readLine_118 h (fun v12 M11 h => ?_)
            exact qe_z 121 rfl h.1 dX5_readLine_121 h.2
          · have h := h.2 c85
            refine qr_aload_n 88 89 rfl (x := 33) rfl dX5_readLine_88 ?_
            refine qr_aload_n 89 90 rfl (x := 33) rfl dX5_readLine_89 ?_
            refine qg_r 90 93 rfl ck5 8 (kk := 8) (by decide) (by decide +kernel) (by decide +kernel) rfl wm_136 rfl dX5_readLine_90 ?_
            have hk13 := h.1
            have h := h.2
            refine qr_getF 93 96 rfl ck4 11 (by decide) (b := (q_lay (M9 33 8) 11)) hk13 rfl (by decide +kernel) rfl wm_92 rfl dX5_readLine_93 ?_
            refine qw_I 96 99 rfl (av := [qR (q_lay (M9 33 8) 11)]) ca_X5_startLaw wm_666 wp_16 wm_664 ck5 (by decide +kernel) rfl rfl (Nat.le_of_ble_eq_true rfl) dX5_readLine_96 h (fun v15 M14 h => ?_)
            refine qr_if_eq 99 102 114 rfl (by decide) dX5_readLine_99 (fun c99 => ?_) (fun c99 => ?_)
            · have h := h.1 c99
              refine qr_iconst 114 115 rfl (q_l32 _ rfl) dX5_readLine_114 ?_
              exact qe_z 115 rfl (by decide) dX5_readLine_115 h
            · have h := h.2 c99
              refine qr_aload_n 102 103 rfl (x := 33) rfl dX5_readLine_102 ?_
              refine qr_iconst 103 104 rfl (q_l32 _ rfl) dX5_readLine_103 ?_
              refine qw_I 104 107 rfl (av := [qI 0]) ca_X5_readTruth wm_692 wp_22 wm_690 ck5 (by decide +kernel) rfl rfl (Nat.le_of_ble_eq_true rfl) dX5_readLine_104 h (fun v17 M16 h => ?_)
              refine qr_if_eq 107 110 114 rfl (by decide) dX5_readLine_107 (fun c107 => ?_) (fun c107 => ?_)
              · have h := h.1 c107
                refine qr_iconst 114 115 rfl (q_l32 _ rfl) dX5_readLine_114 ?_
                exact qe_z 115 rfl (by decide) dX5_readLine_115 h
              · have h := h.2 c107
                refine qr_iconst 110 111 rfl (q_l32 _ rfl) dX5_readLine_110 ?_
                refine qr_goto 111 115 (by decide) dX5_readLine_111 ?_
                exact qe_z 115 rfl (by decide) dX5_readLine_115 h
        · have h := h.2 c48
          refine qr_aload_n 51 52 rfl (x := 33) rfl dX5_readLine_51 ?_
          refine qr_aload_n 52 53 rfl (x := 33) rfl dX5_readLine_52 ?_
          refine qg_r 53 56 rfl ck5 8 (kk := 8) (by decide) (by decide +kernel) (by decide +kernel) rfl wm_136 rfl dX5_readLine_53 ?_
          have hk18 := h.1
          have h := h.2
          refine qr_getF 56 59 rfl ck4 10 (by decide) (b := (q_lay (M7 33 8) 10)) hk18 rfl (by decide +kernel) rfl wm_89 rfl dX5_readLine_56 ?_
          refine qw_I 59 62 rfl (av := [qR (q_lay (M7 33 8) 10)]) ca_X5_startLaw wm_666 wp_16 wm_664 ck5 (by decide +kernel) rfl rfl (Nat.le_of_ble_eq_true rfl) dX5_readLine_59 h (fun v20 M19 h => ?_)
          refine qr_if_eq 62 65 77 rfl (by decide) dX5_readLine_62 (fun c62 => ?_) (fun c62 => ?_)
          · have h := h.1 c62
            refine qr_iconst 77 78 rfl (q_l32 _ rfl) dX5_readLine_77 ?_
            exact qe_z 78 rfl (by decide) dX5_readLine_78 h
          · have h := h.2 c62
            refine qr_aload_n 65 66 rfl (x := 33) rfl dX5_readLine_65 ?_
            refine qr_iconst 66 67 rfl (q_l32 _ rfl) dX5_readLine_66 ?_
            refine qw_I 67 70 rfl (av := [qI 0]) ca_X5_readSum wm_671 wp_17 wm_669 ck5 (by decide +kernel) rfl rfl (Nat.le_of_ble_eq_true rfl) dX5_readLine_67 h (fun v22 M21 h => ?_)
            refine qr_if_eq 70 73 77 rfl (by decide) dX5_readLine_70 (fun c70 => ?_) (fun c70 => ?_)
            · have h := h.1 c70
              refine qr_iconst 77 78 rfl (q_l32 _ rfl) dX5_readLine_77 ?_
              exact qe_z 78 rfl (by decide) dX5_readLine_78 h
            · have h := h.2 c70
              refine qr_iconst 73 74 rfl (q_l32 _ rfl) dX5_readLine_73 ?_
              refine qr_goto 74 78 (by decide) dX5_readLine_74 ?_
              exact qe_z 78 rfl (by decide) dX5_readLine_78 h
      · have h := h.2 c34
        refine qr_aload_n 37 38 rfl (x := 33) rfl dX5_readLine_37 ?_
        refine qw_I 38 41 rfl (av := []) ca_X5_readRound wm_649 wp_15 wm_647 ck5 (by decide +kernel) rfl rfl (Nat.le_of_ble_eq_true rfl) dX5_readLine_38 h (fun v24 M23 h => ?_)
        exact qe_z 41 rfl h.1 dX5_readLine_41 h.2
    · have h := h.2 c20
      refine qr_aload_n 23 24 rfl (x := 33) rfl dX5_readLine_23 ?_
      refine qw_I 24 27 rfl (av := []) ca_X5_readLink wm_638 wp_14 wm_636 ck5 (by decide +kernel) rfl rfl (Nat.le_of_ble_eq_true rfl) dX5_readLine_24 h (fun v26 M25 h => ?_)
      exact qe_z 27 rfl h.1 dX5_readLine_27 h.2
  · have h := h.2 c6
    refine qr_aload_n 9 10 rfl (x := 33) rfl dX5_readLine_9 ?_
    refine qw_I 10 13 rfl (av := []) ca_X5_readNode wm_633 wp_13 wm_631 ck5 (by decide +kernel) rfl rfl (Nat.le_of_ble_eq_true rfl) dX5_readLine_10 h (fun v28 M27 h => ?_)
    exact qe_z 13 rfl h.1 dX5_readLine_13 h.2
theorem dX5_readNode_0 : decode cX5_readNode 0 = .ok (.aload_n 0, 1) := by decide +kernel
theorem dX5_readNode_1 : decode cX5_readNode 1 = .ok (.getfield 22, 3) := by decide +kernel
theorem dX5_readNode_4 : decode cX5_readNode 4 = .ok (.getfield 123, 3) := by decide +kernel
theorem dX5_readNode_7 : decode cX5_readNode 7 = .ok (.bipush 10, 2) := by decide +kernel
theorem dX5_readNode_9 : decode cX5_readNode 9 = .ok (.if_icmp .lt 9, 3) := by decide +kernel
theorem dX5_readNode_12 : decode cX5_readNode 12 = .ok (.aload_n 0, 1) := by decide +kernel
theorem dX5_readNode_13 : decode cX5_readNode 13 = .ok (.iconst 4, 1) := by decide +kernel
theorem dX5_readNode_14 : decode cX5_readNode 14 = .ok (.invokevirtual 120, 3) := by decide +kernel
theorem dX5_readNode_17 : decode cX5_readNode 17 = .ok (.ireturn, 1) := by decide +kernel
theorem dX5_readNode_18 : decode cX5_readNode 18 = .ok (.aload_n 0, 1) := by decide +kernel
theorem dX5_readNode_19 : decode cX5_readNode 19 = .ok (.getfield 22, 3) := by decide +kernel
theorem dX5_readNode_22 : decode cX5_readNode 22 = .ok (.dup, 1) := by decide +kernel
theorem dX5_readNode_23 : decode cX5_readNode 23 = .ok (.getfield 123, 3) := by decide +kernel
theorem dX5_readNode_26 : decode cX5_readNode 26 = .ok (.iconst 1, 1) := by decide +kernel
theorem dX5_readNode_27 : decode cX5_readNode 27 = .ok (.iadd, 1) := by decide +kernel
theorem dX5_readNode_28 : decode cX5_readNode 28 = .ok (.putfield 123, 3) := by decide +kernel
theorem dX5_readNode_31 : decode cX5_readNode 31 = .ok (.aload_n 0, 1) := by decide +kernel
theorem dX5_readNode_32 : decode cX5_readNode 32 = .ok (.invokevirtual 51, 3) := by decide +kernel
theorem dX5_readNode_35 : decode cX5_readNode 35 = .ok (.iconst 1, 1) := by decide +kernel
theorem dX5_readNode_36 : decode cX5_readNode 36 = .ok (.ireturn, 1) := by decide +kernel
theorem bX5_readNode_0 {d : Nat} {P : Int → q_Mem → Prop} {M : q_Mem} (h : q_kd (M 33 8) = 4 ∧ ((((M (M 33 8) 0) < (10 : Int)) → (∀ M2 : q_Mem, M2 = q_up M (M 33 8) 0 (q_add (M (M 33 8) 0) 1) → q_kU yX5_advance mX5_advance d [qR 33] M2 (fun M3 => P 1 M3))) ∧ ((¬ ((M (M 33 8) 0) < (10 : Int))) → q_kI yX5_refuse mX5_refuse d [qR 33, qI 4] M (fun v5 M4 => (v5 = 0 ∨ v5 = 1) ∧ P v5 M4)))) : q_v mX5_readNode d (qPI P) M 0 [some (qR 33)] [] := by
  refine qr_aload_n 0 1 rfl (x := 33) rfl dX5_readNode_0 ?_
  refine qg_r 1 4 rfl ck5 8 (kk := 8) (by decide) (by decide +kernel) (by decide +kernel) rfl wm_136 rfl dX5_readNode_1 ?_
  have hk1 := h.1
  have h := h.2
  refine qg_i 4 7 rfl ck4 0 (kk := 0) (by decide) hk1 (by decide +kernel) rfl wm_62 rfl dX5_readNode_4 ?_
  refine qr_bipush 7 9 rfl (q_l32 _ rfl) (by decide) dX5_readNode_7 ?_
  refine qr_icmp_lt 9 12 18 rfl (by decide) dX5_readNode_9 (fun c9 => ?_) (fun c9 => ?_)
  · have h := h.1 c9
    refine qr_aload_n 18 19 rfl (x := 33) rfl dX5_readNode_18 ?_
    refine qg_r 19 22 rfl ck5 8 (kk := 8) (by decide) (by decide +kernel) (by decide +kernel) rfl wm_136 rfl dX5_readNode_19 ?_
    refine qr_dup 22 23 rfl rfl dX5_readNode_22 ?_
    refine qg_i 23 26 rfl ck4 0 (kk := 0) (by decide) hk1 (by decide +kernel) rfl wm_62 rfl dX5_readNode_23 ?_
    refine qr_iconst 26 27 rfl (q_l32 _ rfl) dX5_readNode_26 ?_
    refine qr_iadd 27 28 rfl dX5_readNode_27 ?_
    refine qp_i 28 31 rfl ck4 0 (kk := 0) (by decide) hk1 (by decide) rfl rfl wm_62 rfl dX5_readNode_28 (fun M2 e_M2 => ?_)
    have h := h M2 e_M2
    refine qr_aload_n 31 32 rfl (x := 33) rfl dX5_readNode_31 ?_
    refine qw_U 32 35 rfl (av := []) ca_X5_advance wm_467 wp_1 wm_465 ck5 (by decide +kernel) rfl rfl (Nat.le_of_ble_eq_true rfl) dX5_readNode_32 h (fun M3 h => ?_)
    refine qr_iconst 35 36 rfl (q_l32 _ rfl) dX5_readNode_35 ?_
    exact qe_z 36 rfl (by decide) dX5_readNode_36 h
  · have h := h.2 c9
    refine qr_aload_n 12 13 rfl (x := 33) rfl dX5_readNode_12 ?_
    refine qr_iconst 13 14 rfl (q_l32 _ rfl) dX5_readNode_13 ?_
    refine qw_I 14 17 rfl (av := [qI 4]) ca_X5_refuse wm_611 wp_8 wm_609 ck5 (by decide +kernel) rfl rfl (Nat.le_of_ble_eq_true rfl) dX5_readNode_14 h (fun v5 M4 h => ?_)
    exact qe_z 17 rfl h.1 dX5_readNode_17 h.2
theorem dX5_readLink_0 : decode cX5_readLink 0 = .ok (.aload_n 0, 1) := by decide +kernel
theorem dX5_readLink_1 : decode cX5_readLink 1 = .ok (.getfield 22, 3) := by decide +kernel
theorem dX5_readLink_4 : decode cX5_readLink 4 = .ok (.getfield 126, 3) := by decide +kernel
theorem dX5_readLink_7 : decode cX5_readLink 7 = .ok (.bipush 16, 2) := by decide +kernel
theorem dX5_readLink_9 : decode cX5_readLink 9 = .ok (.if_icmp .lt 9, 3) := by decide +kernel
theorem dX5_readLink_12 : decode cX5_readLink 12 = .ok (.aload_n 0, 1) := by decide +kernel
theorem dX5_readLink_13 : decode cX5_readLink 13 = .ok (.iconst 4, 1) := by decide +kernel
theorem dX5_readLink_14 : decode cX5_readLink 14 = .ok (.invokevirtual 120, 3) := by decide +kernel
theorem dX5_readLink_17 : decode cX5_readLink 17 = .ok (.ireturn, 1) := by decide +kernel
theorem dX5_readLink_18 : decode cX5_readLink 18 = .ok (.aload_n 0, 1) := by decide +kernel
theorem dX5_readLink_19 : decode cX5_readLink 19 = .ok (.invokevirtual 51, 3) := by decide +kernel
theorem dX5_readLink_22 : decode cX5_readLink 22 = .ok (.aload_n 0, 1) := by decide +kernel
theorem dX5_readLink_23 : decode cX5_readLink 23 = .ok (.aload_n 0, 1) := by decide +kernel
theorem dX5_readLink_24 : decode cX5_readLink 24 = .ok (.getfield 22, 3) := by decide +kernel
theorem dX5_readLink_27 : decode cX5_readLink 27 = .ok (.getfield 123, 3) := by decide +kernel
theorem dX5_readLink_30 : decode cX5_readLink 30 = .ok (.iconst 1, 1) := by decide +kernel
theorem dX5_readLink_31 : decode cX5_readLink 31 = .ok (.isub, 1) := by decide +kernel
theorem dX5_readLink_32 : decode cX5_readLink 32 = .ok (.invokevirtual 79, 3) := by decide +kernel
theorem dX5_readLink_35 : decode cX5_readLink 35 = .ok (.istore_n 1, 1) := by decide +kernel
theorem dX5_readLink_36 : decode cX5_readLink 36 = .ok (.iload_n 1, 1) := by decide +kernel
theorem dX5_readLink_37 : decode cX5_readLink 37 = .ok (.ifCond .ge 5, 3) := by decide +kernel
theorem dX5_readLink_40 : decode cX5_readLink 40 = .ok (.iconst 0, 1) := by decide +kernel
theorem dX5_readLink_41 : decode cX5_readLink 41 = .ok (.ireturn, 1) := by decide +kernel
theorem dX5_readLink_42 : decode cX5_readLink 42 = .ok (.aload_n 0, 1) := by decide +kernel
theorem dX5_readLink_43 : decode cX5_readLink 43 = .ok (.getfield 58, 3) := by decide +kernel
theorem dX5_readLink_46 : decode cX5_readLink 46 = .ok (.iconst 2, 1) := by decide +kernel
theorem dX5_readLink_47 : decode cX5_readLink 47 = .ok (.if_icmp .ne 17, 3) := by decide +kernel
theorem dX5_readLink_50 : decode cX5_readLink 50 = .ok (.aload_n 0, 1) := by decide +kernel
theorem dX5_readLink_51 : decode cX5_readLink 51 = .ok (.getfield 129, 3) := by decide +kernel
theorem dX5_readLink_54 : decode cX5_readLink 54 = .ok (.iload_n 1, 1) := by decide +kernel
theorem dX5_readLink_55 : decode cX5_readLink 55 = .ok (.if_icmp .ne 9, 3) := by decide +kernel
theorem dX5_readLink_58 : decode cX5_readLink 58 = .ok (.aload_n 0, 1) := by decide +kernel
theorem dX5_readLink_59 : decode cX5_readLink 59 = .ok (.iconst 3, 1) := by decide +kernel
theorem dX5_readLink_60 : decode cX5_readLink 60 = .ok (.invokevirtual 120, 3) := by decide +kernel
theorem dX5_readLink_63 : decode cX5_readLink 63 = .ok (.ireturn, 1) := by decide +kernel
theorem dX5_readLink_64 : decode cX5_readLink 64 = .ok (.aload_n 0, 1) := by decide +kernel
theorem dX5_readLink_65 : decode cX5_readLink 65 = .ok (.aload_n 0, 1) := by decide +kernel
theorem dX5_readLink_66 : decode cX5_readLink 66 = .ok (.getfield 22, 3) := by decide +kernel
theorem dX5_readLink_69 : decode cX5_readLink 69 = .ok (.getfield 123, 3) := by decide +kernel
theorem dX5_readLink_72 : decode cX5_readLink 72 = .ok (.iconst 1, 1) := by decide +kernel
theorem dX5_readLink_73 : decode cX5_readLink 73 = .ok (.isub, 1) := by decide +kernel
theorem dX5_readLink_74 : decode cX5_readLink 74 = .ok (.invokevirtual 79, 3) := by decide +kernel
theorem dX5_readLink_77 : decode cX5_readLink 77 = .ok (.istore_n 2, 1) := by decide +kernel
theorem dX5_readLink_78 : decode cX5_readLink 78 = .ok (.iload_n 2, 1) := by decide +kernel
theorem dX5_readLink_79 : decode cX5_readLink 79 = .ok (.ifCond .ge 5, 3) := by decide +kernel
theorem dX5_readLink_82 : decode cX5_readLink 82 = .ok (.iconst 0, 1) := by decide +kernel
theorem dX5_readLink_83 : decode cX5_readLink 83 = .ok (.ireturn, 1) := by decide +kernel
theorem dX5_readLink_84 : decode cX5_readLink 84 = .ok (.aload_n 0, 1) := by decide +kernel
theorem dX5_readLink_85 : decode cX5_readLink 85 = .ok (.ldc 132, 2) := by decide +kernel
theorem dX5_readLink_87 : decode cX5_readLink 87 = .ok (.invokevirtual 88, 3) := by decide +kernel
theorem dX5_readLink_90 : decode cX5_readLink 90 = .ok (.istore_n 3, 1) := by decide +kernel
theorem dX5_readLink_91 : decode cX5_readLink 91 = .ok (.iload_n 3, 1) := by decide +kernel
theorem dX5_readLink_92 : decode cX5_readLink 92 = .ok (.ifCond .ne 18, 3) := by decide +kernel
theorem dX5_readLink_95 : decode cX5_readLink 95 = .ok (.aload_n 0, 1) := by decide +kernel
theorem dX5_readLink_96 : decode cX5_readLink 96 = .ok (.ldc 134, 2) := by decide +kernel
theorem dX5_readLink_98 : decode cX5_readLink 98 = .ok (.invokevirtual 88, 3) := by decide +kernel
theorem dX5_readLink_101 : decode cX5_readLink 101 = .ok (.ifCond .ne 9, 3) := by decide +kernel
theorem dX5_readLink_104 : decode cX5_readLink 104 = .ok (.aload_n 0, 1) := by decide +kernel
theorem dX5_readLink_105 : decode cX5_readLink 105 = .ok (.iconst 2, 1) := by decide +kernel
theorem dX5_readLink_106 : decode cX5_readLink 106 = .ok (.invokevirtual 120, 3) := by decide +kernel
theorem dX5_readLink_109 : decode cX5_readLink 109 = .ok (.ireturn, 1) := by decide +kernel
theorem dX5_readLink_110 : decode cX5_readLink 110 = .ok (.aload_n 0, 1) := by decide +kernel
theorem dX5_readLink_111 : decode cX5_readLink 111 = .ok (.invokevirtual 51, 3) := by decide +kernel
theorem dX5_readLink_114 : decode cX5_readLink 114 = .ok (.aload_n 0, 1) := by decide +kernel
theorem dX5_readLink_115 : decode cX5_readLink 115 = .ok (.bipush 99, 2) := by decide +kernel
theorem dX5_readLink_117 : decode cX5_readLink 117 = .ok (.invokevirtual 79, 3) := by decide +kernel
theorem dX5_readLink_120 : decode cX5_readLink 120 = .ok (.istore 4, 2) := by decide +kernel
theorem dX5_readLink_122 : decode cX5_readLink 122 = .ok (.iload 4, 2) := by decide +kernel
theorem dX5_readLink_124 : decode cX5_readLink 124 = .ok (.ifCond .ge 5, 3) := by decide +kernel
theorem dX5_readLink_127 : decode cX5_readLink 127 = .ok (.iconst 0, 1) := by decide +kernel
theorem dX5_readLink_128 : decode cX5_readLink 128 = .ok (.ireturn, 1) := by decide +kernel
theorem dX5_readLink_129 : decode cX5_readLink 129 = .ok (.aload_n 0, 1) := by decide +kernel
theorem dX5_readLink_130 : decode cX5_readLink 130 = .ok (.getfield 22, 3) := by decide +kernel
theorem dX5_readLink_133 : decode cX5_readLink 133 = .ok (.iload_n 1, 1) := by decide +kernel
theorem dX5_readLink_134 : decode cX5_readLink 134 = .ok (.iload_n 2, 1) := by decide +kernel
theorem dX5_readLink_135 : decode cX5_readLink 135 = .ok (.iload_n 3, 1) := by decide +kernel
theorem dX5_readLink_136 : decode cX5_readLink 136 = .ok (.ifCond .eq 9, 3) := by decide +kernel
theorem dX5_readLink_139 : decode cX5_readLink 139 = .ok (.iload 4, 2) := by decide +kernel
theorem dX5_readLink_141 : decode cX5_readLink 141 = .ok (.ineg, 1) := by decide +kernel
theorem dX5_readLink_142 : decode cX5_readLink 142 = .ok (.goto 5, 3) := by decide +kernel
theorem dX5_readLink_145 : decode cX5_readLink 145 = .ok (.iload 4, 2) := by decide +kernel
theorem dX5_readLink_147 : decode cX5_readLink 147 = .ok (.invokevirtual 136, 3) := by decide +kernel
theorem dX5_readLink_150 : decode cX5_readLink 150 = .ok (.iconst 1, 1) := by decide +kernel
theorem dX5_readLink_151 : decode cX5_readLink 151 = .ok (.ireturn, 1) := by decide +kernel
theorem bX5_readLink_0 {d : Nat} {P : Int → q_Mem → Prop} {M : q_Mem} (h : q_kd (M 33 8) = 4 ∧ ((((M (M 33 8) 1) < (16 : Int)) → q_kU yX5_advance mX5_advance d [qR 33] M (fun M2 => q_kd (M2 33 8) = 4 ∧ (q_kI yX5_takeNumber mX5_takeNumber d [qR 33, qI (q_sub (M2 (M2 33 8) 0) 1)] M2 (fun v5 M4 => ((0 ≤ v5) → ((¬ (M4 33 6) = (2 : Int)) → q_v mX5_readLink d (qPI P) M4 64 [some (qR 33), some (qI v5), none, none, none] []) ∧ (((M4 33 6) = (2 : Int)) → ((¬ (M4 33 7) = v5) → q_v mX5_readLink d (qPI P) M4 64 [some (qR 33), some (qI v5), none, none, none] []) ∧ (((M4 33 7) = v5) → q_kI yX5_refuse mX5_refuse d [qR 33, qI 3] M4 (fun v7 M6 => (v7 = 0 ∨ v7 = 1) ∧ P v7 M6)))) ∧ ((¬ (0 ≤ v5)) → P 0 M4))))) ∧ ((¬ ((M (M 33 8) 1) < (16 : Int))) → q_kI yX5_refuse mX5_refuse d [qR 33, qI 4] M (fun v9 M8 => (v9 = 0 ∨ v9 = 1) ∧ P v9 M8)))) : q_v mX5_readLink d (qPI P) M 0 [some (qR 33), none, none, none, none] [] := by
  refine qr_aload_n 0 1 rfl (x := 33) rfl dX5_readLink_0 ?_
  refine qg_r 1 4 rfl ck5 8 (kk := 8) (by decide) (by decide +kernel) (by decide +kernel) rfl wm_136 rfl dX5_readLink_1 ?_
  have hk1 := h.1
  have h := h.2
  refine qg_i 4 7 rfl ck4 1 (kk := 1) (by decide) hk1 (by decide +kernel) rfl wm_67 rfl dX5_readLink_4 ?_
  refine qr_bipush 7 9 rfl (q_l32 _ rfl) (by decide) dX5_readLink_7 ?_
  refine qr_icmp_lt 9 12 18 rfl (by decide) dX5_readLink_9 (fun c9 => ?_) (fun c9 => ?_)
  · have h := h.1 c9
    refine qr_aload_n 18 19 rfl (x := 33) rfl dX5_readLink_18 ?_
    refine qw_U 19 22 rfl (av := []) ca_X5_advance wm_467 wp_1 wm_465 ck5 (by decide +kernel) rfl rfl (Nat.le_of_ble_eq_true rfl) dX5_readLink_19 h (fun M2 h => ?_)
    refine qr_aload_n 22 23 rfl (x := 33) rfl dX5_readLink_22 ?_
    refine qr_aload_n 23 24 rfl (x := 33) rfl dX5_readLink_23 ?_
    refine qg_r 24 27 rfl ck5 8 (kk := 8) (by decide) (by decide +kernel) (by decide +kernel) rfl wm_136 rfl dX5_readLink_24 ?_
    have hk3 := h.1
    have h := h.2
    refine qg_i 27 30 rfl ck4 0 (kk := 0) (by decide) hk3 (by decide +kernel) rfl wm_62 rfl dX5_readLink_27 ?_
    refine qr_iconst 30 31 rfl (q_l32 _ rfl) dX5_readLink_30 ?_
    refine qr_isub 31 32 rfl dX5_readLink_31 ?_
    refine qw_I 32 35 rfl (av := [qI (q_sub (M2 (M2 33 8) 0) 1)]) ca_X5_takeNumber wm_616 wp_9 wm_614 ck5 (by decide +kernel) rfl rfl (Nat.le_of_ble_eq_true rfl) dX5_readLink_32 h (fun v5 M4 h => ?_)
    refine qr_istore_n 35 36 rfl (by decide) rfl rfl dX5_readLink_35 ?_
    refine qr_iload_n 36 37 rfl (x := v5) rfl dX5_readLink_36 ?_
    refine qr_if_ge 37 40 42 rfl (by decide) dX5_readLink_37 (fun c37 => ?_) (fun c37 => ?_)
    · have h := h.1 c37
      refine qr_aload_n 42 43 rfl (x := 33) rfl dX5_readLink_42 ?_
      refine qg_i 43 46 rfl ck5 6 (kk := 6) (by decide) (by decide +kernel) (by decide +kernel) rfl wm_134 rfl dX5_readLink_43 ?_
      refine qr_iconst 46 47 rfl (q_l32 _ rfl) dX5_readLink_46 ?_
      refine qr_icmp_ne 47 50 64 rfl (by decide) dX5_readLink_47 (fun c47 => ?_) (fun c47 => ?_)
      · have h := h.1 c47
        exact h
      · have h := h.2 c47
        refine qr_aload_n 50 51 rfl (x := 33) rfl dX5_readLink_50 ?_
        refine qg_i 51 54 rfl ck5 7 (kk := 7) (by decide) (by decide +kernel) (by decide +kernel) rfl wm_135 rfl dX5_readLink_51 ?_
        refine qr_iload_n 54 55 rfl (x := v5) rfl dX5_readLink_54 ?_
        refine qr_icmp_ne 55 58 64 rfl (by decide) dX5_readLink_55 (fun c55 => ?_) (fun c55 => ?_)
        · have h := h.1 c55
          exact h
        · have h := h.2 c55
          refine qr_aload_n 58 59 rfl (x := 33) rfl dX5_readLink_58 ?_
          refine qr_iconst 59 60 rfl (q_l32 _ rfl) dX5_readLink_59 ?_
          refine qw_I 60 63 rfl (av := [qI 3]) ca_X5_refuse wm_611 wp_8 wm_609 ck5 (by decide +kernel) rfl rfl (Nat.le_of_ble_eq_true rfl) dX5_readLink_60 h (fun v7 M6 h => ?_)
          exact qe_z 63 rfl h.1 dX5_readLink_63 h.2
    · have h := h.2 c37
      refine qr_iconst 40 41 rfl (q_l32 _ rfl) dX5_readLink_40 ?_
      exact qe_z 41 rfl (by decide) dX5_readLink_41 h
  · have h := h.2 c9
    refine qr_aload_n 12 13 rfl (x := 33) rfl dX5_readLink_12 ?_
    refine qr_iconst 13 14 rfl (q_l32 _ rfl) dX5_readLink_13 ?_
    refine qw_I 14 17 rfl (av := [qI 4]) ca_X5_refuse wm_611 wp_8 wm_609 ck5 (by decide +kernel) rfl rfl (Nat.le_of_ble_eq_true rfl) dX5_readLink_14 h (fun v9 M8 h => ?_)
    exact qe_z 17 rfl h.1 dX5_readLink_17 h.2
theorem bX5_readLink_64 {d : Nat} {P : Int → q_Mem → Prop} {M : q_Mem} (x1 : Int) (h : q_kd (M 33 8) = 4 ∧ (q_kI yX5_takeNumber mX5_takeNumber d [qR 33, qI (q_sub (M (M 33 8) 0) 1)] M (fun v3 M2 => ((0 ≤ v3) → q_kI yX5_isWord mX5_isWord d [qR 33, qR (-((7 : Nat) : Int) - 1)] M2 (fun v5 M4 => ((¬ v5 = 0) → q_v mX5_readLink d (qPI P) M4 110 [some (qR 33), some (qI x1), some (qI v3), some (qI v5), none] []) ∧ ((v5 = 0) → q_kI yX5_isWord mX5_isWord d [qR 33, qR (-((8 : Nat) : Int) - 1)] M4 (fun v7 M6 => ((¬ v7 = 0) → q_v mX5_readLink d (qPI P) M6 110 [some (qR 33), some (qI x1), some (qI v3), some (qI v5), none] []) ∧ ((v7 = 0) → q_kI yX5_refuse mX5_refuse d [qR 33, qI 2] M6 (fun v9 M8 => (v9 = 0 ∨ v9 = 1) ∧ P v9 M8)))))) ∧ ((¬ (0 ≤ v3)) → P 0 M2)))) : q_v mX5_readLink d (qPI P) M 64 [some (qR 33), some (qI x1), none, none, none] [] := by
  refine qr_aload_n 64 65 rfl (x := 33) rfl dX5_readLink_64 ?_
  refine qr_aload_n 65 66 rfl (x := 33) rfl dX5_readLink_65 ?_
  refine qg_r 66 69 rfl ck5 8 (kk := 8) (by decide) (by decide +kernel) (by decide +kernel) rfl wm_136 rfl dX5_readLink_66 ?_
  have hk1 := h.1
  have h := h.2
  refine qg_i 69 72 rfl ck4 0 (kk := 0) (by decide) hk1 (by decide +kernel) rfl wm_62 rfl dX5_readLink_69 ?_
  refine qr_iconst 72 73 rfl (q_l32 _ rfl) dX5_readLink_72 ?_
  refine qr_isub 73 74 rfl dX5_readLink_73 ?_
  refine qw_I 74 77 rfl (av := [qI (q_sub (M (M 33 8) 0) 1)]) ca_X5_takeNumber wm_616 wp_9 wm_614 ck5 (by decide +kernel) rfl rfl (Nat.le_of_ble_eq_true rfl) dX5_readLink_74 h (fun v3 M2 h => ?_)
  refine qr_istore_n 77 78 rfl (by decide) rfl rfl dX5_readLink_77 ?_
  refine qr_iload_n 78 79 rfl (x := v3) rfl dX5_readLink_78 ?_
  refine qr_if_ge 79 82 84 rfl (by decide) dX5_readLink_79 (fun c79 => ?_) (fun c79 => ?_)
  · have h := h.1 c79
    refine qr_aload_n 84 85 rfl (x := 33) rfl dX5_readLink_84 ?_
    refine qr_ldcS 85 87 rfl 7 (by decide) rfl rfl rfl dX5_readLink_85 ?_
    refine qw_I 87 90 rfl (av := [qR (-((7 : Nat) : Int) - 1)]) ca_X5_isWord wm_586 wp_7 wm_584 ck5 (by decide +kernel) rfl rfl (Nat.le_of_ble_eq_true rfl) dX5_readLink_87 h (fun v5 M4 h => ?_)
    refine qr_istore_n 90 91 rfl (by decide) rfl rfl dX5_readLink_90 ?_
    refine qr_iload_n 91 92 rfl (x := v5) rfl dX5_readLink_91 ?_
    refine qr_if_ne 92 95 110 rfl (by decide) dX5_readLink_92 (fun c92 => ?_) (fun c92 => ?_)
    · have h := h.1 c92
      exact h
    · have h := h.2 c92
      refine qr_aload_n 95 96 rfl (x := 33) rfl dX5_readLink_95 ?_
      refine qr_ldcS 96 98 rfl 8 (by decide) rfl rfl rfl dX5_readLink_96 ?_
      refine qw_I 98 101 rfl (av := [qR (-((8 : Nat) : Int) - 1)]) ca_X5_isWord wm_586 wp_7 wm_584 ck5 (by decide +kernel) rfl rfl (Nat.le_of_ble_eq_true rfl) dX5_readLink_98 h (fun v7 M6 h => ?_)
      refine qr_if_ne 101 104 110 rfl (by decide) dX5_readLink_101 (fun c101 => ?_) (fun c101 => ?_)
      · have h := h.1 c101
        exact h
      · have h := h.2 c101
        refine qr_aload_n 104 105 rfl (x := 33) rfl dX5_readLink_104 ?_
        refine qr_iconst 105 106 rfl (q_l32 _ rfl) dX5_readLink_105 ?_
        refine qw_I 106 109 rfl (av := [qI 2]) ca_X5_refuse wm_611 wp_8 wm_609 ck5 (by decide +kernel) rfl rfl (Nat.le_of_ble_eq_true rfl) dX5_readLink_106 h (fun v9 M8 h => ?_)
        exact qe_z 109 rfl h.1 dX5_readLink_109 h.2
  · have h := h.2 c79
    refine qr_iconst 82 83 rfl (q_l32 _ rfl) dX5_readLink_82 ?_
    exact qe_z 83 rfl (by decide) dX5_readLink_83 h
theorem bX5_readLink_110 {d : Nat} {P : Int → q_Mem → Prop} {M : q_Mem} (x1 x2 x3 : Int) (h : q_kU yX5_advance mX5_advance d [qR 33] M (fun M1 => q_kI yX5_takeNumber mX5_takeNumber d [qR 33, qI 99] M1 (fun v3 M2 => ((0 ≤ v3) → ((x3 = 0) → q_kd (M2 33 8) = 4 ∧ (q_kU yX4_addLink mX4_addLink d [qR (M2 33 8), qI x1, qI x2, qI v3] M2 (fun M5 => P 1 M5))) ∧ ((¬ (x3 = 0)) → q_kd (M2 33 8) = 4 ∧ (q_kU yX4_addLink mX4_addLink d [qR (M2 33 8), qI x1, qI x2, qI (q_neg v3)] M2 (fun M7 => P 1 M7)))) ∧ ((¬ (0 ≤ v3)) → P 0 M2)))) : q_v mX5_readLink d (qPI P) M 110 [some (qR 33), some (qI x1), some (qI x2), some (qI x3), none] [] := by
  refine qr_aload_n 110 111 rfl (x := 33) rfl dX5_readLink_110 ?_
  refine qw_U 111 114 rfl (av := []) ca_X5_advance wm_467 wp_1 wm_465 ck5 (by decide +kernel) rfl rfl (Nat.le_of_ble_eq_true rfl) dX5_readLink_111 h (fun M1 h => ?_)
  refine qr_aload_n 114 115 rfl (x := 33) rfl dX5_readLink_114 ?_
  refine qr_bipush 115 117 rfl (q_l32 _ rfl) (by decide) dX5_readLink_115 ?_
  refine qw_I 117 120 rfl (av := [qI 99]) ca_X5_takeNumber wm_616 wp_9 wm_614 ck5 (by decide +kernel) rfl rfl (Nat.le_of_ble_eq_true rfl) dX5_readLink_117 h (fun v3 M2 h => ?_)
  refine qr_istore 120 122 rfl (by decide) rfl rfl dX5_readLink_120 ?_
  refine qr_iload 122 124 rfl (x := v3) rfl dX5_readLink_122 ?_
  refine qr_if_ge 124 127 129 rfl (by decide) dX5_readLink_124 (fun c124 => ?_) (fun c124 => ?_)
  · have h := h.1 c124
    refine qr_aload_n 129 130 rfl (x := 33) rfl dX5_readLink_129 ?_
    refine qg_r 130 133 rfl ck5 8 (kk := 8) (by decide) (by decide +kernel) (by decide +kernel) rfl wm_136 rfl dX5_readLink_130 ?_
    refine qr_iload_n 133 134 rfl (x := x1) rfl dX5_readLink_133 ?_
    refine qr_iload_n 134 135 rfl (x := x2) rfl dX5_readLink_134 ?_
    refine qr_iload_n 135 136 rfl (x := x3) rfl dX5_readLink_135 ?_
    refine qr_if_eq 136 139 145 rfl (by decide) dX5_readLink_136 (fun c136 => ?_) (fun c136 => ?_)
    · have h := h.1 c136
      refine qr_iload 145 147 rfl (x := v3) rfl dX5_readLink_145 ?_
      have hk4 := h.1
      have h := h.2
      refine qw_U 147 150 rfl (av := [qI x1, qI x2, qI v3]) ca_X4_addLink wm_643 wm_644 wm_642 ck4 hk4 rfl rfl (Nat.le_of_ble_eq_true rfl) dX5_readLink_147 h (fun M5 h => ?_)
      refine qr_iconst 150 151 rfl (q_l32 _ rfl) dX5_readLink_150 ?_
      exact qe_z 151 rfl (by decide) dX5_readLink_151 h
    · have h := h.2 c136
      refine qr_iload 139 141 rfl (x := v3) rfl dX5_readLink_139 ?_
      refine qr_ineg 141 142 rfl dX5_readLink_141 ?_
      refine qr_goto 142 147 (by decide) dX5_readLink_142 ?_
      have hk6 := h.1
      have h := h.2
      refine qw_U 147 150 rfl (av := [qI x1, qI x2, qI (q_neg v3)]) ca_X4_addLink wm_643 wm_644 wm_642 ck4 hk6 rfl rfl (Nat.le_of_ble_eq_true rfl) dX5_readLink_147 h (fun M7 h => ?_)
      refine qr_iconst 150 151 rfl (q_l32 _ rfl) dX5_readLink_150 ?_
      exact qe_z 151 rfl (by decide) dX5_readLink_151 h
  · have h := h.2 c124
    refine qr_iconst 127 128 rfl (q_l32 _ rfl) dX5_readLink_127 ?_
    exact qe_z 128 rfl (by decide) dX5_readLink_128 h
theorem dX5_readRound_0 : decode cX5_readRound 0 = .ok (.aload_n 0, 1) := by decide +kernel
theorem dX5_readRound_1 : decode cX5_readRound 1 = .ok (.invokevirtual 51, 3) := by decide +kernel
theorem dX5_readRound_4 : decode cX5_readRound 4 = .ok (.aload_n 0, 1) := by decide +kernel
theorem dX5_readRound_5 : decode cX5_readRound 5 = .ok (.aload_n 0, 1) := by decide +kernel
theorem dX5_readRound_6 : decode cX5_readRound 6 = .ok (.getfield 22, 3) := by decide +kernel
theorem dX5_readRound_9 : decode cX5_readRound 9 = .ok (.getfield 123, 3) := by decide +kernel
theorem dX5_readRound_12 : decode cX5_readRound 12 = .ok (.iconst 1, 1) := by decide +kernel
theorem dX5_readRound_13 : decode cX5_readRound 13 = .ok (.isub, 1) := by decide +kernel
theorem dX5_readRound_14 : decode cX5_readRound 14 = .ok (.invokevirtual 79, 3) := by decide +kernel
theorem dX5_readRound_17 : decode cX5_readRound 17 = .ok (.istore_n 1, 1) := by decide +kernel
theorem dX5_readRound_18 : decode cX5_readRound 18 = .ok (.iload_n 1, 1) := by decide +kernel
theorem dX5_readRound_19 : decode cX5_readRound 19 = .ok (.ifCond .ge 5, 3) := by decide +kernel
theorem dX5_readRound_22 : decode cX5_readRound 22 = .ok (.iconst 0, 1) := by decide +kernel
theorem dX5_readRound_23 : decode cX5_readRound 23 = .ok (.ireturn, 1) := by decide +kernel
theorem dX5_readRound_24 : decode cX5_readRound 24 = .ok (.aload_n 0, 1) := by decide +kernel
theorem dX5_readRound_25 : decode cX5_readRound 25 = .ok (.getfield 22, 3) := by decide +kernel
theorem dX5_readRound_28 : decode cX5_readRound 28 = .ok (.getfield 140, 3) := by decide +kernel
theorem dX5_readRound_31 : decode cX5_readRound 31 = .ok (.iload_n 1, 1) := by decide +kernel
theorem dX5_readRound_32 : decode cX5_readRound 32 = .ok (.iconst 0, 1) := by decide +kernel
theorem dX5_readRound_33 : decode cX5_readRound 33 = .ok (.iastore, 1) := by decide +kernel
theorem dX5_readRound_34 : decode cX5_readRound 34 = .ok (.iconst 0, 1) := by decide +kernel
theorem dX5_readRound_35 : decode cX5_readRound 35 = .ok (.istore_n 2, 1) := by decide +kernel
theorem dX5_readRound_36 : decode cX5_readRound 36 = .ok (.iload_n 2, 1) := by decide +kernel
theorem dX5_readRound_37 : decode cX5_readRound 37 = .ok (.bipush 16, 2) := by decide +kernel
theorem dX5_readRound_39 : decode cX5_readRound 39 = .ok (.if_icmp .gt 76, 3) := by decide +kernel
theorem dX5_readRound_42 : decode cX5_readRound 42 = .ok (.aload_n 0, 1) := by decide +kernel
theorem dX5_readRound_43 : decode cX5_readRound 43 = .ok (.getfield 58, 3) := by decide +kernel
theorem dX5_readRound_46 : decode cX5_readRound 46 = .ok (.iconst 2, 1) := by decide +kernel
theorem dX5_readRound_47 : decode cX5_readRound 47 = .ok (.if_icmp .ne 68, 3) := by decide +kernel
theorem dX5_readRound_50 : decode cX5_readRound 50 = .ok (.aload_n 0, 1) := by decide +kernel
theorem dX5_readRound_51 : decode cX5_readRound 51 = .ok (.getfield 129, 3) := by decide +kernel
theorem dX5_readRound_54 : decode cX5_readRound 54 = .ok (.istore_n 3, 1) := by decide +kernel
theorem dX5_readRound_55 : decode cX5_readRound 55 = .ok (.iload_n 3, 1) := by decide +kernel
theorem dX5_readRound_56 : decode cX5_readRound 56 = .ok (.aload_n 0, 1) := by decide +kernel
theorem dX5_readRound_57 : decode cX5_readRound 57 = .ok (.getfield 22, 3) := by decide +kernel
theorem dX5_readRound_60 : decode cX5_readRound 60 = .ok (.getfield 126, 3) := by decide +kernel
theorem dX5_readRound_63 : decode cX5_readRound 63 = .ok (.if_icmp .ge 27, 3) := by decide +kernel
theorem dX5_readRound_66 : decode cX5_readRound 66 = .ok (.aload_n 0, 1) := by decide +kernel
theorem dX5_readRound_67 : decode cX5_readRound 67 = .ok (.getfield 22, 3) := by decide +kernel
theorem dX5_readRound_70 : decode cX5_readRound 70 = .ok (.iload_n 3, 1) := by decide +kernel
theorem dX5_readRound_71 : decode cX5_readRound 71 = .ok (.iload_n 1, 1) := by decide +kernel
theorem dX5_readRound_72 : decode cX5_readRound 72 = .ok (.invokevirtual 144, 3) := by decide +kernel
theorem dX5_readRound_75 : decode cX5_readRound 75 = .ok (.ifCond .eq 15, 3) := by decide +kernel
theorem dX5_readRound_78 : decode cX5_readRound 78 = .ok (.aload_n 0, 1) := by decide +kernel
theorem dX5_readRound_79 : decode cX5_readRound 79 = .ok (.getfield 22, 3) := by decide +kernel
theorem dX5_readRound_82 : decode cX5_readRound 82 = .ok (.iload_n 3, 1) := by decide +kernel
theorem dX5_readRound_83 : decode cX5_readRound 83 = .ok (.iload_n 1, 1) := by decide +kernel
theorem dX5_readRound_84 : decode cX5_readRound 84 = .ok (.invokevirtual 148, 3) := by decide +kernel
theorem dX5_readRound_87 : decode cX5_readRound 87 = .ok (.ifCond .eq 9, 3) := by decide +kernel
theorem dX5_readRound_90 : decode cX5_readRound 90 = .ok (.aload_n 0, 1) := by decide +kernel
theorem dX5_readRound_91 : decode cX5_readRound 91 = .ok (.iconst 3, 1) := by decide +kernel
theorem dX5_readRound_92 : decode cX5_readRound 92 = .ok (.invokevirtual 120, 3) := by decide +kernel
theorem dX5_readRound_95 : decode cX5_readRound 95 = .ok (.ireturn, 1) := by decide +kernel
theorem dX5_readRound_96 : decode cX5_readRound 96 = .ok (.aload_n 0, 1) := by decide +kernel
theorem dX5_readRound_97 : decode cX5_readRound 97 = .ok (.getfield 22, 3) := by decide +kernel
theorem dX5_readRound_100 : decode cX5_readRound 100 = .ok (.iload_n 3, 1) := by decide +kernel
theorem dX5_readRound_101 : decode cX5_readRound 101 = .ok (.iload_n 1, 1) := by decide +kernel
theorem dX5_readRound_102 : decode cX5_readRound 102 = .ok (.invokevirtual 151, 3) := by decide +kernel
theorem dX5_readRound_105 : decode cX5_readRound 105 = .ok (.aload_n 0, 1) := by decide +kernel
theorem dX5_readRound_106 : decode cX5_readRound 106 = .ok (.invokevirtual 51, 3) := by decide +kernel
theorem dX5_readRound_109 : decode cX5_readRound 109 = .ok (.iinc 2 1, 3) := by decide +kernel
theorem dX5_readRound_112 : decode cX5_readRound 112 = .ok (.goto (-76), 3) := by decide +kernel
theorem dX5_readRound_115 : decode cX5_readRound 115 = .ok (.iconst 1, 1) := by decide +kernel
theorem dX5_readRound_116 : decode cX5_readRound 116 = .ok (.ireturn, 1) := by decide +kernel
theorem bX5_readRound_0 {d : Nat} {P : Int → q_Mem → Prop} {M : q_Mem} (h : q_kU yX5_advance mX5_advance d [qR 33] M (fun M1 => q_kd (M1 33 8) = 4 ∧ (q_kI yX5_takeNumber mX5_takeNumber d [qR 33, qI (q_sub (M1 (M1 33 8) 0) 1)] M1 (fun v4 M3 => ((0 ≤ v4) → q_kd (M3 33 8) = 4 ∧ ((0 ≤ v4 ∧ v4 < (10 : Int)) ∧ (∀ M7 : q_Mem, M7 = q_up M3 (q_lay (M3 33 8) 9) v4 0 → q_v mX5_readRound d (qPI P) M7 36 [some (qR 33), some (qI v4), some (qI 0), none] []))) ∧ ((¬ (0 ≤ v4)) → P 0 M3))))) : q_v mX5_readRound d (qPI P) M 0 [some (qR 33), none, none, none] [] := by
  refine qr_aload_n 0 1 rfl (x := 33) rfl dX5_readRound_0 ?_
  refine qw_U 1 4 rfl (av := []) ca_X5_advance wm_467 wp_1 wm_465 ck5 (by decide +kernel) rfl rfl (Nat.le_of_ble_eq_true rfl) dX5_readRound_1 h (fun M1 h => ?_)
  refine qr_aload_n 4 5 rfl (x := 33) rfl dX5_readRound_4 ?_
  refine qr_aload_n 5 6 rfl (x := 33) rfl dX5_readRound_5 ?_
  refine qg_r 6 9 rfl ck5 8 (kk := 8) (by decide) (by decide +kernel) (by decide +kernel) rfl wm_136 rfl dX5_readRound_6 ?_
  have hk2 := h.1
  have h := h.2
  refine qg_i 9 12 rfl ck4 0 (kk := 0) (by decide) hk2 (by decide +kernel) rfl wm_62 rfl dX5_readRound_9 ?_
  refine qr_iconst 12 13 rfl (q_l32 _ rfl) dX5_readRound_12 ?_
  refine qr_isub 13 14 rfl dX5_readRound_13 ?_
  refine qw_I 14 17 rfl (av := [qI (q_sub (M1 (M1 33 8) 0) 1)]) ca_X5_takeNumber wm_616 wp_9 wm_614 ck5 (by decide +kernel) rfl rfl (Nat.le_of_ble_eq_true rfl) dX5_readRound_14 h (fun v4 M3 h => ?_)
  refine qr_istore_n 17 18 rfl (by decide) rfl rfl dX5_readRound_17 ?_
  refine qr_iload_n 18 19 rfl (x := v4) rfl dX5_readRound_18 ?_
  refine qr_if_ge 19 22 24 rfl (by decide) dX5_readRound_19 (fun c19 => ?_) (fun c19 => ?_)
  · have h := h.1 c19
    refine qr_aload_n 24 25 rfl (x := 33) rfl dX5_readRound_24 ?_
    refine qg_r 25 28 rfl ck5 8 (kk := 8) (by decide) (by decide +kernel) (by decide +kernel) rfl wm_136 rfl dX5_readRound_25 ?_
    have hk5 := h.1
    have h := h.2
    refine qr_getF 28 31 rfl ck4 9 (by decide) (b := (q_lay (M3 33 8) 9)) hk5 rfl (by decide +kernel) rfl wm_88 rfl dX5_readRound_28 ?_
    refine qr_iload_n 31 32 rfl (x := v4) rfl dX5_readRound_31 ?_
    refine qr_iconst 32 33 rfl (q_l32 _ rfl) dX5_readRound_32 ?_
    have hb6 := h.1
    have h := h.2
    refine qi_st 33 34 rfl (N := 10) (lk4_9 _ hk5) (ll4_9 _ hk5) hb6.1 hb6.2 dX5_readRound_33 (fun M7 e_M7 => ?_)
    have h := h M7 e_M7
    refine qr_iconst 34 35 rfl (q_l32 _ rfl) dX5_readRound_34 ?_
    refine qr_istore_n 35 36 rfl (by decide) rfl rfl dX5_readRound_35 ?_
    exact h
  · have h := h.2 c19
    refine qr_iconst 22 23 rfl (q_l32 _ rfl) dX5_readRound_22 ?_
    exact qe_z 23 rfl (by decide) dX5_readRound_23 h
theorem bX5_readRound_36 {d : Nat} {P : Int → q_Mem → Prop} {M : q_Mem} (x1 x2 : Int) (h : (((16 : Int) < x2) → P 1 M) ∧ ((¬ ((16 : Int) < x2)) → ((¬ (M 33 6) = (2 : Int)) → P 1 M) ∧ (((M 33 6) = (2 : Int)) → ∀ x3_1 : Int, x3_1 = (M 33 7) → q_kd (M 33 8) = 4 ∧ ((((M (M 33 8) 1) ≤ x3_1) → q_kI yX5_refuse mX5_refuse d [qR 33, qI 3] M (fun v4 M3 => (v4 = 0 ∨ v4 = 1) ∧ P v4 M3)) ∧ ((¬ ((M (M 33 8) 1) ≤ x3_1)) → q_kI yX4_touches mX4_touches d [qR (M 33 8), qI x3_1, qI x1] M (fun v6 M5 => ((v6 = 0) → q_kI yX5_refuse mX5_refuse d [qR 33, qI 3] M5 (fun v8 M7 => (v8 = 0 ∨ v8 = 1) ∧ P v8 M7)) ∧ ((¬ (v6 = 0)) → q_kd (M5 33 8) = 4 ∧ (q_kI yX4_liesFirst mX4_liesFirst d [qR (M5 33 8), qI x3_1, qI x1] M5 (fun v11 M10 => ((v11 = 0) → q_kd (M10 33 8) = 4 ∧ (q_kU yX4_addFirst mX4_addFirst d [qR (M10 33 8), qI x3_1, qI x1] M10 (fun M13 => q_kU yX5_advance mX5_advance d [qR 33] M13 (fun M14 => q_v mX5_readRound d (qPI P) M14 36 [some (qR 33), some (qI x1), some (qI (q_add x2 1)), none] [])))) ∧ ((¬ (v11 = 0)) → q_kI yX5_refuse mX5_refuse d [qR 33, qI 3] M10 (fun v16 M15 => (v16 = 0 ∨ v16 = 1) ∧ P v16 M15))))))))))) : q_v mX5_readRound d (qPI P) M 36 [some (qR 33), some (qI x1), some (qI x2), none] [] := by
  refine qr_iload_n 36 37 rfl (x := x2) rfl dX5_readRound_36 ?_
  refine qr_bipush 37 39 rfl (q_l32 _ rfl) (by decide) dX5_readRound_37 ?_
  refine qr_icmp_gt 39 42 115 rfl (by decide) dX5_readRound_39 (fun c39 => ?_) (fun c39 => ?_)
  · have h := h.1 c39
    refine qr_iconst 115 116 rfl (q_l32 _ rfl) dX5_readRound_115 ?_
    exact qe_z 116 rfl (by decide) dX5_readRound_116 h
  · have h := h.2 c39
    refine qr_aload_n 42 43 rfl (x := 33) rfl dX5_readRound_42 ?_
    refine qg_i 43 46 rfl ck5 6 (kk := 6) (by decide) (by decide +kernel) (by decide +kernel) rfl wm_134 rfl dX5_readRound_43 ?_
    refine qr_iconst 46 47 rfl (q_l32 _ rfl) dX5_readRound_46 ?_
    refine qr_icmp_ne 47 50 115 rfl (by decide) dX5_readRound_47 (fun c47 => ?_) (fun c47 => ?_)
    · have h := h.1 c47
      refine qr_iconst 115 116 rfl (q_l32 _ rfl) dX5_readRound_115 ?_
      exact qe_z 116 rfl (by decide) dX5_readRound_116 h
    · have h := h.2 c47
      refine qr_aload_n 50 51 rfl (x := 33) rfl dX5_readRound_50 ?_
      refine qg_i 51 54 rfl ck5 7 (kk := 7) (by decide) (by decide +kernel) (by decide +kernel) rfl wm_135 rfl dX5_readRound_51 ?_
      refine qn_i 54 (fun x3_1 e_x3_1 => ?_)
      have h := h x3_1 e_x3_1
      refine qr_istore_n 54 55 rfl (by decide) rfl rfl dX5_readRound_54 ?_
      refine qr_iload_n 55 56 rfl (x := x3_1) rfl dX5_readRound_55 ?_
      refine qr_aload_n 56 57 rfl (x := 33) rfl dX5_readRound_56 ?_
      refine qg_r 57 60 rfl ck5 8 (kk := 8) (by decide) (by decide +kernel) (by decide +kernel) rfl wm_136 rfl dX5_readRound_57 ?_
      have hk2 := h.1
      have h := h.2
      refine qg_i 60 63 rfl ck4 1 (kk := 1) (by decide) hk2 (by decide +kernel) rfl wm_67 rfl dX5_readRound_60 ?_
      refine qr_icmp_ge 63 66 90 rfl (by decide) dX5_readRound_63 (fun c63 => ?_) (fun c63 => ?_)
      · have h := h.1 c63
        refine qr_aload_n 90 91 rfl (x := 33) rfl dX5_readRound_90 ?_
        refine qr_iconst 91 92 rfl (q_l32 _ rfl) dX5_readRound_91 ?_
        refine qw_I 92 95 rfl (av := [qI 3]) ca_X5_refuse wm_611 wp_8 wm_609 ck5 (by decide +kernel) rfl rfl (Nat.le_of_ble_eq_true rfl) dX5_readRound_92 h (fun v4 M3 h => ?_)
        exact qe_z 95 rfl h.1 dX5_readRound_95 h.2
      · have h := h.2 c63
        refine qr_aload_n 66 67 rfl (x := 33) rfl dX5_readRound_66 ?_
        refine qg_r 67 70 rfl ck5 8 (kk := 8) (by decide) (by decide +kernel) (by decide +kernel) rfl wm_136 rfl dX5_readRound_67 ?_
        refine qr_iload_n 70 71 rfl (x := x3_1) rfl dX5_readRound_70 ?_
        refine qr_iload_n 71 72 rfl (x := x1) rfl dX5_readRound_71 ?_
        refine qw_I 72 75 rfl (av := [qI x3_1, qI x1]) ca_X4_touches wm_652 wm_653 wm_651 ck4 hk2 rfl rfl (Nat.le_of_ble_eq_true rfl) dX5_readRound_72 h (fun v6 M5 h => ?_)
        refine qr_if_eq 75 78 90 rfl (by decide) dX5_readRound_75 (fun c75 => ?_) (fun c75 => ?_)
        · have h := h.1 c75
          refine qr_aload_n 90 91 rfl (x := 33) rfl dX5_readRound_90 ?_
          refine qr_iconst 91 92 rfl (q_l32 _ rfl) dX5_readRound_91 ?_
          refine qw_I 92 95 rfl (av := [qI 3]) ca_X5_refuse wm_611 wp_8 wm_609 ck5 (by decide +kernel) rfl rfl (Nat.le_of_ble_eq_true rfl) dX5_readRound_92 h (fun v8 M7 h => ?_)
          exact qe_z 95 rfl h.1 dX5_readRound_95 h.2
        · have h := h.2 c75
          refine qr_aload_n 78 79 rfl (x := 33) rfl dX5_readRound_78 ?_
          refine qg_r 79 82 rfl ck5 8 (kk := 8) (by decide) (by decide +kernel) (by decide +kernel) rfl wm_136 rfl dX5_readRound_79 ?_
          refine qr_iload_n 82 83 rfl (x := x3_1) rfl dX5_readRound_82 ?_
          refine qr_iload_n 83 84 rfl (x := x1) rfl dX5_readRound_83 ?_
          have hk9 := h.1
          have h := h.2
          refine qw_I 84 87 rfl (av := [qI x3_1, qI x1]) ca_X4_liesFirst wm_656 wm_657 wm_655 ck4 hk9 rfl rfl (Nat.le_of_ble_eq_true rfl) dX5_readRound_84 h (fun v11 M10 h => ?_)
          refine qr_if_eq 87 90 96 rfl (by decide) dX5_readRound_87 (fun c87 => ?_) (fun c87 => ?_)
          · have h := h.1 c87
            refine qr_aload_n 96 97 rfl (x := 33) rfl dX5_readRound_96 ?_
            refine qg_r 97 100 rfl ck5 8 (kk := 8) (by decide) (by decide +kernel) (by decide +kernel) rfl wm_136 rfl dX5_readRound_97 ?_
            refine qr_iload_n 100 101 rfl (x := x3_1) rfl dX5_readRound_100 ?_
            refine qr_iload_n 101 102 rfl (x := x1) rfl dX5_readRound_101 ?_
            have hk12 := h.1
            have h := h.2
            refine qw_U 102 105 rfl (av := [qI x3_1, qI x1]) ca_X4_addFirst wm_660 wm_661 wm_659 ck4 hk12 rfl rfl (Nat.le_of_ble_eq_true rfl) dX5_readRound_102 h (fun M13 h => ?_)
            refine qr_aload_n 105 106 rfl (x := 33) rfl dX5_readRound_105 ?_
            refine qw_U 106 109 rfl (av := []) ca_X5_advance wm_467 wp_1 wm_465 ck5 (by decide +kernel) rfl rfl (Nat.le_of_ble_eq_true rfl) dX5_readRound_106 h (fun M14 h => ?_)
            refine qr_iinc 109 112 rfl (by decide) (x := x2) rfl rfl rfl dX5_readRound_109 ?_
            refine qr_goto 112 36 (by decide) dX5_readRound_112 ?_
            exact qr_cut 36 (ls' := [some (qR 33), some (qI x1), some (qI (q_add x2 1)), none]) (And.intro rfl (And.intro rfl (And.intro rfl trivial))) h
          · have h := h.2 c87
            refine qr_aload_n 90 91 rfl (x := 33) rfl dX5_readRound_90 ?_
            refine qr_iconst 91 92 rfl (q_l32 _ rfl) dX5_readRound_91 ?_
            refine qw_I 92 95 rfl (av := [qI 3]) ca_X5_refuse wm_611 wp_8 wm_609 ck5 (by decide +kernel) rfl rfl (Nat.le_of_ble_eq_true rfl) dX5_readRound_92 h (fun v16 M15 h => ?_)
            exact qe_z 95 rfl h.1 dX5_readRound_95 h.2
theorem dX5_startLaw_0 : decode cX5_startLaw 0 = .ok (.aload_n 0, 1) := by decide +kernel
theorem dX5_startLaw_1 : decode cX5_startLaw 1 = .ok (.invokevirtual 51, 3) := by decide +kernel
theorem dX5_startLaw_4 : decode cX5_startLaw 4 = .ok (.aload_n 0, 1) := by decide +kernel
theorem dX5_startLaw_5 : decode cX5_startLaw 5 = .ok (.aload_n 1, 1) := by decide +kernel
theorem dX5_startLaw_6 : decode cX5_startLaw 6 = .ok (.putfield 30, 3) := by decide +kernel
theorem dX5_startLaw_9 : decode cX5_startLaw 9 = .ok (.aload_n 0, 1) := by decide +kernel
theorem dX5_startLaw_10 : decode cX5_startLaw 10 = .ok (.getfield 30, 3) := by decide +kernel
theorem dX5_startLaw_13 : decode cX5_startLaw 13 = .ok (.invokevirtual 155, 3) := by decide +kernel
theorem dX5_startLaw_16 : decode cX5_startLaw 16 = .ok (.aload_n 0, 1) := by decide +kernel
theorem dX5_startLaw_17 : decode cX5_startLaw 17 = .ok (.bipush 58, 2) := by decide +kernel
theorem dX5_startLaw_19 : decode cX5_startLaw 19 = .ok (.invokevirtual 64, 3) := by decide +kernel
theorem dX5_startLaw_22 : decode cX5_startLaw 22 = .ok (.ireturn, 1) := by decide +kernel
theorem bX5_startLaw_0 {d : Nat} {P : Int → q_Mem → Prop} {M : q_Mem} (x1 : Int) (k1 : q_kd x1 = 2) (h : q_kU yX5_advance mX5_advance d [qR 33] M (fun M1 => (∀ M2 : q_Mem, M2 = q_up M1 33 9 x1 → q_kd (M2 33 9) = 2 ∧ (q_kU yX2_clear mX2_clear d [qR (M2 33 9)] M2 (fun M4 => q_kI yX5_takeSign mX5_takeSign d [qR 33, qI 58] M4 (fun v6 M5 => (v6 = 0 ∨ v6 = 1) ∧ P v6 M5)))))) : q_v mX5_startLaw d (qPI P) M 0 [some (qR 33), some (qR x1)] [] := by
  refine qr_aload_n 0 1 rfl (x := 33) rfl dX5_startLaw_0 ?_
  refine qw_U 1 4 rfl (av := []) ca_X5_advance wm_467 wp_1 wm_465 ck5 (by decide +kernel) rfl rfl (Nat.le_of_ble_eq_true rfl) dX5_startLaw_1 h (fun M1 h => ?_)
  refine qr_aload_n 4 5 rfl (x := 33) rfl dX5_startLaw_4 ?_
  refine qr_aload_n 5 6 rfl (x := x1) rfl dX5_startLaw_5 ?_
  refine qp_r 6 9 rfl ck5 9 (kk := 9) (by decide) (by decide +kernel) (by decide) (by decide +kernel) rfl wm_137 rfl dX5_startLaw_6 (fun M2 e_M2 => ?_)
  have h := h M2 e_M2
  refine qr_aload_n 9 10 rfl (x := 33) rfl dX5_startLaw_9 ?_
  refine qg_r 10 13 rfl ck5 9 (kk := 9) (by decide) (by decide +kernel) (by decide +kernel) rfl wm_137 rfl dX5_startLaw_10 ?_
  have hk3 := h.1
  have h := h.2
  refine qw_U 13 16 rfl (av := []) ca_X2_clear wm_462 wm_463 wm_668 ck2 hk3 rfl rfl (Nat.le_of_ble_eq_true rfl) dX5_startLaw_13 h (fun M4 h => ?_)
  refine qr_aload_n 16 17 rfl (x := 33) rfl dX5_startLaw_16 ?_
  refine qr_bipush 17 19 rfl (q_l32 _ rfl) (by decide) dX5_startLaw_17 ?_
  refine qw_I 19 22 rfl (av := [qI 58]) ca_X5_takeSign wm_620 wp_10 wm_618 ck5 (by decide +kernel) rfl rfl (Nat.le_of_ble_eq_true rfl) dX5_startLaw_19 h (fun v6 M5 h => ?_)
  exact qe_z 22 rfl h.1 dX5_startLaw_22 h.2
theorem dX5_readSum_0 : decode cX5_readSum 0 = .ok (.aload_n 0, 1) := by decide +kernel
theorem dX5_readSum_1 : decode cX5_readSum 1 = .ok (.iload_n 1, 1) := by decide +kernel
theorem dX5_readSum_2 : decode cX5_readSum 2 = .ok (.invokevirtual 158, 3) := by decide +kernel
theorem dX5_readSum_5 : decode cX5_readSum 5 = .ok (.ifCond .ne 5, 3) := by decide +kernel
theorem dX5_readSum_8 : decode cX5_readSum 8 = .ok (.iconst 0, 1) := by decide +kernel
theorem dX5_readSum_9 : decode cX5_readSum 9 = .ok (.ireturn, 1) := by decide +kernel
theorem dX5_readSum_10 : decode cX5_readSum 10 = .ok (.iconst 0, 1) := by decide +kernel
theorem dX5_readSum_11 : decode cX5_readSum 11 = .ok (.istore_n 2, 1) := by decide +kernel
theorem dX5_readSum_12 : decode cX5_readSum 12 = .ok (.iload_n 2, 1) := by decide +kernel
theorem dX5_readSum_13 : decode cX5_readSum 13 = .ok (.aload_n 0, 1) := by decide +kernel
theorem dX5_readSum_14 : decode cX5_readSum 14 = .ok (.getfield 39, 3) := by decide +kernel
theorem dX5_readSum_17 : decode cX5_readSum 17 = .ok (.if_icmp .ge 66, 3) := by decide +kernel
theorem dX5_readSum_20 : decode cX5_readSum 20 = .ok (.aload_n 0, 1) := by decide +kernel
theorem dX5_readSum_21 : decode cX5_readSum 21 = .ok (.bipush 43, 2) := by decide +kernel
theorem dX5_readSum_23 : decode cX5_readSum 23 = .ok (.invokevirtual 161, 3) := by decide +kernel
theorem dX5_readSum_26 : decode cX5_readSum 26 = .ok (.ifCond .ne 12, 3) := by decide +kernel
theorem dX5_readSum_29 : decode cX5_readSum 29 = .ok (.aload_n 0, 1) := by decide +kernel
theorem dX5_readSum_30 : decode cX5_readSum 30 = .ok (.bipush 45, 2) := by decide +kernel
theorem dX5_readSum_32 : decode cX5_readSum 32 = .ok (.invokevirtual 161, 3) := by decide +kernel
theorem dX5_readSum_35 : decode cX5_readSum 35 = .ok (.ifCond .eq 48, 3) := by decide +kernel
theorem dX5_readSum_38 : decode cX5_readSum 38 = .ok (.aload_n 0, 1) := by decide +kernel
theorem dX5_readSum_39 : decode cX5_readSum 39 = .ok (.bipush 43, 2) := by decide +kernel
theorem dX5_readSum_41 : decode cX5_readSum 41 = .ok (.invokevirtual 161, 3) := by decide +kernel
theorem dX5_readSum_44 : decode cX5_readSum 44 = .ok (.ifCond .eq 8, 3) := by decide +kernel
theorem dX5_readSum_47 : decode cX5_readSum 47 = .ok (.bipush (-6), 2) := by decide +kernel
theorem dX5_readSum_49 : decode cX5_readSum 49 = .ok (.goto 5, 3) := by decide +kernel
theorem dX5_readSum_52 : decode cX5_readSum 52 = .ok (.bipush (-7), 2) := by decide +kernel
theorem dX5_readSum_54 : decode cX5_readSum 54 = .ok (.istore_n 3, 1) := by decide +kernel
theorem dX5_readSum_55 : decode cX5_readSum 55 = .ok (.aload_n 0, 1) := by decide +kernel
theorem dX5_readSum_56 : decode cX5_readSum 56 = .ok (.invokevirtual 51, 3) := by decide +kernel
theorem dX5_readSum_59 : decode cX5_readSum 59 = .ok (.aload_n 0, 1) := by decide +kernel
theorem dX5_readSum_60 : decode cX5_readSum 60 = .ok (.iload_n 1, 1) := by decide +kernel
theorem dX5_readSum_61 : decode cX5_readSum 61 = .ok (.invokevirtual 158, 3) := by decide +kernel
theorem dX5_readSum_64 : decode cX5_readSum 64 = .ok (.ifCond .ne 5, 3) := by decide +kernel
theorem dX5_readSum_67 : decode cX5_readSum 67 = .ok (.iconst 0, 1) := by decide +kernel
theorem dX5_readSum_68 : decode cX5_readSum 68 = .ok (.ireturn, 1) := by decide +kernel
theorem dX5_readSum_69 : decode cX5_readSum 69 = .ok (.aload_n 0, 1) := by decide +kernel
theorem dX5_readSum_70 : decode cX5_readSum 70 = .ok (.getfield 30, 3) := by decide +kernel
theorem dX5_readSum_73 : decode cX5_readSum 73 = .ok (.iload_n 3, 1) := by decide +kernel
theorem dX5_readSum_74 : decode cX5_readSum 74 = .ok (.invokevirtual 164, 3) := by decide +kernel
theorem dX5_readSum_77 : decode cX5_readSum 77 = .ok (.iinc 2 1, 3) := by decide +kernel
theorem dX5_readSum_80 : decode cX5_readSum 80 = .ok (.goto (-68), 3) := by decide +kernel
theorem dX5_readSum_83 : decode cX5_readSum 83 = .ok (.iconst 1, 1) := by decide +kernel
theorem dX5_readSum_84 : decode cX5_readSum 84 = .ok (.ireturn, 1) := by decide +kernel
theorem bX5_readSum_0 {d : Nat} {P : Int → q_Mem → Prop} {M : q_Mem} (x1 : Int) (h : q_kI yX5_readTerm mX5_readTerm d [qR 33, qI x1] M (fun v2 M1 => ((¬ v2 = 0) → q_v mX5_readSum d (qPI P) M1 12 [some (qR 33), some (qI x1), some (qI 0), none] []) ∧ ((v2 = 0) → P 0 M1))) : q_v mX5_readSum d (qPI P) M 0 [some (qR 33), some (qI x1), none, none] [] := by
  refine qr_aload_n 0 1 rfl (x := 33) rfl dX5_readSum_0 ?_
  refine qr_iload_n 1 2 rfl (x := x1) rfl dX5_readSum_1 ?_
  refine qw_I 2 5 rfl (av := [qI x1]) ca_X5_readTerm wm_675 wp_18 wm_673 ck5 (by decide +kernel) rfl rfl (Nat.le_of_ble_eq_true rfl) dX5_readSum_2 h (fun v2 M1 h => ?_)
  refine qr_if_ne 5 8 10 rfl (by decide) dX5_readSum_5 (fun c5 => ?_) (fun c5 => ?_)
  · have h := h.1 c5
    refine qr_iconst 10 11 rfl (q_l32 _ rfl) dX5_readSum_10 ?_
    refine qr_istore_n 11 12 rfl (by decide) rfl rfl dX5_readSum_11 ?_
    exact h
  · have h := h.2 c5
    refine qr_iconst 8 9 rfl (q_l32 _ rfl) dX5_readSum_8 ?_
    exact qe_z 9 rfl (by decide) dX5_readSum_9 h
theorem bX5_readSum_12 {d : Nat} {P : Int → q_Mem → Prop} {M : q_Mem} (x1 x2 : Int) (h : (((M 33 3) ≤ x2) → P 1 M) ∧ ((¬ ((M 33 3) ≤ x2)) → q_kI yX5_isSign mX5_isSign d [qR 33, qI 43] M (fun v2 M1 => ((¬ v2 = 0) → q_v mX5_readSum d (qPI P) M1 38 [some (qR 33), some (qI x1), some (qI x2), none] []) ∧ ((v2 = 0) → q_kI yX5_isSign mX5_isSign d [qR 33, qI 45] M1 (fun v4 M3 => ((v4 = 0) → P 1 M3) ∧ ((¬ (v4 = 0)) → q_v mX5_readSum d (qPI P) M3 38 [some (qR 33), some (qI x1), some (qI x2), none] [])))))) : q_v mX5_readSum d (qPI P) M 12 [some (qR 33), some (qI x1), some (qI x2), none] [] := by
  refine qr_iload_n 12 13 rfl (x := x2) rfl dX5_readSum_12 ?_
  refine qr_aload_n 13 14 rfl (x := 33) rfl dX5_readSum_13 ?_
  refine qg_i 14 17 rfl ck5 3 (kk := 3) (by decide) (by decide +kernel) (by decide +kernel) rfl wm_131 rfl dX5_readSum_14 ?_
  refine qr_icmp_ge 17 20 83 rfl (by decide) dX5_readSum_17 (fun c17 => ?_) (fun c17 => ?_)
  · have h := h.1 c17
    refine qr_iconst 83 84 rfl (q_l32 _ rfl) dX5_readSum_83 ?_
    exact qe_z 84 rfl (by decide) dX5_readSum_84 h
  · have h := h.2 c17
    refine qr_aload_n 20 21 rfl (x := 33) rfl dX5_readSum_20 ?_
    refine qr_bipush 21 23 rfl (q_l32 _ rfl) (by decide) dX5_readSum_21 ?_
    refine qw_I 23 26 rfl (av := [qI 43]) ca_X5_isSign wm_624 wp_11 wm_622 ck5 (by decide +kernel) rfl rfl (Nat.le_of_ble_eq_true rfl) dX5_readSum_23 h (fun v2 M1 h => ?_)
    refine qr_if_ne 26 29 38 rfl (by decide) dX5_readSum_26 (fun c26 => ?_) (fun c26 => ?_)
    · have h := h.1 c26
      exact h
    · have h := h.2 c26
      refine qr_aload_n 29 30 rfl (x := 33) rfl dX5_readSum_29 ?_
      refine qr_bipush 30 32 rfl (q_l32 _ rfl) (by decide) dX5_readSum_30 ?_
      refine qw_I 32 35 rfl (av := [qI 45]) ca_X5_isSign wm_624 wp_11 wm_622 ck5 (by decide +kernel) rfl rfl (Nat.le_of_ble_eq_true rfl) dX5_readSum_32 h (fun v4 M3 h => ?_)
      refine qr_if_eq 35 38 83 rfl (by decide) dX5_readSum_35 (fun c35 => ?_) (fun c35 => ?_)
      · have h := h.1 c35
        refine qr_iconst 83 84 rfl (q_l32 _ rfl) dX5_readSum_83 ?_
        exact qe_z 84 rfl (by decide) dX5_readSum_84 h
      · have h := h.2 c35
        exact h
theorem bX5_readSum_38 {d : Nat} {P : Int → q_Mem → Prop} {M : q_Mem} (x1 x2 : Int) (h : q_kI yX5_isSign mX5_isSign d [qR 33, qI 43] M (fun v2 M1 => ((v2 = 0) → q_v mX5_readSum d (qPI P) M1 54 [some (qR 33), some (qI x1), some (qI x2), none] [qI (-7)]) ∧ ((¬ (v2 = 0)) → q_v mX5_readSum d (qPI P) M1 54 [some (qR 33), some (qI x1), some (qI x2), none] [qI (-6)]))) : q_v mX5_readSum d (qPI P) M 38 [some (qR 33), some (qI x1), some (qI x2), none] [] := by
  refine qr_aload_n 38 39 rfl (x := 33) rfl dX5_readSum_38 ?_
  refine qr_bipush 39 41 rfl (q_l32 _ rfl) (by decide) dX5_readSum_39 ?_
  refine qw_I 41 44 rfl (av := [qI 43]) ca_X5_isSign wm_624 wp_11 wm_622 ck5 (by decide +kernel) rfl rfl (Nat.le_of_ble_eq_true rfl) dX5_readSum_41 h (fun v2 M1 h => ?_)
  refine qr_if_eq 44 47 52 rfl (by decide) dX5_readSum_44 (fun c44 => ?_) (fun c44 => ?_)
  · have h := h.1 c44
    refine qr_bipush 52 54 rfl (q_l32 _ rfl) (by decide) dX5_readSum_52 ?_
    exact h
  · have h := h.2 c44
    refine qr_bipush 47 49 rfl (q_l32 _ rfl) (by decide) dX5_readSum_47 ?_
    refine qr_goto 49 54 (by decide) dX5_readSum_49 ?_
    exact h
theorem bX5_readSum_54 {d : Nat} {P : Int → q_Mem → Prop} {M : q_Mem} (x1 x2 y0 : Int) (h : q_kU yX5_advance mX5_advance d [qR 33] M (fun M1 => q_kI yX5_readTerm mX5_readTerm d [qR 33, qI x1] M1 (fun v3 M2 => ((¬ v3 = 0) → q_kd (M2 33 9) = 2 ∧ (q_kU yX2_add mX2_add d [qR (M2 33 9), qI y0] M2 (fun M5 => q_v mX5_readSum d (qPI P) M5 12 [some (qR 33), some (qI x1), some (qI (q_add x2 1)), none] []))) ∧ ((v3 = 0) → P 0 M2)))) : q_v mX5_readSum d (qPI P) M 54 [some (qR 33), some (qI x1), some (qI x2), none] [qI y0] := by
  refine qr_istore_n 54 55 rfl (by decide) rfl rfl dX5_readSum_54 ?_
  refine qr_aload_n 55 56 rfl (x := 33) rfl dX5_readSum_55 ?_
  refine qw_U 56 59 rfl (av := []) ca_X5_advance wm_467 wp_1 wm_465 ck5 (by decide +kernel) rfl rfl (Nat.le_of_ble_eq_true rfl) dX5_readSum_56 h (fun M1 h => ?_)
  refine qr_aload_n 59 60 rfl (x := 33) rfl dX5_readSum_59 ?_
  refine qr_iload_n 60 61 rfl (x := x1) rfl dX5_readSum_60 ?_
  refine qw_I 61 64 rfl (av := [qI x1]) ca_X5_readTerm wm_675 wp_18 wm_673 ck5 (by decide +kernel) rfl rfl (Nat.le_of_ble_eq_true rfl) dX5_readSum_61 h (fun v3 M2 h => ?_)
  refine qr_if_ne 64 67 69 rfl (by decide) dX5_readSum_64 (fun c64 => ?_) (fun c64 => ?_)
  · have h := h.1 c64
    refine qr_aload_n 69 70 rfl (x := 33) rfl dX5_readSum_69 ?_
    refine qg_r 70 73 rfl ck5 9 (kk := 9) (by decide) (by decide +kernel) (by decide +kernel) rfl wm_137 rfl dX5_readSum_70 ?_
    refine qr_iload_n 73 74 rfl (x := y0) rfl dX5_readSum_73 ?_
    have hk4 := h.1
    have h := h.2
    refine qw_U 74 77 rfl (av := [qI y0]) ca_X2_add wm_704 wm_705 wm_703 ck2 hk4 rfl rfl (Nat.le_of_ble_eq_true rfl) dX5_readSum_74 h (fun M5 h => ?_)
    refine qr_iinc 77 80 rfl (by decide) (x := x2) rfl rfl rfl dX5_readSum_77 ?_
    refine qr_goto 80 12 (by decide) dX5_readSum_80 ?_
    exact qr_cut 12 (ls' := [some (qR 33), some (qI x1), some (qI (q_add x2 1)), none]) (And.intro rfl (And.intro rfl (And.intro rfl trivial))) h
  · have h := h.2 c64
    refine qr_iconst 67 68 rfl (q_l32 _ rfl) dX5_readSum_67 ?_
    exact qe_z 68 rfl (by decide) dX5_readSum_68 h
theorem dX5_readTerm_0 : decode cX5_readTerm 0 = .ok (.aload_n 0, 1) := by decide +kernel
theorem dX5_readTerm_1 : decode cX5_readTerm 1 = .ok (.iload_n 1, 1) := by decide +kernel
theorem dX5_readTerm_2 : decode cX5_readTerm 2 = .ok (.invokevirtual 168, 3) := by decide +kernel
theorem dX5_readTerm_5 : decode cX5_readTerm 5 = .ok (.ifCond .ne 5, 3) := by decide +kernel
theorem dX5_readTerm_8 : decode cX5_readTerm 8 = .ok (.iconst 0, 1) := by decide +kernel
theorem dX5_readTerm_9 : decode cX5_readTerm 9 = .ok (.ireturn, 1) := by decide +kernel
theorem dX5_readTerm_10 : decode cX5_readTerm 10 = .ok (.iconst 0, 1) := by decide +kernel
theorem dX5_readTerm_11 : decode cX5_readTerm 11 = .ok (.istore_n 2, 1) := by decide +kernel
theorem dX5_readTerm_12 : decode cX5_readTerm 12 = .ok (.iload_n 2, 1) := by decide +kernel
theorem dX5_readTerm_13 : decode cX5_readTerm 13 = .ok (.aload_n 0, 1) := by decide +kernel
theorem dX5_readTerm_14 : decode cX5_readTerm 14 = .ok (.getfield 39, 3) := by decide +kernel
theorem dX5_readTerm_17 : decode cX5_readTerm 17 = .ok (.if_icmp .ge 41, 3) := by decide +kernel
theorem dX5_readTerm_20 : decode cX5_readTerm 20 = .ok (.aload_n 0, 1) := by decide +kernel
theorem dX5_readTerm_21 : decode cX5_readTerm 21 = .ok (.bipush 42, 2) := by decide +kernel
theorem dX5_readTerm_23 : decode cX5_readTerm 23 = .ok (.invokevirtual 161, 3) := by decide +kernel
theorem dX5_readTerm_26 : decode cX5_readTerm 26 = .ok (.ifCond .eq 32, 3) := by decide +kernel
theorem dX5_readTerm_29 : decode cX5_readTerm 29 = .ok (.aload_n 0, 1) := by decide +kernel
theorem dX5_readTerm_30 : decode cX5_readTerm 30 = .ok (.invokevirtual 51, 3) := by decide +kernel
theorem dX5_readTerm_33 : decode cX5_readTerm 33 = .ok (.aload_n 0, 1) := by decide +kernel
theorem dX5_readTerm_34 : decode cX5_readTerm 34 = .ok (.iload_n 1, 1) := by decide +kernel
theorem dX5_readTerm_35 : decode cX5_readTerm 35 = .ok (.invokevirtual 168, 3) := by decide +kernel
theorem dX5_readTerm_38 : decode cX5_readTerm 38 = .ok (.ifCond .ne 5, 3) := by decide +kernel
theorem dX5_readTerm_41 : decode cX5_readTerm 41 = .ok (.iconst 0, 1) := by decide +kernel
theorem dX5_readTerm_42 : decode cX5_readTerm 42 = .ok (.ireturn, 1) := by decide +kernel
theorem dX5_readTerm_43 : decode cX5_readTerm 43 = .ok (.aload_n 0, 1) := by decide +kernel
theorem dX5_readTerm_44 : decode cX5_readTerm 44 = .ok (.getfield 30, 3) := by decide +kernel
theorem dX5_readTerm_47 : decode cX5_readTerm 47 = .ok (.bipush (-8), 2) := by decide +kernel
theorem dX5_readTerm_49 : decode cX5_readTerm 49 = .ok (.invokevirtual 164, 3) := by decide +kernel
theorem dX5_readTerm_52 : decode cX5_readTerm 52 = .ok (.iinc 2 1, 3) := by decide +kernel
theorem dX5_readTerm_55 : decode cX5_readTerm 55 = .ok (.goto (-43), 3) := by decide +kernel
theorem dX5_readTerm_58 : decode cX5_readTerm 58 = .ok (.iconst 1, 1) := by decide +kernel
theorem dX5_readTerm_59 : decode cX5_readTerm 59 = .ok (.ireturn, 1) := by decide +kernel
theorem bX5_readTerm_0 {d : Nat} {P : Int → q_Mem → Prop} {M : q_Mem} (x1 : Int) (h : q_kI yX5_readAtom mX5_readAtom d [qR 33, qI x1] M (fun v2 M1 => ((¬ v2 = 0) → q_v mX5_readTerm d (qPI P) M1 12 [some (qR 33), some (qI x1), some (qI 0)] []) ∧ ((v2 = 0) → P 0 M1))) : q_v mX5_readTerm d (qPI P) M 0 [some (qR 33), some (qI x1), none] [] := by
  refine qr_aload_n 0 1 rfl (x := 33) rfl dX5_readTerm_0 ?_
  refine qr_iload_n 1 2 rfl (x := x1) rfl dX5_readTerm_1 ?_
  refine qw_I 2 5 rfl (av := [qI x1]) ca_X5_readAtom wm_679 wp_19 wm_677 ck5 (by decide +kernel) rfl rfl (Nat.le_of_ble_eq_true rfl) dX5_readTerm_2 h (fun v2 M1 h => ?_)
  refine qr_if_ne 5 8 10 rfl (by decide) dX5_readTerm_5 (fun c5 => ?_) (fun c5 => ?_)
  · have h := h.1 c5
    refine qr_iconst 10 11 rfl (q_l32 _ rfl) dX5_readTerm_10 ?_
    refine qr_istore_n 11 12 rfl (by decide) rfl rfl dX5_readTerm_11 ?_
    exact h
  · have h := h.2 c5
    refine qr_iconst 8 9 rfl (q_l32 _ rfl) dX5_readTerm_8 ?_
    exact qe_z 9 rfl (by decide) dX5_readTerm_9 h
theorem bX5_readTerm_12 {d : Nat} {P : Int → q_Mem → Prop} {M : q_Mem} (x1 x2 : Int) (h : (((M 33 3) ≤ x2) → P 1 M) ∧ ((¬ ((M 33 3) ≤ x2)) → q_kI yX5_isSign mX5_isSign d [qR 33, qI 42] M (fun v2 M1 => ((v2 = 0) → P 1 M1) ∧ ((¬ (v2 = 0)) → q_kU yX5_advance mX5_advance d [qR 33] M1 (fun M3 => q_kI yX5_readAtom mX5_readAtom d [qR 33, qI x1] M3 (fun v5 M4 => ((¬ v5 = 0) → q_kd (M4 33 9) = 2 ∧ (q_kU yX2_add mX2_add d [qR (M4 33 9), qI (-8)] M4 (fun M7 => q_v mX5_readTerm d (qPI P) M7 12 [some (qR 33), some (qI x1), some (qI (q_add x2 1))] []))) ∧ ((v5 = 0) → P 0 M4))))))) : q_v mX5_readTerm d (qPI P) M 12 [some (qR 33), some (qI x1), some (qI x2)] [] := by
  refine qr_iload_n 12 13 rfl (x := x2) rfl dX5_readTerm_12 ?_
  refine qr_aload_n 13 14 rfl (x := 33) rfl dX5_readTerm_13 ?_
  refine qg_i 14 17 rfl ck5 3 (kk := 3) (by decide) (by decide +kernel) (by decide +kernel) rfl wm_131 rfl dX5_readTerm_14 ?_
  refine qr_icmp_ge 17 20 58 rfl (by decide) dX5_readTerm_17 (fun c17 => ?_) (fun c17 => ?_)
  · have h := h.1 c17
    refine qr_iconst 58 59 rfl (q_l32 _ rfl) dX5_readTerm_58 ?_
    exact qe_z 59 rfl (by decide) dX5_readTerm_59 h
  · have h := h.2 c17
    refine qr_aload_n 20 21 rfl (x := 33) rfl dX5_readTerm_20 ?_
    refine qr_bipush 21 23 rfl (q_l32 _ rfl) (by decide) dX5_readTerm_21 ?_
    refine qw_I 23 26 rfl (av := [qI 42]) ca_X5_isSign wm_624 wp_11 wm_622 ck5 (by decide +kernel) rfl rfl (Nat.le_of_ble_eq_true rfl) dX5_readTerm_23 h (fun v2 M1 h => ?_)
    refine qr_if_eq 26 29 58 rfl (by decide) dX5_readTerm_26 (fun c26 => ?_) (fun c26 => ?_)
    · have h := h.1 c26
      refine qr_iconst 58 59 rfl (q_l32 _ rfl) dX5_readTerm_58 ?_
      exact qe_z 59 rfl (by decide) dX5_readTerm_59 h
    · have h := h.2 c26
      refine qr_aload_n 29 30 rfl (x := 33) rfl dX5_readTerm_29 ?_
      refine qw_U 30 33 rfl (av := []) ca_X5_advance wm_467 wp_1 wm_465 ck5 (by decide +kernel) rfl rfl (Nat.le_of_ble_eq_true rfl) dX5_readTerm_30 h (fun M3 h => ?_)
      refine qr_aload_n 33 34 rfl (x := 33) rfl dX5_readTerm_33 ?_
      refine qr_iload_n 34 35 rfl (x := x1) rfl dX5_readTerm_34 ?_
      refine qw_I 35 38 rfl (av := [qI x1]) ca_X5_readAtom wm_679 wp_19 wm_677 ck5 (by decide +kernel) rfl rfl (Nat.le_of_ble_eq_true rfl) dX5_readTerm_35 h (fun v5 M4 h => ?_)
      refine qr_if_ne 38 41 43 rfl (by decide) dX5_readTerm_38 (fun c38 => ?_) (fun c38 => ?_)
      · have h := h.1 c38
        refine qr_aload_n 43 44 rfl (x := 33) rfl dX5_readTerm_43 ?_
        refine qg_r 44 47 rfl ck5 9 (kk := 9) (by decide) (by decide +kernel) (by decide +kernel) rfl wm_137 rfl dX5_readTerm_44 ?_
        refine qr_bipush 47 49 rfl (q_l32 _ rfl) (by decide) dX5_readTerm_47 ?_
        have hk6 := h.1
        have h := h.2
        refine qw_U 49 52 rfl (av := [qI (-8)]) ca_X2_add wm_704 wm_705 wm_703 ck2 hk6 rfl rfl (Nat.le_of_ble_eq_true rfl) dX5_readTerm_49 h (fun M7 h => ?_)
        refine qr_iinc 52 55 rfl (by decide) (x := x2) rfl rfl rfl dX5_readTerm_52 ?_
        refine qr_goto 55 12 (by decide) dX5_readTerm_55 ?_
        exact h
      · have h := h.2 c38
        refine qr_iconst 41 42 rfl (q_l32 _ rfl) dX5_readTerm_41 ?_
        exact qe_z 42 rfl (by decide) dX5_readTerm_42 h
theorem dX5_readAtom_0 : decode cX5_readAtom 0 = .ok (.aload_n 0, 1) := by decide +kernel
theorem dX5_readAtom_1 : decode cX5_readAtom 1 = .ok (.bipush 40, 2) := by decide +kernel
theorem dX5_readAtom_3 : decode cX5_readAtom 3 = .ok (.invokevirtual 161, 3) := by decide +kernel
theorem dX5_readAtom_6 : decode cX5_readAtom 6 = .ok (.ifCond .eq 36, 3) := by decide +kernel
theorem dX5_readAtom_9 : decode cX5_readAtom 9 = .ok (.aload_n 0, 1) := by decide +kernel
theorem dX5_readAtom_10 : decode cX5_readAtom 10 = .ok (.iload_n 1, 1) := by decide +kernel
theorem dX5_readAtom_11 : decode cX5_readAtom 11 = .ok (.invokevirtual 171, 3) := by decide +kernel
theorem dX5_readAtom_14 : decode cX5_readAtom 14 = .ok (.ifCond .eq 26, 3) := by decide +kernel
theorem dX5_readAtom_17 : decode cX5_readAtom 17 = .ok (.aload_n 0, 1) := by decide +kernel
theorem dX5_readAtom_18 : decode cX5_readAtom 18 = .ok (.iload_n 1, 1) := by decide +kernel
theorem dX5_readAtom_19 : decode cX5_readAtom 19 = .ok (.iconst 1, 1) := by decide +kernel
theorem dX5_readAtom_20 : decode cX5_readAtom 20 = .ok (.iadd, 1) := by decide +kernel
theorem dX5_readAtom_21 : decode cX5_readAtom 21 = .ok (.invokevirtual 109, 3) := by decide +kernel
theorem dX5_readAtom_24 : decode cX5_readAtom 24 = .ok (.ifCond .eq 16, 3) := by decide +kernel
theorem dX5_readAtom_27 : decode cX5_readAtom 27 = .ok (.aload_n 0, 1) := by decide +kernel
theorem dX5_readAtom_28 : decode cX5_readAtom 28 = .ok (.bipush 41, 2) := by decide +kernel
theorem dX5_readAtom_30 : decode cX5_readAtom 30 = .ok (.invokevirtual 64, 3) := by decide +kernel
theorem dX5_readAtom_33 : decode cX5_readAtom 33 = .ok (.ifCond .eq 7, 3) := by decide +kernel
theorem dX5_readAtom_36 : decode cX5_readAtom 36 = .ok (.iconst 1, 1) := by decide +kernel
theorem dX5_readAtom_37 : decode cX5_readAtom 37 = .ok (.goto 4, 3) := by decide +kernel
theorem dX5_readAtom_40 : decode cX5_readAtom 40 = .ok (.iconst 0, 1) := by decide +kernel
theorem dX5_readAtom_41 : decode cX5_readAtom 41 = .ok (.ireturn, 1) := by decide +kernel
theorem dX5_readAtom_42 : decode cX5_readAtom 42 = .ok (.aload_n 0, 1) := by decide +kernel
theorem dX5_readAtom_43 : decode cX5_readAtom 43 = .ok (.ldc 174, 2) := by decide +kernel
theorem dX5_readAtom_45 : decode cX5_readAtom 45 = .ok (.invokevirtual 88, 3) := by decide +kernel
theorem dX5_readAtom_48 : decode cX5_readAtom 48 = .ok (.ifCond .eq 27, 3) := by decide +kernel
theorem dX5_readAtom_51 : decode cX5_readAtom 51 = .ok (.aload_n 0, 1) := by decide +kernel
theorem dX5_readAtom_52 : decode cX5_readAtom 52 = .ok (.iload_n 1, 1) := by decide +kernel
theorem dX5_readAtom_53 : decode cX5_readAtom 53 = .ok (.invokevirtual 171, 3) := by decide +kernel
theorem dX5_readAtom_56 : decode cX5_readAtom 56 = .ok (.ifCond .eq 17, 3) := by decide +kernel
theorem dX5_readAtom_59 : decode cX5_readAtom 59 = .ok (.aload_n 0, 1) := by decide +kernel
theorem dX5_readAtom_60 : decode cX5_readAtom 60 = .ok (.iload_n 1, 1) := by decide +kernel
theorem dX5_readAtom_61 : decode cX5_readAtom 61 = .ok (.iconst 1, 1) := by decide +kernel
theorem dX5_readAtom_62 : decode cX5_readAtom 62 = .ok (.iadd, 1) := by decide +kernel
theorem dX5_readAtom_63 : decode cX5_readAtom 63 = .ok (.invokevirtual 176, 3) := by decide +kernel
theorem dX5_readAtom_66 : decode cX5_readAtom 66 = .ok (.ifCond .eq 7, 3) := by decide +kernel
theorem dX5_readAtom_69 : decode cX5_readAtom 69 = .ok (.iconst 1, 1) := by decide +kernel
theorem dX5_readAtom_70 : decode cX5_readAtom 70 = .ok (.goto 4, 3) := by decide +kernel
theorem dX5_readAtom_73 : decode cX5_readAtom 73 = .ok (.iconst 0, 1) := by decide +kernel
theorem dX5_readAtom_74 : decode cX5_readAtom 74 = .ok (.ireturn, 1) := by decide +kernel
theorem dX5_readAtom_75 : decode cX5_readAtom 75 = .ok (.aload_n 0, 1) := by decide +kernel
theorem dX5_readAtom_76 : decode cX5_readAtom 76 = .ok (.invokevirtual 179, 3) := by decide +kernel
theorem dX5_readAtom_79 : decode cX5_readAtom 79 = .ok (.istore_n 2, 1) := by decide +kernel
theorem dX5_readAtom_80 : decode cX5_readAtom 80 = .ok (.iload_n 2, 1) := by decide +kernel
theorem dX5_readAtom_81 : decode cX5_readAtom 81 = .ok (.bipush (-15), 2) := by decide +kernel
theorem dX5_readAtom_83 : decode cX5_readAtom 83 = .ok (.if_icmp .ne 9, 3) := by decide +kernel
theorem dX5_readAtom_86 : decode cX5_readAtom 86 = .ok (.aload_n 0, 1) := by decide +kernel
theorem dX5_readAtom_87 : decode cX5_readAtom 87 = .ok (.iconst 2, 1) := by decide +kernel
theorem dX5_readAtom_88 : decode cX5_readAtom 88 = .ok (.invokevirtual 120, 3) := by decide +kernel
theorem dX5_readAtom_91 : decode cX5_readAtom 91 = .ok (.ireturn, 1) := by decide +kernel
theorem dX5_readAtom_92 : decode cX5_readAtom 92 = .ok (.aload_n 0, 1) := by decide +kernel
theorem dX5_readAtom_93 : decode cX5_readAtom 93 = .ok (.getfield 30, 3) := by decide +kernel
theorem dX5_readAtom_96 : decode cX5_readAtom 96 = .ok (.iload_n 2, 1) := by decide +kernel
theorem dX5_readAtom_97 : decode cX5_readAtom 97 = .ok (.invokevirtual 164, 3) := by decide +kernel
theorem dX5_readAtom_100 : decode cX5_readAtom 100 = .ok (.aload_n 0, 1) := by decide +kernel
theorem dX5_readAtom_101 : decode cX5_readAtom 101 = .ok (.invokevirtual 51, 3) := by decide +kernel
theorem dX5_readAtom_104 : decode cX5_readAtom 104 = .ok (.iconst 1, 1) := by decide +kernel
theorem dX5_readAtom_105 : decode cX5_readAtom 105 = .ok (.ireturn, 1) := by decide +kernel
theorem bX5_readAtom_0 {d : Nat} {P : Int → q_Mem → Prop} {M : q_Mem} (x1 : Int) (h : q_kI yX5_isSign mX5_isSign d [qR 33, qI 40] M (fun v2 M1 => ((v2 = 0) → q_kI yX5_isWord mX5_isWord d [qR 33, qR (-((9 : Nat) : Int) - 1)] M1 (fun v4 M3 => ((v4 = 0) → q_kI yX5_plainAtom mX5_plainAtom d [qR 33] M3 (fun v6 M5 => ((¬ v6 = ((-15) : Int)) → q_kd (M5 33 9) = 2 ∧ (q_kU yX2_add mX2_add d [qR (M5 33 9), qI v6] M5 (fun M8 => q_kU yX5_advance mX5_advance d [qR 33] M8 (fun M9 => P 1 M9)))) ∧ ((v6 = ((-15) : Int)) → q_kI yX5_refuse mX5_refuse d [qR 33, qI 2] M5 (fun v11 M10 => (v11 = 0 ∨ v11 = 1) ∧ P v11 M10)))) ∧ ((¬ (v4 = 0)) → q_kI yX5_nests mX5_nests d [qR 33, qI x1] M3 (fun v13 M12 => ((v13 = 0) → P 0 M12) ∧ ((¬ (v13 = 0)) → q_kI yX5_readChoice mX5_readChoice d [qR 33, qI (q_add x1 1)] M12 (fun v15 M14 => ((v15 = 0) → P 0 M14) ∧ ((¬ (v15 = 0)) → P 1 M14))))))) ∧ ((¬ (v2 = 0)) → q_kI yX5_nests mX5_nests d [qR 33, qI x1] M1 (fun v17 M16 => ((v17 = 0) → P 0 M16) ∧ ((¬ (v17 = 0)) → q_kI yX5_readSum mX5_readSum d [qR 33, qI (q_add x1 1)] M16 (fun v19 M18 => ((v19 = 0) → P 0 M18) ∧ ((¬ (v19 = 0)) → q_kI yX5_takeSign mX5_takeSign d [qR 33, qI 41] M18 (fun v21 M20 => ((v21 = 0) → P 0 M20) ∧ ((¬ (v21 = 0)) → P 1 M20))))))))) : q_v mX5_readAtom d (qPI P) M 0 [some (qR 33), some (qI x1), none] [] := by
  refine qr_aload_n 0 1 rfl (x := 33) rfl dX5_readAtom_0 ?_
  refine qr_bipush 1 3 rfl (q_l32 _ rfl) (by decide) dX5_readAtom_1 ?_
  refine qw_I 3 6 rfl (av := [qI 40]) ca_X5_isSign wm_624 wp_11 wm_622 ck5 (by decide +kernel) rfl rfl (Nat.le_of_ble_eq_true rfl) dX5_readAtom_3 h (fun v2 M1 h => ?_)
  refine qr_if_eq 6 9 42 rfl (by decide) dX5_readAtom_6 (fun c6 => ?_) (fun c6 => ?_)
  · have h := h.1 c6
    refine qr_aload_n 42 43 rfl (x := 33) rfl dX5_readAtom_42 ?_
    refine qr_ldcS 43 45 rfl 9 (by decide) rfl rfl rfl dX5_readAtom_43 ?_
    refine qw_I 45 48 rfl (av := [qR (-((9 : Nat) : Int) - 1)]) ca_X5_isWord wm_586 wp_7 wm_584 ck5 (by decide +kernel) rfl rfl (Nat.le_of_ble_eq_true rfl) dX5_readAtom_45 h (fun v4 M3 h => ?_)
    refine qr_if_eq 48 51 75 rfl (by decide) dX5_readAtom_48 (fun c48 => ?_) (fun c48 => ?_)
    · have h := h.1 c48
      refine qr_aload_n 75 76 rfl (x := 33) rfl dX5_readAtom_75 ?_
      refine qw_I 76 79 rfl (av := []) ca_X5_plainAtom wm_718 wp_26 wm_716 ck5 (by decide +kernel) rfl rfl (Nat.le_of_ble_eq_true rfl) dX5_readAtom_76 h (fun v6 M5 h => ?_)
      refine qr_istore_n 79 80 rfl (by decide) rfl rfl dX5_readAtom_79 ?_
      refine qr_iload_n 80 81 rfl (x := v6) rfl dX5_readAtom_80 ?_
      refine qr_bipush 81 83 rfl (q_l32 _ rfl) (by decide) dX5_readAtom_81 ?_
      refine qr_icmp_ne 83 86 92 rfl (by decide) dX5_readAtom_83 (fun c83 => ?_) (fun c83 => ?_)
      · have h := h.1 c83
        refine qr_aload_n 92 93 rfl (x := 33) rfl dX5_readAtom_92 ?_
        refine qg_r 93 96 rfl ck5 9 (kk := 9) (by decide) (by decide +kernel) (by decide +kernel) rfl wm_137 rfl dX5_readAtom_93 ?_
        refine qr_iload_n 96 97 rfl (x := v6) rfl dX5_readAtom_96 ?_
        have hk7 := h.1
        have h := h.2
        refine qw_U 97 100 rfl (av := [qI v6]) ca_X2_add wm_704 wm_705 wm_703 ck2 hk7 rfl rfl (Nat.le_of_ble_eq_true rfl) dX5_readAtom_97 h (fun M8 h => ?_)
        refine qr_aload_n 100 101 rfl (x := 33) rfl dX5_readAtom_100 ?_
        refine qw_U 101 104 rfl (av := []) ca_X5_advance wm_467 wp_1 wm_465 ck5 (by decide +kernel) rfl rfl (Nat.le_of_ble_eq_true rfl) dX5_readAtom_101 h (fun M9 h => ?_)
        refine qr_iconst 104 105 rfl (q_l32 _ rfl) dX5_readAtom_104 ?_
        exact qe_z 105 rfl (by decide) dX5_readAtom_105 h
      · have h := h.2 c83
        refine qr_aload_n 86 87 rfl (x := 33) rfl dX5_readAtom_86 ?_
        refine qr_iconst 87 88 rfl (q_l32 _ rfl) dX5_readAtom_87 ?_
        refine qw_I 88 91 rfl (av := [qI 2]) ca_X5_refuse wm_611 wp_8 wm_609 ck5 (by decide +kernel) rfl rfl (Nat.le_of_ble_eq_true rfl) dX5_readAtom_88 h (fun v11 M10 h => ?_)
        exact qe_z 91 rfl h.1 dX5_readAtom_91 h.2
    · have h := h.2 c48
      refine qr_aload_n 51 52 rfl (x := 33) rfl dX5_readAtom_51 ?_
      refine qr_iload_n 52 53 rfl (x := x1) rfl dX5_readAtom_52 ?_
      refine qw_I 53 56 rfl (av := [qI x1]) ca_X5_nests wm_683 wp_20 wm_681 ck5 (by decide +kernel) rfl rfl (Nat.le_of_ble_eq_true rfl) dX5_readAtom_53 h (fun v13 M12 h => ?_)
      refine qr_if_eq 56 59 73 rfl (by decide) dX5_readAtom_56 (fun c56 => ?_) (fun c56 => ?_)
      · have h := h.1 c56
        refine qr_iconst 73 74 rfl (q_l32 _ rfl) dX5_readAtom_73 ?_
        exact qe_z 74 rfl (by decide) dX5_readAtom_74 h
      · have h := h.2 c56
        refine qr_aload_n 59 60 rfl (x := 33) rfl dX5_readAtom_59 ?_
        refine qr_iload_n 60 61 rfl (x := x1) rfl dX5_readAtom_60 ?_
        refine qr_iconst 61 62 rfl (q_l32 _ rfl) dX5_readAtom_61 ?_
        refine qr_iadd 62 63 rfl dX5_readAtom_62 ?_
        refine qw_I 63 66 rfl (av := [qI (q_add x1 1)]) ca_X5_readChoice wm_688 wp_21 wm_686 ck5 (by decide +kernel) rfl rfl (Nat.le_of_ble_eq_true rfl) dX5_readAtom_63 h (fun v15 M14 h => ?_)
        refine qr_if_eq 66 69 73 rfl (by decide) dX5_readAtom_66 (fun c66 => ?_) (fun c66 => ?_)
        · have h := h.1 c66
          refine qr_iconst 73 74 rfl (q_l32 _ rfl) dX5_readAtom_73 ?_
          exact qe_z 74 rfl (by decide) dX5_readAtom_74 h
        · have h := h.2 c66
          refine qr_iconst 69 70 rfl (q_l32 _ rfl) dX5_readAtom_69 ?_
          refine qr_goto 70 74 (by decide) dX5_readAtom_70 ?_
          exact qe_z 74 rfl (by decide) dX5_readAtom_74 h
  · have h := h.2 c6
    refine qr_aload_n 9 10 rfl (x := 33) rfl dX5_readAtom_9 ?_
    refine qr_iload_n 10 11 rfl (x := x1) rfl dX5_readAtom_10 ?_
    refine qw_I 11 14 rfl (av := [qI x1]) ca_X5_nests wm_683 wp_20 wm_681 ck5 (by decide +kernel) rfl rfl (Nat.le_of_ble_eq_true rfl) dX5_readAtom_11 h (fun v17 M16 h => ?_)
    refine qr_if_eq 14 17 40 rfl (by decide) dX5_readAtom_14 (fun c14 => ?_) (fun c14 => ?_)
    · have h := h.1 c14
      refine qr_iconst 40 41 rfl (q_l32 _ rfl) dX5_readAtom_40 ?_
      exact qe_z 41 rfl (by decide) dX5_readAtom_41 h
    · have h := h.2 c14
      refine qr_aload_n 17 18 rfl (x := 33) rfl dX5_readAtom_17 ?_
      refine qr_iload_n 18 19 rfl (x := x1) rfl dX5_readAtom_18 ?_
      refine qr_iconst 19 20 rfl (q_l32 _ rfl) dX5_readAtom_19 ?_
      refine qr_iadd 20 21 rfl dX5_readAtom_20 ?_
      refine qw_I 21 24 rfl (av := [qI (q_add x1 1)]) ca_X5_readSum wm_671 wp_17 wm_669 ck5 (by decide +kernel) rfl rfl (Nat.le_of_ble_eq_true rfl) dX5_readAtom_21 h (fun v19 M18 h => ?_)
      refine qr_if_eq 24 27 40 rfl (by decide) dX5_readAtom_24 (fun c24 => ?_) (fun c24 => ?_)
      · have h := h.1 c24
        refine qr_iconst 40 41 rfl (q_l32 _ rfl) dX5_readAtom_40 ?_
        exact qe_z 41 rfl (by decide) dX5_readAtom_41 h
      · have h := h.2 c24
        refine qr_aload_n 27 28 rfl (x := 33) rfl dX5_readAtom_27 ?_
        refine qr_bipush 28 30 rfl (q_l32 _ rfl) (by decide) dX5_readAtom_28 ?_
        refine qw_I 30 33 rfl (av := [qI 41]) ca_X5_takeSign wm_620 wp_10 wm_618 ck5 (by decide +kernel) rfl rfl (Nat.le_of_ble_eq_true rfl) dX5_readAtom_30 h (fun v21 M20 h => ?_)
        refine qr_if_eq 33 36 40 rfl (by decide) dX5_readAtom_33 (fun c33 => ?_) (fun c33 => ?_)
        · have h := h.1 c33
          refine qr_iconst 40 41 rfl (q_l32 _ rfl) dX5_readAtom_40 ?_
          exact qe_z 41 rfl (by decide) dX5_readAtom_41 h
        · have h := h.2 c33
          refine qr_iconst 36 37 rfl (q_l32 _ rfl) dX5_readAtom_36 ?_
          refine qr_goto 37 41 (by decide) dX5_readAtom_37 ?_
          exact qe_z 41 rfl (by decide) dX5_readAtom_41 h
theorem dX5_plainAtom_0 : decode cX5_plainAtom 0 = .ok (.aload_n 0, 1) := by decide +kernel
theorem dX5_plainAtom_1 : decode cX5_plainAtom 1 = .ok (.getfield 58, 3) := by decide +kernel
theorem dX5_plainAtom_4 : decode cX5_plainAtom 4 = .ok (.iconst 2, 1) := by decide +kernel
theorem dX5_plainAtom_5 : decode cX5_plainAtom 5 = .ok (.if_icmp .ne 8, 3) := by decide +kernel
theorem dX5_plainAtom_8 : decode cX5_plainAtom 8 = .ok (.aload_n 0, 1) := by decide +kernel
theorem dX5_plainAtom_9 : decode cX5_plainAtom 9 = .ok (.getfield 129, 3) := by decide +kernel
theorem dX5_plainAtom_12 : decode cX5_plainAtom 12 = .ok (.ireturn, 1) := by decide +kernel
theorem dX5_plainAtom_13 : decode cX5_plainAtom 13 = .ok (.aload_n 0, 1) := by decide +kernel
theorem dX5_plainAtom_14 : decode cX5_plainAtom 14 = .ok (.ldc 183, 2) := by decide +kernel
theorem dX5_plainAtom_16 : decode cX5_plainAtom 16 = .ok (.invokevirtual 88, 3) := by decide +kernel
theorem dX5_plainAtom_19 : decode cX5_plainAtom 19 = .ok (.ifCond .eq 5, 3) := by decide +kernel
theorem dX5_plainAtom_22 : decode cX5_plainAtom 22 = .ok (.iconst (-1), 1) := by decide +kernel
theorem dX5_plainAtom_23 : decode cX5_plainAtom 23 = .ok (.ireturn, 1) := by decide +kernel
theorem dX5_plainAtom_24 : decode cX5_plainAtom 24 = .ok (.aload_n 0, 1) := by decide +kernel
theorem dX5_plainAtom_25 : decode cX5_plainAtom 25 = .ok (.ldc 185, 2) := by decide +kernel
theorem dX5_plainAtom_27 : decode cX5_plainAtom 27 = .ok (.invokevirtual 88, 3) := by decide +kernel
theorem dX5_plainAtom_30 : decode cX5_plainAtom 30 = .ok (.ifCond .eq 6, 3) := by decide +kernel
theorem dX5_plainAtom_33 : decode cX5_plainAtom 33 = .ok (.bipush (-2), 2) := by decide +kernel
theorem dX5_plainAtom_35 : decode cX5_plainAtom 35 = .ok (.ireturn, 1) := by decide +kernel
theorem dX5_plainAtom_36 : decode cX5_plainAtom 36 = .ok (.aload_n 0, 1) := by decide +kernel
theorem dX5_plainAtom_37 : decode cX5_plainAtom 37 = .ok (.ldc 187, 2) := by decide +kernel
theorem dX5_plainAtom_39 : decode cX5_plainAtom 39 = .ok (.invokevirtual 88, 3) := by decide +kernel
theorem dX5_plainAtom_42 : decode cX5_plainAtom 42 = .ok (.ifCond .eq 6, 3) := by decide +kernel
theorem dX5_plainAtom_45 : decode cX5_plainAtom 45 = .ok (.bipush (-3), 2) := by decide +kernel
theorem dX5_plainAtom_47 : decode cX5_plainAtom 47 = .ok (.ireturn, 1) := by decide +kernel
theorem dX5_plainAtom_48 : decode cX5_plainAtom 48 = .ok (.aload_n 0, 1) := by decide +kernel
theorem dX5_plainAtom_49 : decode cX5_plainAtom 49 = .ok (.ldc 94, 2) := by decide +kernel
theorem dX5_plainAtom_51 : decode cX5_plainAtom 51 = .ok (.invokevirtual 88, 3) := by decide +kernel
theorem dX5_plainAtom_54 : decode cX5_plainAtom 54 = .ok (.ifCond .eq 6, 3) := by decide +kernel
theorem dX5_plainAtom_57 : decode cX5_plainAtom 57 = .ok (.bipush (-4), 2) := by decide +kernel
theorem dX5_plainAtom_59 : decode cX5_plainAtom 59 = .ok (.ireturn, 1) := by decide +kernel
theorem dX5_plainAtom_60 : decode cX5_plainAtom 60 = .ok (.aload_n 0, 1) := by decide +kernel
theorem dX5_plainAtom_61 : decode cX5_plainAtom 61 = .ok (.ldc 77, 2) := by decide +kernel
theorem dX5_plainAtom_63 : decode cX5_plainAtom 63 = .ok (.invokevirtual 88, 3) := by decide +kernel
theorem dX5_plainAtom_66 : decode cX5_plainAtom 66 = .ok (.ifCond .eq 8, 3) := by decide +kernel
theorem dX5_plainAtom_69 : decode cX5_plainAtom 69 = .ok (.bipush (-5), 2) := by decide +kernel
theorem dX5_plainAtom_71 : decode cX5_plainAtom 71 = .ok (.goto 5, 3) := by decide +kernel
theorem dX5_plainAtom_74 : decode cX5_plainAtom 74 = .ok (.bipush (-15), 2) := by decide +kernel
theorem dX5_plainAtom_76 : decode cX5_plainAtom 76 = .ok (.ireturn, 1) := by decide +kernel
theorem bX5_plainAtom_0 {d : Nat} {P : Int → q_Mem → Prop} {M : q_Mem} (h : ((¬ (M 33 6) = (2 : Int)) → q_kI yX5_isWord mX5_isWord d [qR 33, qR (-((10 : Nat) : Int) - 1)] M (fun v2 M1 => ((v2 = 0) → q_kI yX5_isWord mX5_isWord d [qR 33, qR (-((11 : Nat) : Int) - 1)] M1 (fun v4 M3 => ((v4 = 0) → q_kI yX5_isWord mX5_isWord d [qR 33, qR (-((12 : Nat) : Int) - 1)] M3 (fun v6 M5 => ((v6 = 0) → q_kI yX5_isWord mX5_isWord d [qR 33, qR (-((3 : Nat) : Int) - 1)] M5 (fun v8 M7 => ((v8 = 0) → q_kI yX5_isWord mX5_isWord d [qR 33, qR (-((1 : Nat) : Int) - 1)] M7 (fun v10 M9 => ((v10 = 0) → P (-15) M9) ∧ ((¬ (v10 = 0)) → P (-5) M9))) ∧ ((¬ (v8 = 0)) → P (-4) M7))) ∧ ((¬ (v6 = 0)) → P (-3) M5))) ∧ ((¬ (v4 = 0)) → P (-2) M3))) ∧ ((¬ (v2 = 0)) → P (-1) M1))) ∧ (((M 33 6) = (2 : Int)) → P (M 33 7) M)) : q_v mX5_plainAtom d (qPI P) M 0 [some (qR 33)] [] := by
  refine qr_aload_n 0 1 rfl (x := 33) rfl dX5_plainAtom_0 ?_
  refine qg_i 1 4 rfl ck5 6 (kk := 6) (by decide) (by decide +kernel) (by decide +kernel) rfl wm_134 rfl dX5_plainAtom_1 ?_
  refine qr_iconst 4 5 rfl (q_l32 _ rfl) dX5_plainAtom_4 ?_
  refine qr_icmp_ne 5 8 13 rfl (by decide) dX5_plainAtom_5 (fun c5 => ?_) (fun c5 => ?_)
  · have h := h.1 c5
    refine qr_aload_n 13 14 rfl (x := 33) rfl dX5_plainAtom_13 ?_
    refine qr_ldcS 14 16 rfl 10 (by decide) rfl rfl rfl dX5_plainAtom_14 ?_
    refine qw_I 16 19 rfl (av := [qR (-((10 : Nat) : Int) - 1)]) ca_X5_isWord wm_586 wp_7 wm_584 ck5 (by decide +kernel) rfl rfl (Nat.le_of_ble_eq_true rfl) dX5_plainAtom_16 h (fun v2 M1 h => ?_)
    refine qr_if_eq 19 22 24 rfl (by decide) dX5_plainAtom_19 (fun c19 => ?_) (fun c19 => ?_)
    · have h := h.1 c19
      refine qr_aload_n 24 25 rfl (x := 33) rfl dX5_plainAtom_24 ?_
      refine qr_ldcS 25 27 rfl 11 (by decide) rfl rfl rfl dX5_plainAtom_25 ?_
      refine qw_I 27 30 rfl (av := [qR (-((11 : Nat) : Int) - 1)]) ca_X5_isWord wm_586 wp_7 wm_584 ck5 (by decide +kernel) rfl rfl (Nat.le_of_ble_eq_true rfl) dX5_plainAtom_27 h (fun v4 M3 h => ?_)
      refine qr_if_eq 30 33 36 rfl (by decide) dX5_plainAtom_30 (fun c30 => ?_) (fun c30 => ?_)
      · have h := h.1 c30
        refine qr_aload_n 36 37 rfl (x := 33) rfl dX5_plainAtom_36 ?_
        refine qr_ldcS 37 39 rfl 12 (by decide) rfl rfl rfl dX5_plainAtom_37 ?_
        refine qw_I 39 42 rfl (av := [qR (-((12 : Nat) : Int) - 1)]) ca_X5_isWord wm_586 wp_7 wm_584 ck5 (by decide +kernel) rfl rfl (Nat.le_of_ble_eq_true rfl) dX5_plainAtom_39 h (fun v6 M5 h => ?_)
        refine qr_if_eq 42 45 48 rfl (by decide) dX5_plainAtom_42 (fun c42 => ?_) (fun c42 => ?_)
        · have h := h.1 c42
          refine qr_aload_n 48 49 rfl (x := 33) rfl dX5_plainAtom_48 ?_
          refine qr_ldcS 49 51 rfl 3 (by decide) rfl rfl rfl dX5_plainAtom_49 ?_
          refine qw_I 51 54 rfl (av := [qR (-((3 : Nat) : Int) - 1)]) ca_X5_isWord wm_586 wp_7 wm_584 ck5 (by decide +kernel) rfl rfl (Nat.le_of_ble_eq_true rfl) dX5_plainAtom_51 h (fun v8 M7 h => ?_)
          refine qr_if_eq 54 57 60 rfl (by decide) dX5_plainAtom_54 (fun c54 => ?_) (fun c54 => ?_)
          · have h := h.1 c54
            refine qr_aload_n 60 61 rfl (x := 33) rfl dX5_plainAtom_60 ?_
            refine qr_ldcS 61 63 rfl 1 (by decide) rfl rfl rfl dX5_plainAtom_61 ?_
            refine qw_I 63 66 rfl (av := [qR (-((1 : Nat) : Int) - 1)]) ca_X5_isWord wm_586 wp_7 wm_584 ck5 (by decide +kernel) rfl rfl (Nat.le_of_ble_eq_true rfl) dX5_plainAtom_63 h (fun v10 M9 h => ?_)
            refine qr_if_eq 66 69 74 rfl (by decide) dX5_plainAtom_66 (fun c66 => ?_) (fun c66 => ?_)
            · have h := h.1 c66
              refine qr_bipush 74 76 rfl (q_l32 _ rfl) (by decide) dX5_plainAtom_74 ?_
              exact qe_i 76 rfl dX5_plainAtom_76 h
            · have h := h.2 c66
              refine qr_bipush 69 71 rfl (q_l32 _ rfl) (by decide) dX5_plainAtom_69 ?_
              refine qr_goto 71 76 (by decide) dX5_plainAtom_71 ?_
              exact qe_i 76 rfl dX5_plainAtom_76 h
          · have h := h.2 c54
            refine qr_bipush 57 59 rfl (q_l32 _ rfl) (by decide) dX5_plainAtom_57 ?_
            exact qe_i 59 rfl dX5_plainAtom_59 h
        · have h := h.2 c42
          refine qr_bipush 45 47 rfl (q_l32 _ rfl) (by decide) dX5_plainAtom_45 ?_
          exact qe_i 47 rfl dX5_plainAtom_47 h
      · have h := h.2 c30
        refine qr_bipush 33 35 rfl (q_l32 _ rfl) (by decide) dX5_plainAtom_33 ?_
        exact qe_i 35 rfl dX5_plainAtom_35 h
    · have h := h.2 c19
      refine qr_iconst 22 23 rfl (q_l32 _ rfl) dX5_plainAtom_22 ?_
      exact qe_i 23 rfl dX5_plainAtom_23 h
  · have h := h.2 c5
    refine qr_aload_n 8 9 rfl (x := 33) rfl dX5_plainAtom_8 ?_
    refine qg_i 9 12 rfl ck5 7 (kk := 7) (by decide) (by decide +kernel) (by decide +kernel) rfl wm_135 rfl dX5_plainAtom_9 ?_
    exact qe_i 12 rfl dX5_plainAtom_12 h
theorem dX5_readChoice_0 : decode cX5_readChoice 0 = .ok (.aload_n 0, 1) := by decide +kernel
theorem dX5_readChoice_1 : decode cX5_readChoice 1 = .ok (.iload_n 1, 1) := by decide +kernel
theorem dX5_readChoice_2 : decode cX5_readChoice 2 = .ok (.invokevirtual 117, 3) := by decide +kernel
theorem dX5_readChoice_5 : decode cX5_readChoice 5 = .ok (.ifCond .eq 20, 3) := by decide +kernel
theorem dX5_readChoice_8 : decode cX5_readChoice 8 = .ok (.aload_n 0, 1) := by decide +kernel
theorem dX5_readChoice_9 : decode cX5_readChoice 9 = .ok (.ldc 189, 2) := by decide +kernel
theorem dX5_readChoice_11 : decode cX5_readChoice 11 = .ok (.invokevirtual 73, 3) := by decide +kernel
theorem dX5_readChoice_14 : decode cX5_readChoice 14 = .ok (.ifCond .eq 11, 3) := by decide +kernel
theorem dX5_readChoice_17 : decode cX5_readChoice 17 = .ok (.aload_n 0, 1) := by decide +kernel
theorem dX5_readChoice_18 : decode cX5_readChoice 18 = .ok (.iload_n 1, 1) := by decide +kernel
theorem dX5_readChoice_19 : decode cX5_readChoice 19 = .ok (.invokevirtual 109, 3) := by decide +kernel
theorem dX5_readChoice_22 : decode cX5_readChoice 22 = .ok (.ifCond .ne 5, 3) := by decide +kernel
theorem dX5_readChoice_25 : decode cX5_readChoice 25 = .ok (.iconst 0, 1) := by decide +kernel
theorem dX5_readChoice_26 : decode cX5_readChoice 26 = .ok (.ireturn, 1) := by decide +kernel
theorem dX5_readChoice_27 : decode cX5_readChoice 27 = .ok (.aload_n 0, 1) := by decide +kernel
theorem dX5_readChoice_28 : decode cX5_readChoice 28 = .ok (.ldc 191, 2) := by decide +kernel
theorem dX5_readChoice_30 : decode cX5_readChoice 30 = .ok (.invokevirtual 73, 3) := by decide +kernel
theorem dX5_readChoice_33 : decode cX5_readChoice 33 = .ok (.ifCond .eq 20, 3) := by decide +kernel
theorem dX5_readChoice_36 : decode cX5_readChoice 36 = .ok (.aload_n 0, 1) := by decide +kernel
theorem dX5_readChoice_37 : decode cX5_readChoice 37 = .ok (.iload_n 1, 1) := by decide +kernel
theorem dX5_readChoice_38 : decode cX5_readChoice 38 = .ok (.invokevirtual 109, 3) := by decide +kernel
theorem dX5_readChoice_41 : decode cX5_readChoice 41 = .ok (.ifCond .eq 12, 3) := by decide +kernel
theorem dX5_readChoice_44 : decode cX5_readChoice 44 = .ok (.aload_n 0, 1) := by decide +kernel
theorem dX5_readChoice_45 : decode cX5_readChoice 45 = .ok (.ldc 193, 2) := by decide +kernel
theorem dX5_readChoice_47 : decode cX5_readChoice 47 = .ok (.invokevirtual 73, 3) := by decide +kernel
theorem dX5_readChoice_50 : decode cX5_readChoice 50 = .ok (.ifCond .ne 5, 3) := by decide +kernel
theorem dX5_readChoice_53 : decode cX5_readChoice 53 = .ok (.iconst 0, 1) := by decide +kernel
theorem dX5_readChoice_54 : decode cX5_readChoice 54 = .ok (.ireturn, 1) := by decide +kernel
theorem dX5_readChoice_55 : decode cX5_readChoice 55 = .ok (.aload_n 0, 1) := by decide +kernel
theorem dX5_readChoice_56 : decode cX5_readChoice 56 = .ok (.getfield 30, 3) := by decide +kernel
theorem dX5_readChoice_59 : decode cX5_readChoice 59 = .ok (.bipush (-15), 2) := by decide +kernel
theorem dX5_readChoice_61 : decode cX5_readChoice 61 = .ok (.invokevirtual 164, 3) := by decide +kernel
theorem dX5_readChoice_64 : decode cX5_readChoice 64 = .ok (.iconst 1, 1) := by decide +kernel
theorem dX5_readChoice_65 : decode cX5_readChoice 65 = .ok (.ireturn, 1) := by decide +kernel
theorem bX5_readChoice_0 {d : Nat} {P : Int → q_Mem → Prop} {M : q_Mem} (x1 : Int) (h : q_kI yX5_readTruth mX5_readTruth d [qR 33, qI x1] M (fun v2 M1 => ((v2 = 0) → P 0 M1) ∧ ((¬ (v2 = 0)) → q_kI yX5_takeWord mX5_takeWord d [qR 33, qR (-((13 : Nat) : Int) - 1)] M1 (fun v4 M3 => ((v4 = 0) → P 0 M3) ∧ ((¬ (v4 = 0)) → q_kI yX5_readSum mX5_readSum d [qR 33, qI x1] M3 (fun v6 M5 => ((¬ v6 = 0) → q_kI yX5_takeWord mX5_takeWord d [qR 33, qR (-((14 : Nat) : Int) - 1)] M5 (fun v8 M7 => ((v8 = 0) → P 0 M7) ∧ ((¬ (v8 = 0)) → q_kI yX5_readSum mX5_readSum d [qR 33, qI x1] M7 (fun v10 M9 => ((v10 = 0) → P 0 M9) ∧ ((¬ (v10 = 0)) → q_kI yX5_takeWord mX5_takeWord d [qR 33, qR (-((15 : Nat) : Int) - 1)] M9 (fun v12 M11 => ((¬ v12 = 0) → q_kd (M11 33 9) = 2 ∧ (q_kU yX2_add mX2_add d [qR (M11 33 9), qI (-15)] M11 (fun M14 => P 1 M14))) ∧ ((v12 = 0) → P 0 M11))))))) ∧ ((v6 = 0) → P 0 M5))))))) : q_v mX5_readChoice d (qPI P) M 0 [some (qR 33), some (qI x1)] [] := by
  refine qr_aload_n 0 1 rfl (x := 33) rfl dX5_readChoice_0 ?_
  refine qr_iload_n 1 2 rfl (x := x1) rfl dX5_readChoice_1 ?_
  refine qw_I 2 5 rfl (av := [qI x1]) ca_X5_readTruth wm_692 wp_22 wm_690 ck5 (by decide +kernel) rfl rfl (Nat.le_of_ble_eq_true rfl) dX5_readChoice_2 h (fun v2 M1 h => ?_)
  refine qr_if_eq 5 8 25 rfl (by decide) dX5_readChoice_5 (fun c5 => ?_) (fun c5 => ?_)
  · have h := h.1 c5
    refine qr_iconst 25 26 rfl (q_l32 _ rfl) dX5_readChoice_25 ?_
    exact qe_z 26 rfl (by decide) dX5_readChoice_26 h
  · have h := h.2 c5
    refine qr_aload_n 8 9 rfl (x := 33) rfl dX5_readChoice_8 ?_
    refine qr_ldcS 9 11 rfl 13 (by decide) rfl rfl rfl dX5_readChoice_9 ?_
    refine qw_I 11 14 rfl (av := [qR (-((13 : Nat) : Int) - 1)]) ca_X5_takeWord wm_582 wp_6 wm_580 ck5 (by decide +kernel) rfl rfl (Nat.le_of_ble_eq_true rfl) dX5_readChoice_11 h (fun v4 M3 h => ?_)
    refine qr_if_eq 14 17 25 rfl (by decide) dX5_readChoice_14 (fun c14 => ?_) (fun c14 => ?_)
    · have h := h.1 c14
      refine qr_iconst 25 26 rfl (q_l32 _ rfl) dX5_readChoice_25 ?_
      exact qe_z 26 rfl (by decide) dX5_readChoice_26 h
    · have h := h.2 c14
      refine qr_aload_n 17 18 rfl (x := 33) rfl dX5_readChoice_17 ?_
      refine qr_iload_n 18 19 rfl (x := x1) rfl dX5_readChoice_18 ?_
      refine qw_I 19 22 rfl (av := [qI x1]) ca_X5_readSum wm_671 wp_17 wm_669 ck5 (by decide +kernel) rfl rfl (Nat.le_of_ble_eq_true rfl) dX5_readChoice_19 h (fun v6 M5 h => ?_)
      refine qr_if_ne 22 25 27 rfl (by decide) dX5_readChoice_22 (fun c22 => ?_) (fun c22 => ?_)
      · have h := h.1 c22
        refine qr_aload_n 27 28 rfl (x := 33) rfl dX5_readChoice_27 ?_
        refine qr_ldcS 28 30 rfl 14 (by decide) rfl rfl rfl dX5_readChoice_28 ?_
        refine qw_I 30 33 rfl (av := [qR (-((14 : Nat) : Int) - 1)]) ca_X5_takeWord wm_582 wp_6 wm_580 ck5 (by decide +kernel) rfl rfl (Nat.le_of_ble_eq_true rfl) dX5_readChoice_30 h (fun v8 M7 h => ?_)
        refine qr_if_eq 33 36 53 rfl (by decide) dX5_readChoice_33 (fun c33 => ?_) (fun c33 => ?_)
        · have h := h.1 c33
          refine qr_iconst 53 54 rfl (q_l32 _ rfl) dX5_readChoice_53 ?_
          exact qe_z 54 rfl (by decide) dX5_readChoice_54 h
        · have h := h.2 c33
          refine qr_aload_n 36 37 rfl (x := 33) rfl dX5_readChoice_36 ?_
          refine qr_iload_n 37 38 rfl (x := x1) rfl dX5_readChoice_37 ?_
          refine qw_I 38 41 rfl (av := [qI x1]) ca_X5_readSum wm_671 wp_17 wm_669 ck5 (by decide +kernel) rfl rfl (Nat.le_of_ble_eq_true rfl) dX5_readChoice_38 h (fun v10 M9 h => ?_)
          refine qr_if_eq 41 44 53 rfl (by decide) dX5_readChoice_41 (fun c41 => ?_) (fun c41 => ?_)
          · have h := h.1 c41
            refine qr_iconst 53 54 rfl (q_l32 _ rfl) dX5_readChoice_53 ?_
            exact qe_z 54 rfl (by decide) dX5_readChoice_54 h
          · have h := h.2 c41
            refine qr_aload_n 44 45 rfl (x := 33) rfl dX5_readChoice_44 ?_
            refine qr_ldcS 45 47 rfl 15 (by decide) rfl rfl rfl dX5_readChoice_45 ?_
            refine qw_I 47 50 rfl (av := [qR (-((15 : Nat) : Int) - 1)]) ca_X5_takeWord wm_582 wp_6 wm_580 ck5 (by decide +kernel) rfl rfl (Nat.le_of_ble_eq_true rfl) dX5_readChoice_47 h (fun v12 M11 h => ?_)
            refine qr_if_ne 50 53 55 rfl (by decide) dX5_readChoice_50 (fun c50 => ?_) (fun c50 => ?_)
            · have h := h.1 c50
              refine qr_aload_n 55 56 rfl (x := 33) rfl dX5_readChoice_55 ?_
              refine qg_r 56 59 rfl ck5 9 (kk := 9) (by decide) (by decide +kernel) (by decide +kernel) rfl wm_137 rfl dX5_readChoice_56 ?_
              refine qr_bipush 59 61 rfl (q_l32 _ rfl) (by decide) dX5_readChoice_59 ?_
              have hk13 := h.1
              have h := h.2
              refine qw_U 61 64 rfl (av := [qI (-15)]) ca_X2_add wm_704 wm_705 wm_703 ck2 hk13 rfl rfl (Nat.le_of_ble_eq_true rfl) dX5_readChoice_61 h (fun M14 h => ?_)
              refine qr_iconst 64 65 rfl (q_l32 _ rfl) dX5_readChoice_64 ?_
              exact qe_z 65 rfl (by decide) dX5_readChoice_65 h
            · have h := h.2 c50
              refine qr_iconst 53 54 rfl (q_l32 _ rfl) dX5_readChoice_53 ?_
              exact qe_z 54 rfl (by decide) dX5_readChoice_54 h
      · have h := h.2 c22
        refine qr_iconst 25 26 rfl (q_l32 _ rfl) dX5_readChoice_25 ?_
        exact qe_z 26 rfl (by decide) dX5_readChoice_26 h
theorem dX5_readTruth_0 : decode cX5_readTruth 0 = .ok (.aload_n 0, 1) := by decide +kernel
theorem dX5_readTruth_1 : decode cX5_readTruth 1 = .ok (.iload_n 1, 1) := by decide +kernel
theorem dX5_readTruth_2 : decode cX5_readTruth 2 = .ok (.invokevirtual 194, 3) := by decide +kernel
theorem dX5_readTruth_5 : decode cX5_readTruth 5 = .ok (.ifCond .ne 5, 3) := by decide +kernel
theorem dX5_readTruth_8 : decode cX5_readTruth 8 = .ok (.iconst 0, 1) := by decide +kernel
theorem dX5_readTruth_9 : decode cX5_readTruth 9 = .ok (.ireturn, 1) := by decide +kernel
theorem dX5_readTruth_10 : decode cX5_readTruth 10 = .ok (.iconst 0, 1) := by decide +kernel
theorem dX5_readTruth_11 : decode cX5_readTruth 11 = .ok (.istore_n 2, 1) := by decide +kernel
theorem dX5_readTruth_12 : decode cX5_readTruth 12 = .ok (.iload_n 2, 1) := by decide +kernel
theorem dX5_readTruth_13 : decode cX5_readTruth 13 = .ok (.aload_n 0, 1) := by decide +kernel
theorem dX5_readTruth_14 : decode cX5_readTruth 14 = .ok (.getfield 39, 3) := by decide +kernel
theorem dX5_readTruth_17 : decode cX5_readTruth 17 = .ok (.if_icmp .ge 41, 3) := by decide +kernel
theorem dX5_readTruth_20 : decode cX5_readTruth 20 = .ok (.aload_n 0, 1) := by decide +kernel
theorem dX5_readTruth_21 : decode cX5_readTruth 21 = .ok (.ldc 197, 2) := by decide +kernel
theorem dX5_readTruth_23 : decode cX5_readTruth 23 = .ok (.invokevirtual 88, 3) := by decide +kernel
theorem dX5_readTruth_26 : decode cX5_readTruth 26 = .ok (.ifCond .eq 32, 3) := by decide +kernel
theorem dX5_readTruth_29 : decode cX5_readTruth 29 = .ok (.aload_n 0, 1) := by decide +kernel
theorem dX5_readTruth_30 : decode cX5_readTruth 30 = .ok (.invokevirtual 51, 3) := by decide +kernel
theorem dX5_readTruth_33 : decode cX5_readTruth 33 = .ok (.aload_n 0, 1) := by decide +kernel
theorem dX5_readTruth_34 : decode cX5_readTruth 34 = .ok (.iload_n 1, 1) := by decide +kernel
theorem dX5_readTruth_35 : decode cX5_readTruth 35 = .ok (.invokevirtual 194, 3) := by decide +kernel
theorem dX5_readTruth_38 : decode cX5_readTruth 38 = .ok (.ifCond .ne 5, 3) := by decide +kernel
theorem dX5_readTruth_41 : decode cX5_readTruth 41 = .ok (.iconst 0, 1) := by decide +kernel
theorem dX5_readTruth_42 : decode cX5_readTruth 42 = .ok (.ireturn, 1) := by decide +kernel
theorem dX5_readTruth_43 : decode cX5_readTruth 43 = .ok (.aload_n 0, 1) := by decide +kernel
theorem dX5_readTruth_44 : decode cX5_readTruth 44 = .ok (.getfield 30, 3) := by decide +kernel
theorem dX5_readTruth_47 : decode cX5_readTruth 47 = .ok (.bipush (-13), 2) := by decide +kernel
theorem dX5_readTruth_49 : decode cX5_readTruth 49 = .ok (.invokevirtual 164, 3) := by decide +kernel
theorem dX5_readTruth_52 : decode cX5_readTruth 52 = .ok (.iinc 2 1, 3) := by decide +kernel
theorem dX5_readTruth_55 : decode cX5_readTruth 55 = .ok (.goto (-43), 3) := by decide +kernel
theorem dX5_readTruth_58 : decode cX5_readTruth 58 = .ok (.iconst 1, 1) := by decide +kernel
theorem dX5_readTruth_59 : decode cX5_readTruth 59 = .ok (.ireturn, 1) := by decide +kernel
theorem bX5_readTruth_0 {d : Nat} {P : Int → q_Mem → Prop} {M : q_Mem} (x1 : Int) (h : q_kI yX5_readBoth mX5_readBoth d [qR 33, qI x1] M (fun v2 M1 => ((¬ v2 = 0) → q_v mX5_readTruth d (qPI P) M1 12 [some (qR 33), some (qI x1), some (qI 0)] []) ∧ ((v2 = 0) → P 0 M1))) : q_v mX5_readTruth d (qPI P) M 0 [some (qR 33), some (qI x1), none] [] := by
  refine qr_aload_n 0 1 rfl (x := 33) rfl dX5_readTruth_0 ?_
  refine qr_iload_n 1 2 rfl (x := x1) rfl dX5_readTruth_1 ?_
  refine qw_I 2 5 rfl (av := [qI x1]) ca_X5_readBoth wm_696 wp_23 wm_694 ck5 (by decide +kernel) rfl rfl (Nat.le_of_ble_eq_true rfl) dX5_readTruth_2 h (fun v2 M1 h => ?_)
  refine qr_if_ne 5 8 10 rfl (by decide) dX5_readTruth_5 (fun c5 => ?_) (fun c5 => ?_)
  · have h := h.1 c5
    refine qr_iconst 10 11 rfl (q_l32 _ rfl) dX5_readTruth_10 ?_
    refine qr_istore_n 11 12 rfl (by decide) rfl rfl dX5_readTruth_11 ?_
    exact h
  · have h := h.2 c5
    refine qr_iconst 8 9 rfl (q_l32 _ rfl) dX5_readTruth_8 ?_
    exact qe_z 9 rfl (by decide) dX5_readTruth_9 h
theorem bX5_readTruth_12 {d : Nat} {P : Int → q_Mem → Prop} {M : q_Mem} (x1 x2 : Int) (h : (((M 33 3) ≤ x2) → P 1 M) ∧ ((¬ ((M 33 3) ≤ x2)) → q_kI yX5_isWord mX5_isWord d [qR 33, qR (-((16 : Nat) : Int) - 1)] M (fun v2 M1 => ((v2 = 0) → P 1 M1) ∧ ((¬ (v2 = 0)) → q_kU yX5_advance mX5_advance d [qR 33] M1 (fun M3 => q_kI yX5_readBoth mX5_readBoth d [qR 33, qI x1] M3 (fun v5 M4 => ((¬ v5 = 0) → q_kd (M4 33 9) = 2 ∧ (q_kU yX2_add mX2_add d [qR (M4 33 9), qI (-13)] M4 (fun M7 => q_v mX5_readTruth d (qPI P) M7 12 [some (qR 33), some (qI x1), some (qI (q_add x2 1))] []))) ∧ ((v5 = 0) → P 0 M4))))))) : q_v mX5_readTruth d (qPI P) M 12 [some (qR 33), some (qI x1), some (qI x2)] [] := by
  refine qr_iload_n 12 13 rfl (x := x2) rfl dX5_readTruth_12 ?_
  refine qr_aload_n 13 14 rfl (x := 33) rfl dX5_readTruth_13 ?_
  refine qg_i 14 17 rfl ck5 3 (kk := 3) (by decide) (by decide +kernel) (by decide +kernel) rfl wm_131 rfl dX5_readTruth_14 ?_
  refine qr_icmp_ge 17 20 58 rfl (by decide) dX5_readTruth_17 (fun c17 => ?_) (fun c17 => ?_)
  · have h := h.1 c17
    refine qr_iconst 58 59 rfl (q_l32 _ rfl) dX5_readTruth_58 ?_
    exact qe_z 59 rfl (by decide) dX5_readTruth_59 h
  · have h := h.2 c17
    refine qr_aload_n 20 21 rfl (x := 33) rfl dX5_readTruth_20 ?_
    refine qr_ldcS 21 23 rfl 16 (by decide) rfl rfl rfl dX5_readTruth_21 ?_
    refine qw_I 23 26 rfl (av := [qR (-((16 : Nat) : Int) - 1)]) ca_X5_isWord wm_586 wp_7 wm_584 ck5 (by decide +kernel) rfl rfl (Nat.le_of_ble_eq_true rfl) dX5_readTruth_23 h (fun v2 M1 h => ?_)
    refine qr_if_eq 26 29 58 rfl (by decide) dX5_readTruth_26 (fun c26 => ?_) (fun c26 => ?_)
    · have h := h.1 c26
      refine qr_iconst 58 59 rfl (q_l32 _ rfl) dX5_readTruth_58 ?_
      exact qe_z 59 rfl (by decide) dX5_readTruth_59 h
    · have h := h.2 c26
      refine qr_aload_n 29 30 rfl (x := 33) rfl dX5_readTruth_29 ?_
      refine qw_U 30 33 rfl (av := []) ca_X5_advance wm_467 wp_1 wm_465 ck5 (by decide +kernel) rfl rfl (Nat.le_of_ble_eq_true rfl) dX5_readTruth_30 h (fun M3 h => ?_)
      refine qr_aload_n 33 34 rfl (x := 33) rfl dX5_readTruth_33 ?_
      refine qr_iload_n 34 35 rfl (x := x1) rfl dX5_readTruth_34 ?_
      refine qw_I 35 38 rfl (av := [qI x1]) ca_X5_readBoth wm_696 wp_23 wm_694 ck5 (by decide +kernel) rfl rfl (Nat.le_of_ble_eq_true rfl) dX5_readTruth_35 h (fun v5 M4 h => ?_)
      refine qr_if_ne 38 41 43 rfl (by decide) dX5_readTruth_38 (fun c38 => ?_) (fun c38 => ?_)
      · have h := h.1 c38
        refine qr_aload_n 43 44 rfl (x := 33) rfl dX5_readTruth_43 ?_
        refine qg_r 44 47 rfl ck5 9 (kk := 9) (by decide) (by decide +kernel) (by decide +kernel) rfl wm_137 rfl dX5_readTruth_44 ?_
        refine qr_bipush 47 49 rfl (q_l32 _ rfl) (by decide) dX5_readTruth_47 ?_
        have hk6 := h.1
        have h := h.2
        refine qw_U 49 52 rfl (av := [qI (-13)]) ca_X2_add wm_704 wm_705 wm_703 ck2 hk6 rfl rfl (Nat.le_of_ble_eq_true rfl) dX5_readTruth_49 h (fun M7 h => ?_)
        refine qr_iinc 52 55 rfl (by decide) (x := x2) rfl rfl rfl dX5_readTruth_52 ?_
        refine qr_goto 55 12 (by decide) dX5_readTruth_55 ?_
        exact h
      · have h := h.2 c38
        refine qr_iconst 41 42 rfl (q_l32 _ rfl) dX5_readTruth_41 ?_
        exact qe_z 42 rfl (by decide) dX5_readTruth_42 h
theorem dX5_readBoth_0 : decode cX5_readBoth 0 = .ok (.aload_n 0, 1) := by decide +kernel
theorem dX5_readBoth_1 : decode cX5_readBoth 1 = .ok (.iload_n 1, 1) := by decide +kernel
theorem dX5_readBoth_2 : decode cX5_readBoth 2 = .ok (.invokevirtual 199, 3) := by decide +kernel
theorem dX5_readBoth_5 : decode cX5_readBoth 5 = .ok (.ifCond .ne 5, 3) := by decide +kernel
theorem dX5_readBoth_8 : decode cX5_readBoth 8 = .ok (.iconst 0, 1) := by decide +kernel
theorem dX5_readBoth_9 : decode cX5_readBoth 9 = .ok (.ireturn, 1) := by decide +kernel
theorem dX5_readBoth_10 : decode cX5_readBoth 10 = .ok (.iconst 0, 1) := by decide +kernel
theorem dX5_readBoth_11 : decode cX5_readBoth 11 = .ok (.istore_n 2, 1) := by decide +kernel
theorem dX5_readBoth_12 : decode cX5_readBoth 12 = .ok (.iload_n 2, 1) := by decide +kernel
theorem dX5_readBoth_13 : decode cX5_readBoth 13 = .ok (.aload_n 0, 1) := by decide +kernel
theorem dX5_readBoth_14 : decode cX5_readBoth 14 = .ok (.getfield 39, 3) := by decide +kernel
theorem dX5_readBoth_17 : decode cX5_readBoth 17 = .ok (.if_icmp .ge 41, 3) := by decide +kernel
theorem dX5_readBoth_20 : decode cX5_readBoth 20 = .ok (.aload_n 0, 1) := by decide +kernel
theorem dX5_readBoth_21 : decode cX5_readBoth 21 = .ok (.ldc 202, 2) := by decide +kernel
theorem dX5_readBoth_23 : decode cX5_readBoth 23 = .ok (.invokevirtual 88, 3) := by decide +kernel
theorem dX5_readBoth_26 : decode cX5_readBoth 26 = .ok (.ifCond .eq 32, 3) := by decide +kernel
theorem dX5_readBoth_29 : decode cX5_readBoth 29 = .ok (.aload_n 0, 1) := by decide +kernel
theorem dX5_readBoth_30 : decode cX5_readBoth 30 = .ok (.invokevirtual 51, 3) := by decide +kernel
theorem dX5_readBoth_33 : decode cX5_readBoth 33 = .ok (.aload_n 0, 1) := by decide +kernel
theorem dX5_readBoth_34 : decode cX5_readBoth 34 = .ok (.iload_n 1, 1) := by decide +kernel
theorem dX5_readBoth_35 : decode cX5_readBoth 35 = .ok (.invokevirtual 199, 3) := by decide +kernel
theorem dX5_readBoth_38 : decode cX5_readBoth 38 = .ok (.ifCond .ne 5, 3) := by decide +kernel
theorem dX5_readBoth_41 : decode cX5_readBoth 41 = .ok (.iconst 0, 1) := by decide +kernel
theorem dX5_readBoth_42 : decode cX5_readBoth 42 = .ok (.ireturn, 1) := by decide +kernel
theorem dX5_readBoth_43 : decode cX5_readBoth 43 = .ok (.aload_n 0, 1) := by decide +kernel
theorem dX5_readBoth_44 : decode cX5_readBoth 44 = .ok (.getfield 30, 3) := by decide +kernel
theorem dX5_readBoth_47 : decode cX5_readBoth 47 = .ok (.bipush (-12), 2) := by decide +kernel
theorem dX5_readBoth_49 : decode cX5_readBoth 49 = .ok (.invokevirtual 164, 3) := by decide +kernel
theorem dX5_readBoth_52 : decode cX5_readBoth 52 = .ok (.iinc 2 1, 3) := by decide +kernel
theorem dX5_readBoth_55 : decode cX5_readBoth 55 = .ok (.goto (-43), 3) := by decide +kernel
theorem dX5_readBoth_58 : decode cX5_readBoth 58 = .ok (.iconst 1, 1) := by decide +kernel
theorem dX5_readBoth_59 : decode cX5_readBoth 59 = .ok (.ireturn, 1) := by decide +kernel
theorem bX5_readBoth_0 {d : Nat} {P : Int → q_Mem → Prop} {M : q_Mem} (x1 : Int) (h : q_kI yX5_readUnit mX5_readUnit d [qR 33, qI x1] M (fun v2 M1 => ((¬ v2 = 0) → q_v mX5_readBoth d (qPI P) M1 12 [some (qR 33), some (qI x1), some (qI 0)] []) ∧ ((v2 = 0) → P 0 M1))) : q_v mX5_readBoth d (qPI P) M 0 [some (qR 33), some (qI x1), none] [] := by
  refine qr_aload_n 0 1 rfl (x := 33) rfl dX5_readBoth_0 ?_
  refine qr_iload_n 1 2 rfl (x := x1) rfl dX5_readBoth_1 ?_
  refine qw_I 2 5 rfl (av := [qI x1]) ca_X5_readUnit wm_700 wp_24 wm_698 ck5 (by decide +kernel) rfl rfl (Nat.le_of_ble_eq_true rfl) dX5_readBoth_2 h (fun v2 M1 h => ?_)
  refine qr_if_ne 5 8 10 rfl (by decide) dX5_readBoth_5 (fun c5 => ?_) (fun c5 => ?_)
  · have h := h.1 c5
    refine qr_iconst 10 11 rfl (q_l32 _ rfl) dX5_readBoth_10 ?_
    refine qr_istore_n 11 12 rfl (by decide) rfl rfl dX5_readBoth_11 ?_
    exact h
  · have h := h.2 c5
    refine qr_iconst 8 9 rfl (q_l32 _ rfl) dX5_readBoth_8 ?_
    exact qe_z 9 rfl (by decide) dX5_readBoth_9 h
theorem bX5_readBoth_12 {d : Nat} {P : Int → q_Mem → Prop} {M : q_Mem} (x1 x2 : Int) (h : (((M 33 3) ≤ x2) → P 1 M) ∧ ((¬ ((M 33 3) ≤ x2)) → q_kI yX5_isWord mX5_isWord d [qR 33, qR (-((17 : Nat) : Int) - 1)] M (fun v2 M1 => ((v2 = 0) → P 1 M1) ∧ ((¬ (v2 = 0)) → q_kU yX5_advance mX5_advance d [qR 33] M1 (fun M3 => q_kI yX5_readUnit mX5_readUnit d [qR 33, qI x1] M3 (fun v5 M4 => ((¬ v5 = 0) → q_kd (M4 33 9) = 2 ∧ (q_kU yX2_add mX2_add d [qR (M4 33 9), qI (-12)] M4 (fun M7 => q_v mX5_readBoth d (qPI P) M7 12 [some (qR 33), some (qI x1), some (qI (q_add x2 1))] []))) ∧ ((v5 = 0) → P 0 M4))))))) : q_v mX5_readBoth d (qPI P) M 12 [some (qR 33), some (qI x1), some (qI x2)] [] := by
  refine qr_iload_n 12 13 rfl (x := x2) rfl dX5_readBoth_12 ?_
  refine qr_aload_n 13 14 rfl (x := 33) rfl dX5_readBoth_13 ?_
  refine qg_i 14 17 rfl ck5 3 (kk := 3) (by decide) (by decide +kernel) (by decide +kernel) rfl wm_131 rfl dX5_readBoth_14 ?_
  refine qr_icmp_ge 17 20 58 rfl (by decide) dX5_readBoth_17 (fun c17 => ?_) (fun c17 => ?_)
  · have h := h.1 c17
    refine qr_iconst 58 59 rfl (q_l32 _ rfl) dX5_readBoth_58 ?_
    exact qe_z 59 rfl (by decide) dX5_readBoth_59 h
  · have h := h.2 c17
    refine qr_aload_n 20 21 rfl (x := 33) rfl dX5_readBoth_20 ?_
    refine qr_ldcS 21 23 rfl 17 (by decide) rfl rfl rfl dX5_readBoth_21 ?_
    refine qw_I 23 26 rfl (av := [qR (-((17 : Nat) : Int) - 1)]) ca_X5_isWord wm_586 wp_7 wm_584 ck5 (by decide +kernel) rfl rfl (Nat.le_of_ble_eq_true rfl) dX5_readBoth_23 h (fun v2 M1 h => ?_)
    refine qr_if_eq 26 29 58 rfl (by decide) dX5_readBoth_26 (fun c26 => ?_) (fun c26 => ?_)
    · have h := h.1 c26
      refine qr_iconst 58 59 rfl (q_l32 _ rfl) dX5_readBoth_58 ?_
      exact qe_z 59 rfl (by decide) dX5_readBoth_59 h
    · have h := h.2 c26
      refine qr_aload_n 29 30 rfl (x := 33) rfl dX5_readBoth_29 ?_
      refine qw_U 30 33 rfl (av := []) ca_X5_advance wm_467 wp_1 wm_465 ck5 (by decide +kernel) rfl rfl (Nat.le_of_ble_eq_true rfl) dX5_readBoth_30 h (fun M3 h => ?_)
      refine qr_aload_n 33 34 rfl (x := 33) rfl dX5_readBoth_33 ?_
      refine qr_iload_n 34 35 rfl (x := x1) rfl dX5_readBoth_34 ?_
      refine qw_I 35 38 rfl (av := [qI x1]) ca_X5_readUnit wm_700 wp_24 wm_698 ck5 (by decide +kernel) rfl rfl (Nat.le_of_ble_eq_true rfl) dX5_readBoth_35 h (fun v5 M4 h => ?_)
      refine qr_if_ne 38 41 43 rfl (by decide) dX5_readBoth_38 (fun c38 => ?_) (fun c38 => ?_)
      · have h := h.1 c38
        refine qr_aload_n 43 44 rfl (x := 33) rfl dX5_readBoth_43 ?_
        refine qg_r 44 47 rfl ck5 9 (kk := 9) (by decide) (by decide +kernel) (by decide +kernel) rfl wm_137 rfl dX5_readBoth_44 ?_
        refine qr_bipush 47 49 rfl (q_l32 _ rfl) (by decide) dX5_readBoth_47 ?_
        have hk6 := h.1
        have h := h.2
        refine qw_U 49 52 rfl (av := [qI (-12)]) ca_X2_add wm_704 wm_705 wm_703 ck2 hk6 rfl rfl (Nat.le_of_ble_eq_true rfl) dX5_readBoth_49 h (fun M7 h => ?_)
        refine qr_iinc 52 55 rfl (by decide) (x := x2) rfl rfl rfl dX5_readBoth_52 ?_
        refine qr_goto 55 12 (by decide) dX5_readBoth_55 ?_
        exact h
      · have h := h.2 c38
        refine qr_iconst 41 42 rfl (q_l32 _ rfl) dX5_readBoth_41 ?_
        exact qe_z 42 rfl (by decide) dX5_readBoth_42 h
theorem dX5_readUnit_0 : decode cX5_readUnit 0 = .ok (.aload_n 0, 1) := by decide +kernel
theorem dX5_readUnit_1 : decode cX5_readUnit 1 = .ok (.bipush 91, 2) := by decide +kernel
theorem dX5_readUnit_3 : decode cX5_readUnit 3 = .ok (.invokevirtual 161, 3) := by decide +kernel
theorem dX5_readUnit_6 : decode cX5_readUnit 6 = .ok (.ifCond .eq 36, 3) := by decide +kernel
theorem dX5_readUnit_9 : decode cX5_readUnit 9 = .ok (.aload_n 0, 1) := by decide +kernel
theorem dX5_readUnit_10 : decode cX5_readUnit 10 = .ok (.iload_n 1, 1) := by decide +kernel
theorem dX5_readUnit_11 : decode cX5_readUnit 11 = .ok (.invokevirtual 171, 3) := by decide +kernel
theorem dX5_readUnit_14 : decode cX5_readUnit 14 = .ok (.ifCond .eq 26, 3) := by decide +kernel
theorem dX5_readUnit_17 : decode cX5_readUnit 17 = .ok (.aload_n 0, 1) := by decide +kernel
theorem dX5_readUnit_18 : decode cX5_readUnit 18 = .ok (.iload_n 1, 1) := by decide +kernel
theorem dX5_readUnit_19 : decode cX5_readUnit 19 = .ok (.iconst 1, 1) := by decide +kernel
theorem dX5_readUnit_20 : decode cX5_readUnit 20 = .ok (.iadd, 1) := by decide +kernel
theorem dX5_readUnit_21 : decode cX5_readUnit 21 = .ok (.invokevirtual 117, 3) := by decide +kernel
theorem dX5_readUnit_24 : decode cX5_readUnit 24 = .ok (.ifCond .eq 16, 3) := by decide +kernel
theorem dX5_readUnit_27 : decode cX5_readUnit 27 = .ok (.aload_n 0, 1) := by decide +kernel
theorem dX5_readUnit_28 : decode cX5_readUnit 28 = .ok (.bipush 93, 2) := by decide +kernel
theorem dX5_readUnit_30 : decode cX5_readUnit 30 = .ok (.invokevirtual 64, 3) := by decide +kernel
theorem dX5_readUnit_33 : decode cX5_readUnit 33 = .ok (.ifCond .eq 7, 3) := by decide +kernel
theorem dX5_readUnit_36 : decode cX5_readUnit 36 = .ok (.iconst 1, 1) := by decide +kernel
theorem dX5_readUnit_37 : decode cX5_readUnit 37 = .ok (.goto 4, 3) := by decide +kernel
theorem dX5_readUnit_40 : decode cX5_readUnit 40 = .ok (.iconst 0, 1) := by decide +kernel
theorem dX5_readUnit_41 : decode cX5_readUnit 41 = .ok (.ireturn, 1) := by decide +kernel
theorem dX5_readUnit_42 : decode cX5_readUnit 42 = .ok (.aload_n 0, 1) := by decide +kernel
theorem dX5_readUnit_43 : decode cX5_readUnit 43 = .ok (.ldc 204, 2) := by decide +kernel
theorem dX5_readUnit_45 : decode cX5_readUnit 45 = .ok (.invokevirtual 88, 3) := by decide +kernel
theorem dX5_readUnit_48 : decode cX5_readUnit 48 = .ok (.ifCond .eq 34, 3) := by decide +kernel
theorem dX5_readUnit_51 : decode cX5_readUnit 51 = .ok (.aload_n 0, 1) := by decide +kernel
theorem dX5_readUnit_52 : decode cX5_readUnit 52 = .ok (.iload_n 1, 1) := by decide +kernel
theorem dX5_readUnit_53 : decode cX5_readUnit 53 = .ok (.invokevirtual 171, 3) := by decide +kernel
theorem dX5_readUnit_56 : decode cX5_readUnit 56 = .ok (.ifCond .eq 13, 3) := by decide +kernel
theorem dX5_readUnit_59 : decode cX5_readUnit 59 = .ok (.aload_n 0, 1) := by decide +kernel
theorem dX5_readUnit_60 : decode cX5_readUnit 60 = .ok (.iload_n 1, 1) := by decide +kernel
theorem dX5_readUnit_61 : decode cX5_readUnit 61 = .ok (.iconst 1, 1) := by decide +kernel
theorem dX5_readUnit_62 : decode cX5_readUnit 62 = .ok (.iadd, 1) := by decide +kernel
theorem dX5_readUnit_63 : decode cX5_readUnit 63 = .ok (.invokevirtual 199, 3) := by decide +kernel
theorem dX5_readUnit_66 : decode cX5_readUnit 66 = .ok (.ifCond .ne 5, 3) := by decide +kernel
theorem dX5_readUnit_69 : decode cX5_readUnit 69 = .ok (.iconst 0, 1) := by decide +kernel
theorem dX5_readUnit_70 : decode cX5_readUnit 70 = .ok (.ireturn, 1) := by decide +kernel
theorem dX5_readUnit_71 : decode cX5_readUnit 71 = .ok (.aload_n 0, 1) := by decide +kernel
theorem dX5_readUnit_72 : decode cX5_readUnit 72 = .ok (.getfield 30, 3) := by decide +kernel
theorem dX5_readUnit_75 : decode cX5_readUnit 75 = .ok (.bipush (-14), 2) := by decide +kernel
theorem dX5_readUnit_77 : decode cX5_readUnit 77 = .ok (.invokevirtual 164, 3) := by decide +kernel
theorem dX5_readUnit_80 : decode cX5_readUnit 80 = .ok (.iconst 1, 1) := by decide +kernel
theorem dX5_readUnit_81 : decode cX5_readUnit 81 = .ok (.ireturn, 1) := by decide +kernel
theorem dX5_readUnit_82 : decode cX5_readUnit 82 = .ok (.aload_n 0, 1) := by decide +kernel
theorem dX5_readUnit_83 : decode cX5_readUnit 83 = .ok (.iload_n 1, 1) := by decide +kernel
theorem dX5_readUnit_84 : decode cX5_readUnit 84 = .ok (.invokevirtual 109, 3) := by decide +kernel
theorem dX5_readUnit_87 : decode cX5_readUnit 87 = .ok (.ifCond .eq 15, 3) := by decide +kernel
theorem dX5_readUnit_90 : decode cX5_readUnit 90 = .ok (.aload_n 0, 1) := by decide +kernel
theorem dX5_readUnit_91 : decode cX5_readUnit 91 = .ok (.iload_n 1, 1) := by decide +kernel
theorem dX5_readUnit_92 : decode cX5_readUnit 92 = .ok (.invokevirtual 206, 3) := by decide +kernel
theorem dX5_readUnit_95 : decode cX5_readUnit 95 = .ok (.ifCond .eq 7, 3) := by decide +kernel
theorem dX5_readUnit_98 : decode cX5_readUnit 98 = .ok (.iconst 1, 1) := by decide +kernel
theorem dX5_readUnit_99 : decode cX5_readUnit 99 = .ok (.goto 4, 3) := by decide +kernel
theorem dX5_readUnit_102 : decode cX5_readUnit 102 = .ok (.iconst 0, 1) := by decide +kernel
theorem dX5_readUnit_103 : decode cX5_readUnit 103 = .ok (.ireturn, 1) := by decide +kernel
theorem bX5_readUnit_0 {d : Nat} {P : Int → q_Mem → Prop} {M : q_Mem} (x1 : Int) (h : q_kI yX5_isSign mX5_isSign d [qR 33, qI 91] M (fun v2 M1 => ((v2 = 0) → q_kI yX5_isWord mX5_isWord d [qR 33, qR (-((18 : Nat) : Int) - 1)] M1 (fun v4 M3 => ((v4 = 0) → q_kI yX5_readSum mX5_readSum d [qR 33, qI x1] M3 (fun v6 M5 => ((v6 = 0) → P 0 M5) ∧ ((¬ (v6 = 0)) → q_kI yX5_readComparison mX5_readComparison d [qR 33, qI x1] M5 (fun v8 M7 => ((v8 = 0) → P 0 M7) ∧ ((¬ (v8 = 0)) → P 1 M7))))) ∧ ((¬ (v4 = 0)) → q_kI yX5_nests mX5_nests d [qR 33, qI x1] M3 (fun v10 M9 => ((v10 = 0) → P 0 M9) ∧ ((¬ (v10 = 0)) → q_kI yX5_readUnit mX5_readUnit d [qR 33, qI (q_add x1 1)] M9 (fun v12 M11 => ((¬ v12 = 0) → q_kd (M11 33 9) = 2 ∧ (q_kU yX2_add mX2_add d [qR (M11 33 9), qI (-14)] M11 (fun M14 => P 1 M14))) ∧ ((v12 = 0) → P 0 M11))))))) ∧ ((¬ (v2 = 0)) → q_kI yX5_nests mX5_nests d [qR 33, qI x1] M1 (fun v16 M15 => ((v16 = 0) → P 0 M15) ∧ ((¬ (v16 = 0)) → q_kI yX5_readTruth mX5_readTruth d [qR 33, qI (q_add x1 1)] M15 (fun v18 M17 => ((v18 = 0) → P 0 M17) ∧ ((¬ (v18 = 0)) → q_kI yX5_takeSign mX5_takeSign d [qR 33, qI 93] M17 (fun v20 M19 => ((v20 = 0) → P 0 M19) ∧ ((¬ (v20 = 0)) → P 1 M19))))))))) : q_v mX5_readUnit d (qPI P) M 0 [some (qR 33), some (qI x1)] [] := by
  refine qr_aload_n 0 1 rfl (x := 33) rfl dX5_readUnit_0 ?_
  refine qr_bipush 1 3 rfl (q_l32 _ rfl) (by decide) dX5_readUnit_1 ?_
  refine qw_I 3 6 rfl (av := [qI 91]) ca_X5_isSign wm_624 wp_11 wm_622 ck5 (by decide +kernel) rfl rfl (Nat.le_of_ble_eq_true rfl) dX5_readUnit_3 h (fun v2 M1 h => ?_)
  refine qr_if_eq 6 9 42 rfl (by decide) dX5_readUnit_6 (fun c6 => ?_) (fun c6 => ?_)
  · have h := h.1 c6
    refine qr_aload_n 42 43 rfl (x := 33) rfl dX5_readUnit_42 ?_
    refine qr_ldcS 43 45 rfl 18 (by decide) rfl rfl rfl dX5_readUnit_43 ?_
    refine qw_I 45 48 rfl (av := [qR (-((18 : Nat) : Int) - 1)]) ca_X5_isWord wm_586 wp_7 wm_584 ck5 (by decide +kernel) rfl rfl (Nat.le_of_ble_eq_true rfl) dX5_readUnit_45 h (fun v4 M3 h => ?_)
    refine qr_if_eq 48 51 82 rfl (by decide) dX5_readUnit_48 (fun c48 => ?_) (fun c48 => ?_)
    · have h := h.1 c48
      refine qr_aload_n 82 83 rfl (x := 33) rfl dX5_readUnit_82 ?_
      refine qr_iload_n 83 84 rfl (x := x1) rfl dX5_readUnit_83 ?_
      refine qw_I 84 87 rfl (av := [qI x1]) ca_X5_readSum wm_671 wp_17 wm_669 ck5 (by decide +kernel) rfl rfl (Nat.le_of_ble_eq_true rfl) dX5_readUnit_84 h (fun v6 M5 h => ?_)
      refine qr_if_eq 87 90 102 rfl (by decide) dX5_readUnit_87 (fun c87 => ?_) (fun c87 => ?_)
      · have h := h.1 c87
        refine qr_iconst 102 103 rfl (q_l32 _ rfl) dX5_readUnit_102 ?_
        exact qe_z 103 rfl (by decide) dX5_readUnit_103 h
      · have h := h.2 c87
        refine qr_aload_n 90 91 rfl (x := 33) rfl dX5_readUnit_90 ?_
        refine qr_iload_n 91 92 rfl (x := x1) rfl dX5_readUnit_91 ?_
        refine qw_I 92 95 rfl (av := [qI x1]) ca_X5_readComparison wm_709 wp_25 wm_707 ck5 (by decide +kernel) rfl rfl (Nat.le_of_ble_eq_true rfl) dX5_readUnit_92 h (fun v8 M7 h => ?_)
        refine qr_if_eq 95 98 102 rfl (by decide) dX5_readUnit_95 (fun c95 => ?_) (fun c95 => ?_)
        · have h := h.1 c95
          refine qr_iconst 102 103 rfl (q_l32 _ rfl) dX5_readUnit_102 ?_
          exact qe_z 103 rfl (by decide) dX5_readUnit_103 h
        · have h := h.2 c95
          refine qr_iconst 98 99 rfl (q_l32 _ rfl) dX5_readUnit_98 ?_
          refine qr_goto 99 103 (by decide) dX5_readUnit_99 ?_
          exact qe_z 103 rfl (by decide) dX5_readUnit_103 h
    · have h := h.2 c48
      refine qr_aload_n 51 52 rfl (x := 33) rfl dX5_readUnit_51 ?_
      refine qr_iload_n 52 53 rfl (x := x1) rfl dX5_readUnit_52 ?_
      refine qw_I 53 56 rfl (av := [qI x1]) ca_X5_nests wm_683 wp_20 wm_681 ck5 (by decide +kernel) rfl rfl (Nat.le_of_ble_eq_true rfl) dX5_readUnit_53 h (fun v10 M9 h => ?_)
      refine qr_if_eq 56 59 69 rfl (by decide) dX5_readUnit_56 (fun c56 => ?_) (fun c56 => ?_)
      · have h := h.1 c56
        refine qr_iconst 69 70 rfl (q_l32 _ rfl) dX5_readUnit_69 ?_
        exact qe_z 70 rfl (by decide) dX5_readUnit_70 h
      · have h := h.2 c56
        refine qr_aload_n 59 60 rfl (x := 33) rfl dX5_readUnit_59 ?_
        refine qr_iload_n 60 61 rfl (x := x1) rfl dX5_readUnit_60 ?_
        refine qr_iconst 61 62 rfl (q_l32 _ rfl) dX5_readUnit_61 ?_
        refine qr_iadd 62 63 rfl dX5_readUnit_62 ?_
        refine qw_I 63 66 rfl (av := [qI (q_add x1 1)]) ca_X5_readUnit wm_700 wp_24 wm_698 ck5 (by decide +kernel) rfl rfl (Nat.le_of_ble_eq_true rfl) dX5_readUnit_63 h (fun v12 M11 h => ?_)
        refine qr_if_ne 66 69 71 rfl (by decide) dX5_readUnit_66 (fun c66 => ?_) (fun c66 => ?_)
        · have h := h.1 c66
          refine qr_aload_n 71 72 rfl (x := 33) rfl dX5_readUnit_71 ?_
          refine qg_r 72 75 rfl ck5 9 (kk := 9) (by decide) (by decide +kernel) (by decide +kernel) rfl wm_137 rfl dX5_readUnit_72 ?_
          refine qr_bipush 75 77 rfl (q_l32 _ rfl) (by decide) dX5_readUnit_75 ?_
          have hk13 := h.1
          have h := h.2
          refine qw_U 77 80 rfl (av := [qI (-14)]) ca_X2_add wm_704 wm_705 wm_703 ck2 hk13 rfl rfl (Nat.le_of_ble_eq_true rfl) dX5_readUnit_77 h (fun M14 h => ?_)
          refine qr_iconst 80 81 rfl (q_l32 _ rfl) dX5_readUnit_80 ?_
          exact qe_z 81 rfl (by decide) dX5_readUnit_81 h
        · have h := h.2 c66
          refine qr_iconst 69 70 rfl (q_l32 _ rfl) dX5_readUnit_69 ?_
          exact qe_z 70 rfl (by decide) dX5_readUnit_70 h
  · have h := h.2 c6
    refine qr_aload_n 9 10 rfl (x := 33) rfl dX5_readUnit_9 ?_
    refine qr_iload_n 10 11 rfl (x := x1) rfl dX5_readUnit_10 ?_
    refine qw_I 11 14 rfl (av := [qI x1]) ca_X5_nests wm_683 wp_20 wm_681 ck5 (by decide +kernel) rfl rfl (Nat.le_of_ble_eq_true rfl) dX5_readUnit_11 h (fun v16 M15 h => ?_)
    refine qr_if_eq 14 17 40 rfl (by decide) dX5_readUnit_14 (fun c14 => ?_) (fun c14 => ?_)
    · have h := h.1 c14
      refine qr_iconst 40 41 rfl (q_l32 _ rfl) dX5_readUnit_40 ?_
      exact qe_z 41 rfl (by decide) dX5_readUnit_41 h
    · have h := h.2 c14
      refine qr_aload_n 17 18 rfl (x := 33) rfl dX5_readUnit_17 ?_
      refine qr_iload_n 18 19 rfl (x := x1) rfl dX5_readUnit_18 ?_
      refine qr_iconst 19 20 rfl (q_l32 _ rfl) dX5_readUnit_19 ?_
      refine qr_iadd 20 21 rfl dX5_readUnit_20 ?_
      refine qw_I 21 24 rfl (av := [qI (q_add x1 1)]) ca_X5_readTruth wm_692 wp_22 wm_690 ck5 (by decide +kernel) rfl rfl (Nat.le_of_ble_eq_true rfl) dX5_readUnit_21 h (fun v18 M17 h => ?_)
      refine qr_if_eq 24 27 40 rfl (by decide) dX5_readUnit_24 (fun c24 => ?_) (fun c24 => ?_)
      · have h := h.1 c24
        refine qr_iconst 40 41 rfl (q_l32 _ rfl) dX5_readUnit_40 ?_
        exact qe_z 41 rfl (by decide) dX5_readUnit_41 h
      · have h := h.2 c24
        refine qr_aload_n 27 28 rfl (x := 33) rfl dX5_readUnit_27 ?_
        refine qr_bipush 28 30 rfl (q_l32 _ rfl) (by decide) dX5_readUnit_28 ?_
        refine qw_I 30 33 rfl (av := [qI 93]) ca_X5_takeSign wm_620 wp_10 wm_618 ck5 (by decide +kernel) rfl rfl (Nat.le_of_ble_eq_true rfl) dX5_readUnit_30 h (fun v20 M19 h => ?_)
        refine qr_if_eq 33 36 40 rfl (by decide) dX5_readUnit_33 (fun c33 => ?_) (fun c33 => ?_)
        · have h := h.1 c33
          refine qr_iconst 40 41 rfl (q_l32 _ rfl) dX5_readUnit_40 ?_
          exact qe_z 41 rfl (by decide) dX5_readUnit_41 h
        · have h := h.2 c33
          refine qr_iconst 36 37 rfl (q_l32 _ rfl) dX5_readUnit_36 ?_
          refine qr_goto 37 41 (by decide) dX5_readUnit_37 ?_
          exact qe_z 41 rfl (by decide) dX5_readUnit_41 h
theorem dX5_readComparison_0 : decode cX5_readComparison 0 = .ok (.bipush (-9), 2) := by decide +kernel
theorem dX5_readComparison_2 : decode cX5_readComparison 2 = .ok (.istore_n 2, 1) := by decide +kernel
theorem dX5_readComparison_3 : decode cX5_readComparison 3 = .ok (.aload_n 0, 1) := by decide +kernel
theorem dX5_readComparison_4 : decode cX5_readComparison 4 = .ok (.bipush 60, 2) := by decide +kernel
theorem dX5_readComparison_6 : decode cX5_readComparison 6 = .ok (.invokevirtual 161, 3) := by decide +kernel
theorem dX5_readComparison_9 : decode cX5_readComparison 9 = .ok (.ifCond .eq 9, 3) := by decide +kernel
theorem dX5_readComparison_12 : decode cX5_readComparison 12 = .ok (.bipush (-10), 2) := by decide +kernel
theorem dX5_readComparison_14 : decode cX5_readComparison 14 = .ok (.istore_n 2, 1) := by decide +kernel
theorem dX5_readComparison_15 : decode cX5_readComparison 15 = .ok (.goto 33, 3) := by decide +kernel
theorem dX5_readComparison_18 : decode cX5_readComparison 18 = .ok (.aload_n 0, 1) := by decide +kernel
theorem dX5_readComparison_19 : decode cX5_readComparison 19 = .ok (.bipush 62, 2) := by decide +kernel
theorem dX5_readComparison_21 : decode cX5_readComparison 21 = .ok (.invokevirtual 161, 3) := by decide +kernel
theorem dX5_readComparison_24 : decode cX5_readComparison 24 = .ok (.ifCond .eq 9, 3) := by decide +kernel
theorem dX5_readComparison_27 : decode cX5_readComparison 27 = .ok (.bipush (-11), 2) := by decide +kernel
theorem dX5_readComparison_29 : decode cX5_readComparison 29 = .ok (.istore_n 2, 1) := by decide +kernel
theorem dX5_readComparison_30 : decode cX5_readComparison 30 = .ok (.goto 18, 3) := by decide +kernel
theorem dX5_readComparison_33 : decode cX5_readComparison 33 = .ok (.aload_n 0, 1) := by decide +kernel
theorem dX5_readComparison_34 : decode cX5_readComparison 34 = .ok (.bipush 61, 2) := by decide +kernel
theorem dX5_readComparison_36 : decode cX5_readComparison 36 = .ok (.invokevirtual 161, 3) := by decide +kernel
theorem dX5_readComparison_39 : decode cX5_readComparison 39 = .ok (.ifCond .ne 9, 3) := by decide +kernel
theorem dX5_readComparison_42 : decode cX5_readComparison 42 = .ok (.aload_n 0, 1) := by decide +kernel
theorem dX5_readComparison_43 : decode cX5_readComparison 43 = .ok (.iconst 2, 1) := by decide +kernel
theorem dX5_readComparison_44 : decode cX5_readComparison 44 = .ok (.invokevirtual 120, 3) := by decide +kernel
theorem dX5_readComparison_47 : decode cX5_readComparison 47 = .ok (.ireturn, 1) := by decide +kernel
theorem dX5_readComparison_48 : decode cX5_readComparison 48 = .ok (.aload_n 0, 1) := by decide +kernel
theorem dX5_readComparison_49 : decode cX5_readComparison 49 = .ok (.invokevirtual 51, 3) := by decide +kernel
theorem dX5_readComparison_52 : decode cX5_readComparison 52 = .ok (.aload_n 0, 1) := by decide +kernel
theorem dX5_readComparison_53 : decode cX5_readComparison 53 = .ok (.iload_n 1, 1) := by decide +kernel
theorem dX5_readComparison_54 : decode cX5_readComparison 54 = .ok (.invokevirtual 109, 3) := by decide +kernel
theorem dX5_readComparison_57 : decode cX5_readComparison 57 = .ok (.ifCond .ne 5, 3) := by decide +kernel
theorem dX5_readComparison_60 : decode cX5_readComparison 60 = .ok (.iconst 0, 1) := by decide +kernel
theorem dX5_readComparison_61 : decode cX5_readComparison 61 = .ok (.ireturn, 1) := by decide +kernel
theorem dX5_readComparison_62 : decode cX5_readComparison 62 = .ok (.aload_n 0, 1) := by decide +kernel
theorem dX5_readComparison_63 : decode cX5_readComparison 63 = .ok (.getfield 30, 3) := by decide +kernel
theorem dX5_readComparison_66 : decode cX5_readComparison 66 = .ok (.iload_n 2, 1) := by decide +kernel
theorem dX5_readComparison_67 : decode cX5_readComparison 67 = .ok (.invokevirtual 164, 3) := by decide +kernel
theorem dX5_readComparison_70 : decode cX5_readComparison 70 = .ok (.iconst 1, 1) := by decide +kernel
theorem dX5_readComparison_71 : decode cX5_readComparison 71 = .ok (.ireturn, 1) := by decide +kernel
theorem bX5_readComparison_0 {d : Nat} {P : Int → q_Mem → Prop} {M : q_Mem} (x1 : Int) (h : q_kI yX5_isSign mX5_isSign d [qR 33, qI 60] M (fun v2 M1 => ((v2 = 0) → q_kI yX5_isSign mX5_isSign d [qR 33, qI 62] M1 (fun v4 M3 => ((v4 = 0) → q_kI yX5_isSign mX5_isSign d [qR 33, qI 61] M3 (fun v6 M5 => ((¬ v6 = 0) → q_v mX5_readComparison d (qPI P) M5 48 [some (qR 33), some (qI x1), some (qI (-9))] []) ∧ ((v6 = 0) → q_kI yX5_refuse mX5_refuse d [qR 33, qI 2] M5 (fun v8 M7 => (v8 = 0 ∨ v8 = 1) ∧ P v8 M7)))) ∧ ((¬ (v4 = 0)) → q_v mX5_readComparison d (qPI P) M3 48 [some (qR 33), some (qI x1), some (qI (-11))] []))) ∧ ((¬ (v2 = 0)) → q_v mX5_readComparison d (qPI P) M1 48 [some (qR 33), some (qI x1), some (qI (-10))] []))) : q_v mX5_readComparison d (qPI P) M 0 [some (qR 33), some (qI x1), none] [] := by
  refine qr_bipush 0 2 rfl (q_l32 _ rfl) (by decide) dX5_readComparison_0 ?_
  refine qr_istore_n 2 3 rfl (by decide) rfl rfl dX5_readComparison_2 ?_
  refine qr_aload_n 3 4 rfl (x := 33) rfl dX5_readComparison_3 ?_
  refine qr_bipush 4 6 rfl (q_l32 _ rfl) (by decide) dX5_readComparison_4 ?_
  refine qw_I 6 9 rfl (av := [qI 60]) ca_X5_isSign wm_624 wp_11 wm_622 ck5 (by decide +kernel) rfl rfl (Nat.le_of_ble_eq_true rfl) dX5_readComparison_6 h (fun v2 M1 h => ?_)
  refine qr_if_eq 9 12 18 rfl (by decide) dX5_readComparison_9 (fun c9 => ?_) (fun c9 => ?_)
  · have h := h.1 c9
    refine qr_aload_n 18 19 rfl (x := 33) rfl dX5_readComparison_18 ?_
    refine qr_bipush 19 21 rfl (q_l32 _ rfl) (by decide) dX5_readComparison_19 ?_
    refine qw_I 21 24 rfl (av := [qI 62]) ca_X5_isSign wm_624 wp_11 wm_622 ck5 (by decide +kernel) rfl rfl (Nat.le_of_ble_eq_true rfl) dX5_readComparison_21 h (fun v4 M3 h => ?_)
    refine qr_if_eq 24 27 33 rfl (by decide) dX5_readComparison_24 (fun c24 => ?_) (fun c24 => ?_)
    · have h := h.1 c24
      refine qr_aload_n 33 34 rfl (x := 33) rfl dX5_readComparison_33 ?_
      refine qr_bipush 34 36 rfl (q_l32 _ rfl) (by decide) dX5_readComparison_34 ?_
      refine qw_I 36 39 rfl (av := [qI 61]) ca_X5_isSign wm_624 wp_11 wm_622 ck5 (by decide +kernel) rfl rfl (Nat.le_of_ble_eq_true rfl) dX5_readComparison_36 h (fun v6 M5 h => ?_)
      refine qr_if_ne 39 42 48 rfl (by decide) dX5_readComparison_39 (fun c39 => ?_) (fun c39 => ?_)
      · have h := h.1 c39
        exact h
      · have h := h.2 c39
        refine qr_aload_n 42 43 rfl (x := 33) rfl dX5_readComparison_42 ?_
        refine qr_iconst 43 44 rfl (q_l32 _ rfl) dX5_readComparison_43 ?_
        refine qw_I 44 47 rfl (av := [qI 2]) ca_X5_refuse wm_611 wp_8 wm_609 ck5 (by decide +kernel) rfl rfl (Nat.le_of_ble_eq_true rfl) dX5_readComparison_44 h (fun v8 M7 h => ?_)
        exact qe_z 47 rfl h.1 dX5_readComparison_47 h.2
    · have h := h.2 c24
      refine qr_bipush 27 29 rfl (q_l32 _ rfl) (by decide) dX5_readComparison_27 ?_
      refine qr_istore_n 29 30 rfl (by decide) rfl rfl dX5_readComparison_29 ?_
      refine qr_goto 30 48 (by decide) dX5_readComparison_30 ?_
      exact h
  · have h := h.2 c9
    refine qr_bipush 12 14 rfl (q_l32 _ rfl) (by decide) dX5_readComparison_12 ?_
    refine qr_istore_n 14 15 rfl (by decide) rfl rfl dX5_readComparison_14 ?_
    refine qr_goto 15 48 (by decide) dX5_readComparison_15 ?_
    exact h
theorem bX5_readComparison_48 {d : Nat} {P : Int → q_Mem → Prop} {M : q_Mem} (x1 x2 : Int) (h : q_kU yX5_advance mX5_advance d [qR 33] M (fun M1 => q_kI yX5_readSum mX5_readSum d [qR 33, qI x1] M1 (fun v3 M2 => ((¬ v3 = 0) → q_kd (M2 33 9) = 2 ∧ (q_kU yX2_add mX2_add d [qR (M2 33 9), qI x2] M2 (fun M5 => P 1 M5))) ∧ ((v3 = 0) → P 0 M2)))) : q_v mX5_readComparison d (qPI P) M 48 [some (qR 33), some (qI x1), some (qI x2)] [] := by
  refine qr_aload_n 48 49 rfl (x := 33) rfl dX5_readComparison_48 ?_
  refine qw_U 49 52 rfl (av := []) ca_X5_advance wm_467 wp_1 wm_465 ck5 (by decide +kernel) rfl rfl (Nat.le_of_ble_eq_true rfl) dX5_readComparison_49 h (fun M1 h => ?_)
  refine qr_aload_n 52 53 rfl (x := 33) rfl dX5_readComparison_52 ?_
  refine qr_iload_n 53 54 rfl (x := x1) rfl dX5_readComparison_53 ?_
  refine qw_I 54 57 rfl (av := [qI x1]) ca_X5_readSum wm_671 wp_17 wm_669 ck5 (by decide +kernel) rfl rfl (Nat.le_of_ble_eq_true rfl) dX5_readComparison_54 h (fun v3 M2 h => ?_)
  refine qr_if_ne 57 60 62 rfl (by decide) dX5_readComparison_57 (fun c57 => ?_) (fun c57 => ?_)
  · have h := h.1 c57
    refine qr_aload_n 62 63 rfl (x := 33) rfl dX5_readComparison_62 ?_
    refine qg_r 63 66 rfl ck5 9 (kk := 9) (by decide) (by decide +kernel) (by decide +kernel) rfl wm_137 rfl dX5_readComparison_63 ?_
    refine qr_iload_n 66 67 rfl (x := x2) rfl dX5_readComparison_66 ?_
    have hk4 := h.1
    have h := h.2
    refine qw_U 67 70 rfl (av := [qI x2]) ca_X2_add wm_704 wm_705 wm_703 ck2 hk4 rfl rfl (Nat.le_of_ble_eq_true rfl) dX5_readComparison_67 h (fun M5 h => ?_)
    refine qr_iconst 70 71 rfl (q_l32 _ rfl) dX5_readComparison_70 ?_
    exact qe_z 71 rfl (by decide) dX5_readComparison_71 h
  · have h := h.2 c57
    refine qr_iconst 60 61 rfl (q_l32 _ rfl) dX5_readComparison_60 ?_
    exact qe_z 61 rfl (by decide) dX5_readComparison_61 h
theorem dX5_nests_0 : decode cX5_nests 0 = .ok (.iload_n 1, 1) := by decide +kernel
theorem dX5_nests_1 : decode cX5_nests 1 = .ok (.bipush 6, 2) := by decide +kernel
theorem dX5_nests_3 : decode cX5_nests 3 = .ok (.if_icmp .lt 9, 3) := by decide +kernel
theorem dX5_nests_6 : decode cX5_nests 6 = .ok (.aload_n 0, 1) := by decide +kernel
theorem dX5_nests_7 : decode cX5_nests 7 = .ok (.iconst 4, 1) := by decide +kernel
theorem dX5_nests_8 : decode cX5_nests 8 = .ok (.invokevirtual 120, 3) := by decide +kernel
theorem dX5_nests_11 : decode cX5_nests 11 = .ok (.ireturn, 1) := by decide +kernel
theorem dX5_nests_12 : decode cX5_nests 12 = .ok (.aload_n 0, 1) := by decide +kernel
theorem dX5_nests_13 : decode cX5_nests 13 = .ok (.invokevirtual 51, 3) := by decide +kernel
theorem dX5_nests_16 : decode cX5_nests 16 = .ok (.iconst 1, 1) := by decide +kernel
theorem dX5_nests_17 : decode cX5_nests 17 = .ok (.ireturn, 1) := by decide +kernel
theorem bX5_nests_0 {d : Nat} {P : Int → q_Mem → Prop} {M : q_Mem} (x1 : Int) (h : ((x1 < (6 : Int)) → q_kU yX5_advance mX5_advance d [qR 33] M (fun M1 => P 1 M1)) ∧ ((¬ (x1 < (6 : Int))) → q_kI yX5_refuse mX5_refuse d [qR 33, qI 4] M (fun v3 M2 => (v3 = 0 ∨ v3 = 1) ∧ P v3 M2))) : q_v mX5_nests d (qPI P) M 0 [some (qR 33), some (qI x1)] [] := by
  refine qr_iload_n 0 1 rfl (x := x1) rfl dX5_nests_0 ?_
  refine qr_bipush 1 3 rfl (q_l32 _ rfl) (by decide) dX5_nests_1 ?_
  refine qr_icmp_lt 3 6 12 rfl (by decide) dX5_nests_3 (fun c3 => ?_) (fun c3 => ?_)
  · have h := h.1 c3
    refine qr_aload_n 12 13 rfl (x := 33) rfl dX5_nests_12 ?_
    refine qw_U 13 16 rfl (av := []) ca_X5_advance wm_467 wp_1 wm_465 ck5 (by decide +kernel) rfl rfl (Nat.le_of_ble_eq_true rfl) dX5_nests_13 h (fun M1 h => ?_)
    refine qr_iconst 16 17 rfl (q_l32 _ rfl) dX5_nests_16 ?_
    exact qe_z 17 rfl (by decide) dX5_nests_17 h
  · have h := h.2 c3
    refine qr_aload_n 6 7 rfl (x := 33) rfl dX5_nests_6 ?_
    refine qr_iconst 7 8 rfl (q_l32 _ rfl) dX5_nests_7 ?_
    refine qw_I 8 11 rfl (av := [qI 4]) ca_X5_refuse wm_611 wp_8 wm_609 ck5 (by decide +kernel) rfl rfl (Nat.le_of_ble_eq_true rfl) dX5_nests_8 h (fun v3 M2 h => ?_)
    exact qe_z 11 rfl h.1 dX5_nests_11 h.2
theorem dX5_refuse_0 : decode cX5_refuse 0 = .ok (.aload_n 0, 1) := by decide +kernel
theorem dX5_refuse_1 : decode cX5_refuse 1 = .ok (.aload_n 0, 1) := by decide +kernel
theorem dX5_refuse_2 : decode cX5_refuse 2 = .ok (.getfield 58, 3) := by decide +kernel
theorem dX5_refuse_5 : decode cX5_refuse 5 = .ok (.iconst 4, 1) := by decide +kernel
theorem dX5_refuse_6 : decode cX5_refuse 6 = .ok (.if_icmp .ne 7, 3) := by decide +kernel
theorem dX5_refuse_9 : decode cX5_refuse 9 = .ok (.iconst 1, 1) := by decide +kernel
theorem dX5_refuse_10 : decode cX5_refuse 10 = .ok (.goto 4, 3) := by decide +kernel
theorem dX5_refuse_13 : decode cX5_refuse 13 = .ok (.iload_n 1, 1) := by decide +kernel
theorem dX5_refuse_14 : decode cX5_refuse 14 = .ok (.putfield 45, 3) := by decide +kernel
theorem dX5_refuse_17 : decode cX5_refuse 17 = .ok (.aload_n 0, 1) := by decide +kernel
theorem dX5_refuse_18 : decode cX5_refuse 18 = .ok (.aload_n 0, 1) := by decide +kernel
theorem dX5_refuse_19 : decode cX5_refuse 19 = .ok (.getfield 209, 3) := by decide +kernel
theorem dX5_refuse_22 : decode cX5_refuse 22 = .ok (.putfield 9, 3) := by decide +kernel
theorem dX5_refuse_25 : decode cX5_refuse 25 = .ok (.iconst 0, 1) := by decide +kernel
theorem dX5_refuse_26 : decode cX5_refuse 26 = .ok (.ireturn, 1) := by decide +kernel
theorem bX5_refuse_0 {d : Nat} {P : Int → q_Mem → Prop} {M : q_Mem} (x1 : Int) (h : ((¬ (M 33 6) = (4 : Int)) → (∀ M1 : q_Mem, M1 = q_up M 33 0 x1 → (∀ M2 : q_Mem, M2 = q_up M1 33 1 (M1 33 4) → P 0 M2))) ∧ (((M 33 6) = (4 : Int)) → (∀ M3 : q_Mem, M3 = q_up M 33 0 1 → (∀ M4 : q_Mem, M4 = q_up M3 33 1 (M3 33 4) → P 0 M4)))) : q_v mX5_refuse d (qPI P) M 0 [some (qR 33), some (qI x1)] [] := by
  refine qr_aload_n 0 1 rfl (x := 33) rfl dX5_refuse_0 ?_
  refine qr_aload_n 1 2 rfl (x := 33) rfl dX5_refuse_1 ?_
  refine qg_i 2 5 rfl ck5 6 (kk := 6) (by decide) (by decide +kernel) (by decide +kernel) rfl wm_134 rfl dX5_refuse_2 ?_
  refine qr_iconst 5 6 rfl (q_l32 _ rfl) dX5_refuse_5 ?_
  refine qr_icmp_ne 6 9 13 rfl (by decide) dX5_refuse_6 (fun c6 => ?_) (fun c6 => ?_)
  · have h := h.1 c6
    refine qr_iload_n 13 14 rfl (x := x1) rfl dX5_refuse_13 ?_
    refine qp_i 14 17 rfl ck5 0 (kk := 0) (by decide) (by decide +kernel) (by decide) rfl rfl wm_126 rfl dX5_refuse_14 (fun M1 e_M1 => ?_)
    have h := h M1 e_M1
    refine qr_aload_n 17 18 rfl (x := 33) rfl dX5_refuse_17 ?_
    refine qr_aload_n 18 19 rfl (x := 33) rfl dX5_refuse_18 ?_
    refine qg_i 19 22 rfl ck5 4 (kk := 4) (by decide) (by decide +kernel) (by decide +kernel) rfl wm_132 rfl dX5_refuse_19 ?_
    refine qp_i 22 25 rfl ck5 1 (kk := 1) (by decide) (by decide +kernel) (by decide) rfl rfl wm_128 rfl dX5_refuse_22 (fun M2 e_M2 => ?_)
    have h := h M2 e_M2
    refine qr_iconst 25 26 rfl (q_l32 _ rfl) dX5_refuse_25 ?_
    exact qe_z 26 rfl (by decide) dX5_refuse_26 h
  · have h := h.2 c6
    refine qr_iconst 9 10 rfl (q_l32 _ rfl) dX5_refuse_9 ?_
    refine qr_goto 10 14 (by decide) dX5_refuse_10 ?_
    refine qp_i 14 17 rfl ck5 0 (kk := 0) (by decide) (by decide +kernel) (by decide) rfl rfl wm_126 rfl dX5_refuse_14 (fun M3 e_M3 => ?_)
    have h := h M3 e_M3
    refine qr_aload_n 17 18 rfl (x := 33) rfl dX5_refuse_17 ?_
    refine qr_aload_n 18 19 rfl (x := 33) rfl dX5_refuse_18 ?_
    refine qg_i 19 22 rfl ck5 4 (kk := 4) (by decide) (by decide +kernel) (by decide +kernel) rfl wm_132 rfl dX5_refuse_19 ?_
    refine qp_i 22 25 rfl ck5 1 (kk := 1) (by decide) (by decide +kernel) (by decide) rfl rfl wm_128 rfl dX5_refuse_22 (fun M4 e_M4 => ?_)
    have h := h M4 e_M4
    refine qr_iconst 25 26 rfl (q_l32 _ rfl) dX5_refuse_25 ?_
    exact qe_z 26 rfl (by decide) dX5_refuse_26 h
theorem dX5_takeWord_0 : decode cX5_takeWord 0 = .ok (.aload_n 0, 1) := by decide +kernel
theorem dX5_takeWord_1 : decode cX5_takeWord 1 = .ok (.aload_n 1, 1) := by decide +kernel
theorem dX5_takeWord_2 : decode cX5_takeWord 2 = .ok (.invokevirtual 88, 3) := by decide +kernel
theorem dX5_takeWord_5 : decode cX5_takeWord 5 = .ok (.ifCond .ne 9, 3) := by decide +kernel
theorem dX5_takeWord_8 : decode cX5_takeWord 8 = .ok (.aload_n 0, 1) := by decide +kernel
theorem dX5_takeWord_9 : decode cX5_takeWord 9 = .ok (.iconst 2, 1) := by decide +kernel
theorem dX5_takeWord_10 : decode cX5_takeWord 10 = .ok (.invokevirtual 120, 3) := by decide +kernel
theorem dX5_takeWord_13 : decode cX5_takeWord 13 = .ok (.ireturn, 1) := by decide +kernel
theorem dX5_takeWord_14 : decode cX5_takeWord 14 = .ok (.aload_n 0, 1) := by decide +kernel
theorem dX5_takeWord_15 : decode cX5_takeWord 15 = .ok (.invokevirtual 51, 3) := by decide +kernel
theorem dX5_takeWord_18 : decode cX5_takeWord 18 = .ok (.iconst 1, 1) := by decide +kernel
theorem dX5_takeWord_19 : decode cX5_takeWord 19 = .ok (.ireturn, 1) := by decide +kernel
theorem bX5_takeWord_0 {d : Nat} {P : Int → q_Mem → Prop} {M : q_Mem} (i1 : Nat) (hi1 : i1 < 22) (h : q_kI yX5_isWord mX5_isWord d [qR 33, qR (-(i1 : Int) - 1)] M (fun v2 M1 => ((¬ v2 = 0) → q_kU yX5_advance mX5_advance d [qR 33] M1 (fun M3 => P 1 M3)) ∧ ((v2 = 0) → q_kI yX5_refuse mX5_refuse d [qR 33, qI 2] M1 (fun v5 M4 => (v5 = 0 ∨ v5 = 1) ∧ P v5 M4)))) : q_v mX5_takeWord d (qPI P) M 0 [some (qR 33), some (qR (-(i1 : Int) - 1))] [] := by
  refine qr_aload_n 0 1 rfl (x := 33) rfl dX5_takeWord_0 ?_
  refine qr_aload_n 1 2 rfl (x := (-(i1 : Int) - 1)) rfl dX5_takeWord_1 ?_
  refine qw_I 2 5 rfl (av := [qR (-(i1 : Int) - 1)]) ca_X5_isWord wm_586 wp_7 wm_584 ck5 (by decide +kernel) rfl rfl (Nat.le_of_ble_eq_true rfl) dX5_takeWord_2 h (fun v2 M1 h => ?_)
  refine qr_if_ne 5 8 14 rfl (by decide) dX5_takeWord_5 (fun c5 => ?_) (fun c5 => ?_)
  · have h := h.1 c5
    refine qr_aload_n 14 15 rfl (x := 33) rfl dX5_takeWord_14 ?_
    refine qw_U 15 18 rfl (av := []) ca_X5_advance wm_467 wp_1 wm_465 ck5 (by decide +kernel) rfl rfl (Nat.le_of_ble_eq_true rfl) dX5_takeWord_15 h (fun M3 h => ?_)
    refine qr_iconst 18 19 rfl (q_l32 _ rfl) dX5_takeWord_18 ?_
    exact qe_z 19 rfl (by decide) dX5_takeWord_19 h
  · have h := h.2 c5
    refine qr_aload_n 8 9 rfl (x := 33) rfl dX5_takeWord_8 ?_
    refine qr_iconst 9 10 rfl (q_l32 _ rfl) dX5_takeWord_9 ?_
    refine qw_I 10 13 rfl (av := [qI 2]) ca_X5_refuse wm_611 wp_8 wm_609 ck5 (by decide +kernel) rfl rfl (Nat.le_of_ble_eq_true rfl) dX5_takeWord_10 h (fun v5 M4 h => ?_)
    exact qe_z 13 rfl h.1 dX5_takeWord_13 h.2
theorem dX5_takeSign_0 : decode cX5_takeSign 0 = .ok (.aload_n 0, 1) := by decide +kernel
theorem dX5_takeSign_1 : decode cX5_takeSign 1 = .ok (.iload_n 1, 1) := by decide +kernel
theorem dX5_takeSign_2 : decode cX5_takeSign 2 = .ok (.invokevirtual 161, 3) := by decide +kernel
theorem dX5_takeSign_5 : decode cX5_takeSign 5 = .ok (.ifCond .ne 9, 3) := by decide +kernel
theorem dX5_takeSign_8 : decode cX5_takeSign 8 = .ok (.aload_n 0, 1) := by decide +kernel
theorem dX5_takeSign_9 : decode cX5_takeSign 9 = .ok (.iconst 2, 1) := by decide +kernel
theorem dX5_takeSign_10 : decode cX5_takeSign 10 = .ok (.invokevirtual 120, 3) := by decide +kernel
theorem dX5_takeSign_13 : decode cX5_takeSign 13 = .ok (.ireturn, 1) := by decide +kernel
theorem dX5_takeSign_14 : decode cX5_takeSign 14 = .ok (.aload_n 0, 1) := by decide +kernel
theorem dX5_takeSign_15 : decode cX5_takeSign 15 = .ok (.invokevirtual 51, 3) := by decide +kernel
theorem dX5_takeSign_18 : decode cX5_takeSign 18 = .ok (.iconst 1, 1) := by decide +kernel
theorem dX5_takeSign_19 : decode cX5_takeSign 19 = .ok (.ireturn, 1) := by decide +kernel
theorem bX5_takeSign_0 {d : Nat} {P : Int → q_Mem → Prop} {M : q_Mem} (x1 : Int) (h : q_kI yX5_isSign mX5_isSign d [qR 33, qI x1] M (fun v2 M1 => ((¬ v2 = 0) → q_kU yX5_advance mX5_advance d [qR 33] M1 (fun M3 => P 1 M3)) ∧ ((v2 = 0) → q_kI yX5_refuse mX5_refuse d [qR 33, qI 2] M1 (fun v5 M4 => (v5 = 0 ∨ v5 = 1) ∧ P v5 M4)))) : q_v mX5_takeSign d (qPI P) M 0 [some (qR 33), some (qI x1)] [] := by
  refine qr_aload_n 0 1 rfl (x := 33) rfl dX5_takeSign_0 ?_
  refine qr_iload_n 1 2 rfl (x := x1) rfl dX5_takeSign_1 ?_
  refine qw_I 2 5 rfl (av := [qI x1]) ca_X5_isSign wm_624 wp_11 wm_622 ck5 (by decide +kernel) rfl rfl (Nat.le_of_ble_eq_true rfl) dX5_takeSign_2 h (fun v2 M1 h => ?_)
  refine qr_if_ne 5 8 14 rfl (by decide) dX5_takeSign_5 (fun c5 => ?_) (fun c5 => ?_)
  · have h := h.1 c5
    refine qr_aload_n 14 15 rfl (x := 33) rfl dX5_takeSign_14 ?_
    refine qw_U 15 18 rfl (av := []) ca_X5_advance wm_467 wp_1 wm_465 ck5 (by decide +kernel) rfl rfl (Nat.le_of_ble_eq_true rfl) dX5_takeSign_15 h (fun M3 h => ?_)
    refine qr_iconst 18 19 rfl (q_l32 _ rfl) dX5_takeSign_18 ?_
    exact qe_z 19 rfl (by decide) dX5_takeSign_19 h
  · have h := h.2 c5
    refine qr_aload_n 8 9 rfl (x := 33) rfl dX5_takeSign_8 ?_
    refine qr_iconst 9 10 rfl (q_l32 _ rfl) dX5_takeSign_9 ?_
    refine qw_I 10 13 rfl (av := [qI 2]) ca_X5_refuse wm_611 wp_8 wm_609 ck5 (by decide +kernel) rfl rfl (Nat.le_of_ble_eq_true rfl) dX5_takeSign_10 h (fun v5 M4 h => ?_)
    exact qe_z 13 rfl h.1 dX5_takeSign_13 h.2
theorem dX5_takeNumber_0 : decode cX5_takeNumber 0 = .ok (.aload_n 0, 1) := by decide +kernel
theorem dX5_takeNumber_1 : decode cX5_takeNumber 1 = .ok (.getfield 58, 3) := by decide +kernel
theorem dX5_takeNumber_4 : decode cX5_takeNumber 4 = .ok (.iconst 2, 1) := by decide +kernel
theorem dX5_takeNumber_5 : decode cX5_takeNumber 5 = .ok (.if_icmp .eq 11, 3) := by decide +kernel
theorem dX5_takeNumber_8 : decode cX5_takeNumber 8 = .ok (.aload_n 0, 1) := by decide +kernel
theorem dX5_takeNumber_9 : decode cX5_takeNumber 9 = .ok (.iconst 2, 1) := by decide +kernel
theorem dX5_takeNumber_10 : decode cX5_takeNumber 10 = .ok (.invokevirtual 120, 3) := by decide +kernel
theorem dX5_takeNumber_13 : decode cX5_takeNumber 13 = .ok (.pop, 1) := by decide +kernel
theorem dX5_takeNumber_14 : decode cX5_takeNumber 14 = .ok (.iconst (-1), 1) := by decide +kernel
theorem dX5_takeNumber_15 : decode cX5_takeNumber 15 = .ok (.ireturn, 1) := by decide +kernel
theorem dX5_takeNumber_16 : decode cX5_takeNumber 16 = .ok (.aload_n 0, 1) := by decide +kernel
theorem dX5_takeNumber_17 : decode cX5_takeNumber 17 = .ok (.getfield 129, 3) := by decide +kernel
theorem dX5_takeNumber_20 : decode cX5_takeNumber 20 = .ok (.istore_n 2, 1) := by decide +kernel
theorem dX5_takeNumber_21 : decode cX5_takeNumber 21 = .ok (.iload_n 2, 1) := by decide +kernel
theorem dX5_takeNumber_22 : decode cX5_takeNumber 22 = .ok (.iload_n 1, 1) := by decide +kernel
theorem dX5_takeNumber_23 : decode cX5_takeNumber 23 = .ok (.if_icmp .le 11, 3) := by decide +kernel
theorem dX5_takeNumber_26 : decode cX5_takeNumber 26 = .ok (.aload_n 0, 1) := by decide +kernel
theorem dX5_takeNumber_27 : decode cX5_takeNumber 27 = .ok (.iconst 3, 1) := by decide +kernel
theorem dX5_takeNumber_28 : decode cX5_takeNumber 28 = .ok (.invokevirtual 120, 3) := by decide +kernel
theorem dX5_takeNumber_31 : decode cX5_takeNumber 31 = .ok (.pop, 1) := by decide +kernel
theorem dX5_takeNumber_32 : decode cX5_takeNumber 32 = .ok (.iconst (-1), 1) := by decide +kernel
theorem dX5_takeNumber_33 : decode cX5_takeNumber 33 = .ok (.ireturn, 1) := by decide +kernel
theorem dX5_takeNumber_34 : decode cX5_takeNumber 34 = .ok (.aload_n 0, 1) := by decide +kernel
theorem dX5_takeNumber_35 : decode cX5_takeNumber 35 = .ok (.invokevirtual 51, 3) := by decide +kernel
theorem dX5_takeNumber_38 : decode cX5_takeNumber 38 = .ok (.iload_n 2, 1) := by decide +kernel
theorem dX5_takeNumber_39 : decode cX5_takeNumber 39 = .ok (.ireturn, 1) := by decide +kernel
theorem bX5_takeNumber_0 {d : Nat} {P : Int → q_Mem → Prop} {M : q_Mem} (x1 : Int) (h : (((M 33 6) = (2 : Int)) → ∀ x2_1 : Int, x2_1 = (M 33 7) → ((x2_1 ≤ x1) → q_kU yX5_advance mX5_advance d [qR 33] M (fun M2 => P x2_1 M2)) ∧ ((¬ (x2_1 ≤ x1)) → q_kI yX5_refuse mX5_refuse d [qR 33, qI 3] M (fun v4 M3 => P (-1) M3))) ∧ ((¬ ((M 33 6) = (2 : Int))) → q_kI yX5_refuse mX5_refuse d [qR 33, qI 2] M (fun v6 M5 => P (-1) M5))) : q_v mX5_takeNumber d (qPI P) M 0 [some (qR 33), some (qI x1), none] [] := by
  refine qr_aload_n 0 1 rfl (x := 33) rfl dX5_takeNumber_0 ?_
  refine qg_i 1 4 rfl ck5 6 (kk := 6) (by decide) (by decide +kernel) (by decide +kernel) rfl wm_134 rfl dX5_takeNumber_1 ?_
  refine qr_iconst 4 5 rfl (q_l32 _ rfl) dX5_takeNumber_4 ?_
  refine qr_icmp_eq 5 8 16 rfl (by decide) dX5_takeNumber_5 (fun c5 => ?_) (fun c5 => ?_)
  · have h := h.1 c5
    refine qr_aload_n 16 17 rfl (x := 33) rfl dX5_takeNumber_16 ?_
    refine qg_i 17 20 rfl ck5 7 (kk := 7) (by decide) (by decide +kernel) (by decide +kernel) rfl wm_135 rfl dX5_takeNumber_17 ?_
    refine qn_i 20 (fun x2_1 e_x2_1 => ?_)
    have h := h x2_1 e_x2_1
    refine qr_istore_n 20 21 rfl (by decide) rfl rfl dX5_takeNumber_20 ?_
    refine qr_iload_n 21 22 rfl (x := x2_1) rfl dX5_takeNumber_21 ?_
    refine qr_iload_n 22 23 rfl (x := x1) rfl dX5_takeNumber_22 ?_
    refine qr_icmp_le 23 26 34 rfl (by decide) dX5_takeNumber_23 (fun c23 => ?_) (fun c23 => ?_)
    · have h := h.1 c23
      refine qr_aload_n 34 35 rfl (x := 33) rfl dX5_takeNumber_34 ?_
      refine qw_U 35 38 rfl (av := []) ca_X5_advance wm_467 wp_1 wm_465 ck5 (by decide +kernel) rfl rfl (Nat.le_of_ble_eq_true rfl) dX5_takeNumber_35 h (fun M2 h => ?_)
      refine qr_iload_n 38 39 rfl (x := x2_1) rfl dX5_takeNumber_38 ?_
      exact qe_i 39 rfl dX5_takeNumber_39 h
    · have h := h.2 c23
      refine qr_aload_n 26 27 rfl (x := 33) rfl dX5_takeNumber_26 ?_
      refine qr_iconst 27 28 rfl (q_l32 _ rfl) dX5_takeNumber_27 ?_
      refine qw_I 28 31 rfl (av := [qI 3]) ca_X5_refuse wm_611 wp_8 wm_609 ck5 (by decide +kernel) rfl rfl (Nat.le_of_ble_eq_true rfl) dX5_takeNumber_28 h (fun v4 M3 h => ?_)
      refine qr_pop 31 32 rfl rfl dX5_takeNumber_31 ?_
      refine qr_iconst 32 33 rfl (q_l32 _ rfl) dX5_takeNumber_32 ?_
      exact qe_i 33 rfl dX5_takeNumber_33 h
  · have h := h.2 c5
    refine qr_aload_n 8 9 rfl (x := 33) rfl dX5_takeNumber_8 ?_
    refine qr_iconst 9 10 rfl (q_l32 _ rfl) dX5_takeNumber_9 ?_
    refine qw_I 10 13 rfl (av := [qI 2]) ca_X5_refuse wm_611 wp_8 wm_609 ck5 (by decide +kernel) rfl rfl (Nat.le_of_ble_eq_true rfl) dX5_takeNumber_10 h (fun v6 M5 h => ?_)
    refine qr_pop 13 14 rfl rfl dX5_takeNumber_13 ?_
    refine qr_iconst 14 15 rfl (q_l32 _ rfl) dX5_takeNumber_14 ?_
    exact qe_i 15 rfl dX5_takeNumber_15 h
theorem dX5_isSign_0 : decode cX5_isSign 0 = .ok (.aload_n 0, 1) := by decide +kernel
theorem dX5_isSign_1 : decode cX5_isSign 1 = .ok (.getfield 58, 3) := by decide +kernel
theorem dX5_isSign_4 : decode cX5_isSign 4 = .ok (.iconst 3, 1) := by decide +kernel
theorem dX5_isSign_5 : decode cX5_isSign 5 = .ok (.if_icmp .ne 15, 3) := by decide +kernel
theorem dX5_isSign_8 : decode cX5_isSign 8 = .ok (.aload_n 0, 1) := by decide +kernel
theorem dX5_isSign_9 : decode cX5_isSign 9 = .ok (.getfield 129, 3) := by decide +kernel
theorem dX5_isSign_12 : decode cX5_isSign 12 = .ok (.iload_n 1, 1) := by decide +kernel
theorem dX5_isSign_13 : decode cX5_isSign 13 = .ok (.if_icmp .ne 7, 3) := by decide +kernel
theorem dX5_isSign_16 : decode cX5_isSign 16 = .ok (.iconst 1, 1) := by decide +kernel
theorem dX5_isSign_17 : decode cX5_isSign 17 = .ok (.goto 4, 3) := by decide +kernel
theorem dX5_isSign_20 : decode cX5_isSign 20 = .ok (.iconst 0, 1) := by decide +kernel
theorem dX5_isSign_21 : decode cX5_isSign 21 = .ok (.ireturn, 1) := by decide +kernel
theorem bX5_isSign_0 {d : Nat} {P : Int → q_Mem → Prop} {M : q_Mem} (x1 : Int) (h : ((¬ (M 33 6) = (3 : Int)) → P 0 M) ∧ (((M 33 6) = (3 : Int)) → ((¬ (M 33 7) = x1) → P 0 M) ∧ (((M 33 7) = x1) → P 1 M))) : q_v mX5_isSign d (qPI P) M 0 [some (qR 33), some (qI x1)] [] := by
  refine qr_aload_n 0 1 rfl (x := 33) rfl dX5_isSign_0 ?_
  refine qg_i 1 4 rfl ck5 6 (kk := 6) (by decide) (by decide +kernel) (by decide +kernel) rfl wm_134 rfl dX5_isSign_1 ?_
  refine qr_iconst 4 5 rfl (q_l32 _ rfl) dX5_isSign_4 ?_
  refine qr_icmp_ne 5 8 20 rfl (by decide) dX5_isSign_5 (fun c5 => ?_) (fun c5 => ?_)
  · have h := h.1 c5
    refine qr_iconst 20 21 rfl (q_l32 _ rfl) dX5_isSign_20 ?_
    exact qe_z 21 rfl (by decide) dX5_isSign_21 h
  · have h := h.2 c5
    refine qr_aload_n 8 9 rfl (x := 33) rfl dX5_isSign_8 ?_
    refine qg_i 9 12 rfl ck5 7 (kk := 7) (by decide) (by decide +kernel) (by decide +kernel) rfl wm_135 rfl dX5_isSign_9 ?_
    refine qr_iload_n 12 13 rfl (x := x1) rfl dX5_isSign_12 ?_
    refine qr_icmp_ne 13 16 20 rfl (by decide) dX5_isSign_13 (fun c13 => ?_) (fun c13 => ?_)
    · have h := h.1 c13
      refine qr_iconst 20 21 rfl (q_l32 _ rfl) dX5_isSign_20 ?_
      exact qe_z 21 rfl (by decide) dX5_isSign_21 h
    · have h := h.2 c13
      refine qr_iconst 16 17 rfl (q_l32 _ rfl) dX5_isSign_16 ?_
      refine qr_goto 17 21 (by decide) dX5_isSign_17 ?_
      exact qe_z 21 rfl (by decide) dX5_isSign_21 h
theorem dX5_isWord_0 : decode cX5_isWord 0 = .ok (.aload_n 0, 1) := by decide +kernel
theorem dX5_isWord_1 : decode cX5_isWord 1 = .ok (.getfield 58, 3) := by decide +kernel
theorem dX5_isWord_4 : decode cX5_isWord 4 = .ok (.iconst 1, 1) := by decide +kernel
theorem dX5_isWord_5 : decode cX5_isWord 5 = .ok (.if_icmp .ne 19, 3) := by decide +kernel
theorem dX5_isWord_8 : decode cX5_isWord 8 = .ok (.aload_n 0, 1) := by decide +kernel
theorem dX5_isWord_9 : decode cX5_isWord 9 = .ok (.getfield 48, 3) := by decide +kernel
theorem dX5_isWord_12 : decode cX5_isWord 12 = .ok (.aload_n 0, 1) := by decide +kernel
theorem dX5_isWord_13 : decode cX5_isWord 13 = .ok (.getfield 209, 3) := by decide +kernel
theorem dX5_isWord_16 : decode cX5_isWord 16 = .ok (.isub, 1) := by decide +kernel
theorem dX5_isWord_17 : decode cX5_isWord 17 = .ok (.aload_n 1, 1) := by decide +kernel
theorem dX5_isWord_18 : decode cX5_isWord 18 = .ok (.invokevirtual 212, 3) := by decide +kernel
theorem dX5_isWord_21 : decode cX5_isWord 21 = .ok (.if_icmp .eq 5, 3) := by decide +kernel
theorem dX5_isWord_24 : decode cX5_isWord 24 = .ok (.iconst 0, 1) := by decide +kernel
theorem dX5_isWord_25 : decode cX5_isWord 25 = .ok (.ireturn, 1) := by decide +kernel
theorem dX5_isWord_26 : decode cX5_isWord 26 = .ok (.iconst 0, 1) := by decide +kernel
theorem dX5_isWord_27 : decode cX5_isWord 27 = .ok (.istore_n 2, 1) := by decide +kernel
theorem dX5_isWord_28 : decode cX5_isWord 28 = .ok (.iload_n 2, 1) := by decide +kernel
theorem dX5_isWord_29 : decode cX5_isWord 29 = .ok (.aload_n 1, 1) := by decide +kernel
theorem dX5_isWord_30 : decode cX5_isWord 30 = .ok (.invokevirtual 212, 3) := by decide +kernel
theorem dX5_isWord_33 : decode cX5_isWord 33 = .ok (.if_icmp .ge 29, 3) := by decide +kernel
theorem dX5_isWord_36 : decode cX5_isWord 36 = .ok (.aload_n 0, 1) := by decide +kernel
theorem dX5_isWord_37 : decode cX5_isWord 37 = .ok (.aload_n 0, 1) := by decide +kernel
theorem dX5_isWord_38 : decode cX5_isWord 38 = .ok (.getfield 209, 3) := by decide +kernel
theorem dX5_isWord_41 : decode cX5_isWord 41 = .ok (.iload_n 2, 1) := by decide +kernel
theorem dX5_isWord_42 : decode cX5_isWord 42 = .ok (.iadd, 1) := by decide +kernel
theorem dX5_isWord_43 : decode cX5_isWord 43 = .ok (.invokevirtual 216, 3) := by decide +kernel
theorem dX5_isWord_46 : decode cX5_isWord 46 = .ok (.aload_n 1, 1) := by decide +kernel
theorem dX5_isWord_47 : decode cX5_isWord 47 = .ok (.iload_n 2, 1) := by decide +kernel
theorem dX5_isWord_48 : decode cX5_isWord 48 = .ok (.invokevirtual 219, 3) := by decide +kernel
theorem dX5_isWord_51 : decode cX5_isWord 51 = .ok (.if_icmp .eq 5, 3) := by decide +kernel
theorem dX5_isWord_54 : decode cX5_isWord 54 = .ok (.iconst 0, 1) := by decide +kernel
theorem dX5_isWord_55 : decode cX5_isWord 55 = .ok (.ireturn, 1) := by decide +kernel
theorem dX5_isWord_56 : decode cX5_isWord 56 = .ok (.iinc 2 1, 3) := by decide +kernel
theorem dX5_isWord_59 : decode cX5_isWord 59 = .ok (.goto (-31), 3) := by decide +kernel
theorem dX5_isWord_62 : decode cX5_isWord 62 = .ok (.iconst 1, 1) := by decide +kernel
theorem dX5_isWord_63 : decode cX5_isWord 63 = .ok (.ireturn, 1) := by decide +kernel
theorem bX5_isWord_0 {d : Nat} {P : Int → q_Mem → Prop} {M : q_Mem} (i1 : Nat) (hi1 : i1 < 22) (h : ((¬ (M 33 6) = (1 : Int)) → P 0 M) ∧ (((M 33 6) = (1 : Int)) → q_kI yJ0_length_8abf5 mJ0_length_8abf5 d [qR (-(i1 : Int) - 1)] M (fun v2 M1 => (((q_sub (M 33 5) (M 33 4)) = v2) → q_v mX5_isWord d (qPI P) M1 28 [some (qR 33), some (qR (-(i1 : Int) - 1)), some (qI 0)] []) ∧ ((¬ ((q_sub (M 33 5) (M 33 4)) = v2)) → P 0 M1)))) : q_v mX5_isWord d (qPI P) M 0 [some (qR 33), some (qR (-(i1 : Int) - 1)), none] [] := by
  refine qr_aload_n 0 1 rfl (x := 33) rfl dX5_isWord_0 ?_
  refine qg_i 1 4 rfl ck5 6 (kk := 6) (by decide) (by decide +kernel) (by decide +kernel) rfl wm_134 rfl dX5_isWord_1 ?_
  refine qr_iconst 4 5 rfl (q_l32 _ rfl) dX5_isWord_4 ?_
  refine qr_icmp_ne 5 8 24 rfl (by decide) dX5_isWord_5 (fun c5 => ?_) (fun c5 => ?_)
  · have h := h.1 c5
    refine qr_iconst 24 25 rfl (q_l32 _ rfl) dX5_isWord_24 ?_
    exact qe_z 25 rfl (by decide) dX5_isWord_25 h
  · have h := h.2 c5
    refine qr_aload_n 8 9 rfl (x := 33) rfl dX5_isWord_8 ?_
    refine qg_i 9 12 rfl ck5 5 (kk := 5) (by decide) (by decide +kernel) (by decide +kernel) rfl wm_133 rfl dX5_isWord_9 ?_
    refine qr_aload_n 12 13 rfl (x := 33) rfl dX5_isWord_12 ?_
    refine qg_i 13 16 rfl ck5 4 (kk := 4) (by decide) (by decide +kernel) (by decide +kernel) rfl wm_132 rfl dX5_isWord_13 ?_
    refine qr_isub 16 17 rfl dX5_isWord_16 ?_
    refine qr_aload_n 17 18 rfl (x := (-(i1 : Int) - 1)) rfl dX5_isWord_17 ?_
    refine qt_I 18 21 rfl i1 hi1 (av := []) ca_J0_length_8abf5 wm_506 wm_507 wm_588 rfl rfl rfl (Nat.le_of_ble_eq_true rfl) dX5_isWord_18 h (fun v2 M1 h => ?_)
    refine qr_icmp_eq 21 24 26 rfl (by decide) dX5_isWord_21 (fun c21 => ?_) (fun c21 => ?_)
    · have h := h.1 c21
      refine qr_iconst 26 27 rfl (q_l32 _ rfl) dX5_isWord_26 ?_
      refine qr_istore_n 27 28 rfl (by decide) rfl rfl dX5_isWord_27 ?_
      exact h
    · have h := h.2 c21
      refine qr_iconst 24 25 rfl (q_l32 _ rfl) dX5_isWord_24 ?_
      exact qe_z 25 rfl (by decide) dX5_isWord_25 h
theorem bX5_isWord_28 {d : Nat} {P : Int → q_Mem → Prop} {M : q_Mem} (x2 : Int) (i1 : Nat) (hi1 : i1 < 22) (h : q_kI yJ0_length_8abf5 mJ0_length_8abf5 d [qR (-(i1 : Int) - 1)] M (fun v2 M1 => ((v2 ≤ x2) → P 1 M1) ∧ ((¬ (v2 ≤ x2)) → q_kI yX5_byteAt mX5_byteAt d [qR 33, qI (q_add (M1 33 4) x2)] M1 (fun v4 M3 => q_kI yJ0_charAt_5068e mJ0_charAt_5068e d [qR (-(i1 : Int) - 1), qI x2] M3 (fun v6 M5 => ((v4 = v6) → q_v mX5_isWord d (qPI P) M5 28 [some (qR 33), some (qR (-(i1 : Int) - 1)), some (qI (q_add x2 1))] []) ∧ ((¬ (v4 = v6)) → P 0 M5)))))) : q_v mX5_isWord d (qPI P) M 28 [some (qR 33), some (qR (-(i1 : Int) - 1)), some (qI x2)] [] := by
  refine qr_iload_n 28 29 rfl (x := x2) rfl dX5_isWord_28 ?_
  refine qr_aload_n 29 30 rfl (x := (-(i1 : Int) - 1)) rfl dX5_isWord_29 ?_
  refine qt_I 30 33 rfl i1 hi1 (av := []) ca_J0_length_8abf5 wm_506 wm_507 wm_588 rfl rfl rfl (Nat.le_of_ble_eq_true rfl) dX5_isWord_30 h (fun v2 M1 h => ?_)
  refine qr_icmp_ge 33 36 62 rfl (by decide) dX5_isWord_33 (fun c33 => ?_) (fun c33 => ?_)
  · have h := h.1 c33
    refine qr_iconst 62 63 rfl (q_l32 _ rfl) dX5_isWord_62 ?_
    exact qe_z 63 rfl (by decide) dX5_isWord_63 h
  · have h := h.2 c33
    refine qr_aload_n 36 37 rfl (x := 33) rfl dX5_isWord_36 ?_
    refine qr_aload_n 37 38 rfl (x := 33) rfl dX5_isWord_37 ?_
    refine qg_i 38 41 rfl ck5 4 (kk := 4) (by decide) (by decide +kernel) (by decide +kernel) rfl wm_132 rfl dX5_isWord_38 ?_
    refine qr_iload_n 41 42 rfl (x := x2) rfl dX5_isWord_41 ?_
    refine qr_iadd 42 43 rfl dX5_isWord_42 ?_
    refine qw_I 43 46 rfl (av := [qI (q_add (M1 33 4) x2)]) ca_X5_byteAt wm_471 wp_2 wm_469 ck5 (by decide +kernel) rfl rfl (Nat.le_of_ble_eq_true rfl) dX5_isWord_43 h (fun v4 M3 h => ?_)
    refine qr_aload_n 46 47 rfl (x := (-(i1 : Int) - 1)) rfl dX5_isWord_46 ?_
    refine qr_iload_n 47 48 rfl (x := x2) rfl dX5_isWord_47 ?_
    refine qt_I 48 51 rfl i1 hi1 (av := [qI x2]) ca_J0_charAt_5068e wm_590 wm_591 wm_589 rfl rfl rfl (Nat.le_of_ble_eq_true rfl) dX5_isWord_48 h (fun v6 M5 h => ?_)
    refine qr_icmp_eq 51 54 56 rfl (by decide) dX5_isWord_51 (fun c51 => ?_) (fun c51 => ?_)
    · have h := h.1 c51
      refine qr_iinc 56 59 rfl (by decide) (x := x2) rfl rfl rfl dX5_isWord_56 ?_
      refine qr_goto 59 28 (by decide) dX5_isWord_59 ?_
      exact h
    · have h := h.2 c51
      refine qr_iconst 54 55 rfl (q_l32 _ rfl) dX5_isWord_54 ?_
      exact qe_z 55 rfl (by decide) dX5_isWord_55 h
theorem dX5_advance_0 : decode cX5_advance 0 = .ok (.aload_n 0, 1) := by decide +kernel
theorem dX5_advance_1 : decode cX5_advance 1 = .ok (.aload_n 0, 1) := by decide +kernel
theorem dX5_advance_2 : decode cX5_advance 2 = .ok (.getfield 48, 3) := by decide +kernel
theorem dX5_advance_5 : decode cX5_advance 5 = .ok (.putfield 209, 3) := by decide +kernel
theorem dX5_advance_8 : decode cX5_advance 8 = .ok (.aload_n 0, 1) := by decide +kernel
theorem dX5_advance_9 : decode cX5_advance 9 = .ok (.getfield 209, 3) := by decide +kernel
theorem dX5_advance_12 : decode cX5_advance 12 = .ok (.aload_n 0, 1) := by decide +kernel
theorem dX5_advance_13 : decode cX5_advance 13 = .ok (.getfield 39, 3) := by decide +kernel
theorem dX5_advance_16 : decode cX5_advance 16 = .ok (.if_icmp .ge 30, 3) := by decide +kernel
theorem dX5_advance_19 : decode cX5_advance 19 = .ok (.aload_n 0, 1) := by decide +kernel
theorem dX5_advance_20 : decode cX5_advance 20 = .ok (.aload_n 0, 1) := by decide +kernel
theorem dX5_advance_21 : decode cX5_advance 21 = .ok (.getfield 209, 3) := by decide +kernel
theorem dX5_advance_24 : decode cX5_advance 24 = .ok (.invokevirtual 216, 3) := by decide +kernel
theorem dX5_advance_27 : decode cX5_advance 27 = .ok (.invokestatic 223, 3) := by decide +kernel
theorem dX5_advance_30 : decode cX5_advance 30 = .ok (.ifCond .eq 16, 3) := by decide +kernel
theorem dX5_advance_33 : decode cX5_advance 33 = .ok (.aload_n 0, 1) := by decide +kernel
theorem dX5_advance_34 : decode cX5_advance 34 = .ok (.dup, 1) := by decide +kernel
theorem dX5_advance_35 : decode cX5_advance 35 = .ok (.getfield 209, 3) := by decide +kernel
theorem dX5_advance_38 : decode cX5_advance 38 = .ok (.iconst 1, 1) := by decide +kernel
theorem dX5_advance_39 : decode cX5_advance 39 = .ok (.iadd, 1) := by decide +kernel
theorem dX5_advance_40 : decode cX5_advance 40 = .ok (.putfield 209, 3) := by decide +kernel
theorem dX5_advance_43 : decode cX5_advance 43 = .ok (.goto (-35), 3) := by decide +kernel
theorem dX5_advance_46 : decode cX5_advance 46 = .ok (.aload_n 0, 1) := by decide +kernel
theorem dX5_advance_47 : decode cX5_advance 47 = .ok (.aload_n 0, 1) := by decide +kernel
theorem dX5_advance_48 : decode cX5_advance 48 = .ok (.getfield 209, 3) := by decide +kernel
theorem dX5_advance_51 : decode cX5_advance 51 = .ok (.putfield 48, 3) := by decide +kernel
theorem dX5_advance_54 : decode cX5_advance 54 = .ok (.aload_n 0, 1) := by decide +kernel
theorem dX5_advance_55 : decode cX5_advance 55 = .ok (.aload_n 0, 1) := by decide +kernel
theorem dX5_advance_56 : decode cX5_advance 56 = .ok (.getfield 209, 3) := by decide +kernel
theorem dX5_advance_59 : decode cX5_advance 59 = .ok (.invokevirtual 216, 3) := by decide +kernel
theorem dX5_advance_62 : decode cX5_advance 62 = .ok (.istore_n 1, 1) := by decide +kernel
theorem dX5_advance_63 : decode cX5_advance 63 = .ok (.iload_n 1, 1) := by decide +kernel
theorem dX5_advance_64 : decode cX5_advance 64 = .ok (.ifCond .ge 11, 3) := by decide +kernel
theorem dX5_advance_67 : decode cX5_advance 67 = .ok (.aload_n 0, 1) := by decide +kernel
theorem dX5_advance_68 : decode cX5_advance 68 = .ok (.iconst 0, 1) := by decide +kernel
theorem dX5_advance_69 : decode cX5_advance 69 = .ok (.putfield 58, 3) := by decide +kernel
theorem dX5_advance_72 : decode cX5_advance 72 = .ok (.goto 65, 3) := by decide +kernel
theorem dX5_advance_75 : decode cX5_advance 75 = .ok (.iload_n 1, 1) := by decide +kernel
theorem dX5_advance_76 : decode cX5_advance 76 = .ok (.invokestatic 226, 3) := by decide +kernel
theorem dX5_advance_79 : decode cX5_advance 79 = .ok (.ifCond .eq 10, 3) := by decide +kernel
theorem dX5_advance_82 : decode cX5_advance 82 = .ok (.aload_n 0, 1) := by decide +kernel
theorem dX5_advance_83 : decode cX5_advance 83 = .ok (.invokevirtual 229, 3) := by decide +kernel
theorem dX5_advance_86 : decode cX5_advance 86 = .ok (.goto 51, 3) := by decide +kernel
theorem dX5_advance_89 : decode cX5_advance 89 = .ok (.iload_n 1, 1) := by decide +kernel
theorem dX5_advance_90 : decode cX5_advance 90 = .ok (.invokestatic 232, 3) := by decide +kernel
theorem dX5_advance_93 : decode cX5_advance 93 = .ok (.ifCond .eq 10, 3) := by decide +kernel
theorem dX5_advance_96 : decode cX5_advance 96 = .ok (.aload_n 0, 1) := by decide +kernel
theorem dX5_advance_97 : decode cX5_advance 97 = .ok (.invokevirtual 235, 3) := by decide +kernel
theorem dX5_advance_100 : decode cX5_advance 100 = .ok (.goto 37, 3) := by decide +kernel
theorem dX5_advance_103 : decode cX5_advance 103 = .ok (.aload_n 0, 1) := by decide +kernel
theorem dX5_advance_104 : decode cX5_advance 104 = .ok (.dup, 1) := by decide +kernel
theorem dX5_advance_105 : decode cX5_advance 105 = .ok (.getfield 48, 3) := by decide +kernel
theorem dX5_advance_108 : decode cX5_advance 108 = .ok (.iconst 1, 1) := by decide +kernel
theorem dX5_advance_109 : decode cX5_advance 109 = .ok (.iadd, 1) := by decide +kernel
theorem dX5_advance_110 : decode cX5_advance 110 = .ok (.putfield 48, 3) := by decide +kernel
theorem dX5_advance_113 : decode cX5_advance 113 = .ok (.aload_n 0, 1) := by decide +kernel
theorem dX5_advance_114 : decode cX5_advance 114 = .ok (.ldc 238, 2) := by decide +kernel
theorem dX5_advance_116 : decode cX5_advance 116 = .ok (.iload_n 1, 1) := by decide +kernel
theorem dX5_advance_117 : decode cX5_advance 117 = .ok (.i2c, 1) := by decide +kernel
theorem dX5_advance_118 : decode cX5_advance 118 = .ok (.invokevirtual 240, 3) := by decide +kernel
theorem dX5_advance_121 : decode cX5_advance 121 = .ok (.ifCond .lt 7, 3) := by decide +kernel
theorem dX5_advance_124 : decode cX5_advance 124 = .ok (.iconst 3, 1) := by decide +kernel
theorem dX5_advance_125 : decode cX5_advance 125 = .ok (.goto 4, 3) := by decide +kernel
theorem dX5_advance_128 : decode cX5_advance 128 = .ok (.iconst 4, 1) := by decide +kernel
theorem dX5_advance_129 : decode cX5_advance 129 = .ok (.putfield 58, 3) := by decide +kernel
theorem dX5_advance_132 : decode cX5_advance 132 = .ok (.aload_n 0, 1) := by decide +kernel
theorem dX5_advance_133 : decode cX5_advance 133 = .ok (.iload_n 1, 1) := by decide +kernel
theorem dX5_advance_134 : decode cX5_advance 134 = .ok (.putfield 129, 3) := by decide +kernel
theorem dX5_advance_137 : decode cX5_advance 137 = .ok (.return_, 1) := by decide +kernel
theorem bX5_advance_0 {d : Nat} {P : q_Mem → Prop} {M : q_Mem} (h : (∀ M1 : q_Mem, M1 = q_up M 33 4 (M 33 5) → q_v mX5_advance d (qPU P) M1 8 [some (qR 33), none] [])) : q_v mX5_advance d (qPU P) M 0 [some (qR 33), none] [] := by
  refine qr_aload_n 0 1 rfl (x := 33) rfl dX5_advance_0 ?_
  refine qr_aload_n 1 2 rfl (x := 33) rfl dX5_advance_1 ?_
  refine qg_i 2 5 rfl ck5 5 (kk := 5) (by decide) (by decide +kernel) (by decide +kernel) rfl wm_133 rfl dX5_advance_2 ?_
  refine qp_i 5 8 rfl ck5 4 (kk := 4) (by decide) (by decide +kernel) (by decide) rfl rfl wm_132 rfl dX5_advance_5 (fun M1 e_M1 => ?_)
  have h := h M1 e_M1
  exact h
theorem bX5_advance_8 {d : Nat} {P : q_Mem → Prop} {M : q_Mem} (h : (((M 33 3) ≤ (M 33 4)) → q_v mX5_advance d (qPU P) M 46 [some (qR 33), none] []) ∧ ((¬ ((M 33 3) ≤ (M 33 4))) → q_kI yX5_byteAt mX5_byteAt d [qR 33, qI (M 33 4)] M (fun v2 M1 => q_kI yX5_isBlank mX5_isBlank d [qI v2] M1 (fun v4 M3 => ((v4 = 0) → q_v mX5_advance d (qPU P) M3 46 [some (qR 33), none] []) ∧ ((¬ (v4 = 0)) → (∀ M5 : q_Mem, M5 = q_up M3 33 4 (q_add (M3 33 4) 1) → q_v mX5_advance d (qPU P) M5 8 [some (qR 33), none] [])))))) : q_v mX5_advance d (qPU P) M 8 [some (qR 33), none] [] := by
  refine qr_aload_n 8 9 rfl (x := 33) rfl dX5_advance_8 ?_
  refine qg_i 9 12 rfl ck5 4 (kk := 4) (by decide) (by decide +kernel) (by decide +kernel) rfl wm_132 rfl dX5_advance_9 ?_
  refine qr_aload_n 12 13 rfl (x := 33) rfl dX5_advance_12 ?_
  refine qg_i 13 16 rfl ck5 3 (kk := 3) (by decide) (by decide +kernel) (by decide +kernel) rfl wm_131 rfl dX5_advance_13 ?_
  refine qr_icmp_ge 16 19 46 rfl (by decide) dX5_advance_16 (fun c16 => ?_) (fun c16 => ?_)
  · have h := h.1 c16
    exact h
  · have h := h.2 c16
    refine qr_aload_n 19 20 rfl (x := 33) rfl dX5_advance_19 ?_
    refine qr_aload_n 20 21 rfl (x := 33) rfl dX5_advance_20 ?_
    refine qg_i 21 24 rfl ck5 4 (kk := 4) (by decide) (by decide +kernel) (by decide +kernel) rfl wm_132 rfl dX5_advance_21 ?_
    refine qw_I 24 27 rfl (av := [qI (M 33 4)]) ca_X5_byteAt wm_471 wp_2 wm_469 ck5 (by decide +kernel) rfl rfl (Nat.le_of_ble_eq_true rfl) dX5_advance_24 h (fun v2 M1 h => ?_)
    refine qs_I 27 30 rfl (av := [qI v2]) ca_X5_isBlank wm_474 wm_473 rfl rfl (Nat.le_of_ble_eq_true rfl) dX5_advance_27 h (fun v4 M3 h => ?_)
    refine qr_if_eq 30 33 46 rfl (by decide) dX5_advance_30 (fun c30 => ?_) (fun c30 => ?_)
    · have h := h.1 c30
      exact h
    · have h := h.2 c30
      refine qr_aload_n 33 34 rfl (x := 33) rfl dX5_advance_33 ?_
      refine qr_dup 34 35 rfl rfl dX5_advance_34 ?_
      refine qg_i 35 38 rfl ck5 4 (kk := 4) (by decide) (by decide +kernel) (by decide +kernel) rfl wm_132 rfl dX5_advance_35 ?_
      refine qr_iconst 38 39 rfl (q_l32 _ rfl) dX5_advance_38 ?_
      refine qr_iadd 39 40 rfl dX5_advance_39 ?_
      refine qp_i 40 43 rfl ck5 4 (kk := 4) (by decide) (by decide +kernel) (by decide) rfl rfl wm_132 rfl dX5_advance_40 (fun M5 e_M5 => ?_)
      have h := h M5 e_M5
      refine qr_goto 43 8 (by decide) dX5_advance_43 ?_
      exact h
theorem bX5_advance_46 {d : Nat} {P : q_Mem → Prop} {M : q_Mem} (h : (∀ M1 : q_Mem, M1 = q_up M 33 5 (M 33 4) → q_kI yX5_byteAt mX5_byteAt d [qR 33, qI (M1 33 4)] M1 (fun v3 M2 => ((0 ≤ v3) → q_kI yX5_isLetter mX5_isLetter d [qI v3] M2 (fun v5 M4 => ((v5 = 0) → q_kI yX5_isDigit mX5_isDigit d [qI v3] M4 (fun v7 M6 => ((v7 = 0) → (∀ M8 : q_Mem, M8 = q_up M6 33 5 (q_add (M6 33 5) 1) → q_kI yJ0_indexOf_0f7a4 mJ0_indexOf_0f7a4 d [qR (-((19 : Nat) : Int) - 1), qI (q_i2c v3)] M8 (fun v10 M9 => ((v10 < 0) → (∀ M11 : q_Mem, M11 = q_up M9 33 6 4 → (∀ M12 : q_Mem, M12 = q_up M11 33 7 v3 → P M12))) ∧ ((¬ (v10 < 0)) → (∀ M13 : q_Mem, M13 = q_up M9 33 6 3 → (∀ M14 : q_Mem, M14 = q_up M13 33 7 v3 → P M14)))))) ∧ ((¬ (v7 = 0)) → q_kU yX5_passNumber mX5_passNumber d [qR 33] M6 (fun M15 => P M15)))) ∧ ((¬ (v5 = 0)) → q_kU yX5_passWord mX5_passWord d [qR 33] M4 (fun M16 => P M16)))) ∧ ((¬ (0 ≤ v3)) → (∀ M17 : q_Mem, M17 = q_up M2 33 6 0 → P M17))))) : q_v mX5_advance d (qPU P) M 46 [some (qR 33), none] [] := by
  refine qr_aload_n 46 47 rfl (x := 33) rfl dX5_advance_46 ?_
  refine qr_aload_n 47 48 rfl (x := 33) rfl dX5_advance_47 ?_
  refine qg_i 48 51 rfl ck5 4 (kk := 4) (by decide) (by decide +kernel) (by decide +kernel) rfl wm_132 rfl dX5_advance_48 ?_
  refine qp_i 51 54 rfl ck5 5 (kk := 5) (by decide) (by decide +kernel) (by decide) rfl rfl wm_133 rfl dX5_advance_51 (fun M1 e_M1 => ?_)
  have h := h M1 e_M1
  refine qr_aload_n 54 55 rfl (x := 33) rfl dX5_advance_54 ?_
  refine qr_aload_n 55 56 rfl (x := 33) rfl dX5_advance_55 ?_
  refine qg_i 56 59 rfl ck5 4 (kk := 4) (by decide) (by decide +kernel) (by decide +kernel) rfl wm_132 rfl dX5_advance_56 ?_
  refine qw_I 59 62 rfl (av := [qI (M1 33 4)]) ca_X5_byteAt wm_471 wp_2 wm_469 ck5 (by decide +kernel) rfl rfl (Nat.le_of_ble_eq_true rfl) dX5_advance_59 h (fun v3 M2 h => ?_)
  refine qr_istore_n 62 63 rfl (by decide) rfl rfl dX5_advance_62 ?_
  refine qr_iload_n 63 64 rfl (x := v3) rfl dX5_advance_63 ?_
  refine qr_if_ge 64 67 75 rfl (by decide) dX5_advance_64 (fun c64 => ?_) (fun c64 => ?_)
  · have h := h.1 c64
    refine qr_iload_n 75 76 rfl (x := v3) rfl dX5_advance_75 ?_
    refine qs_I 76 79 rfl (av := [qI v3]) ca_X5_isLetter wm_477 wm_476 rfl rfl (Nat.le_of_ble_eq_true rfl) dX5_advance_76 h (fun v5 M4 h => ?_)
    refine qr_if_eq 79 82 89 rfl (by decide) dX5_advance_79 (fun c79 => ?_) (fun c79 => ?_)
    · have h := h.1 c79
      refine qr_iload_n 89 90 rfl (x := v3) rfl dX5_advance_89 ?_
      refine qs_I 90 93 rfl (av := [qI v3]) ca_X5_isDigit wm_484 wm_483 rfl rfl (Nat.le_of_ble_eq_true rfl) dX5_advance_90 h (fun v7 M6 h => ?_)
      refine qr_if_eq 93 96 103 rfl (by decide) dX5_advance_93 (fun c93 => ?_) (fun c93 => ?_)
      · have h := h.1 c93
        refine qr_aload_n 103 104 rfl (x := 33) rfl dX5_advance_103 ?_
        refine qr_dup 104 105 rfl rfl dX5_advance_104 ?_
        refine qg_i 105 108 rfl ck5 5 (kk := 5) (by decide) (by decide +kernel) (by decide +kernel) rfl wm_133 rfl dX5_advance_105 ?_
        refine qr_iconst 108 109 rfl (q_l32 _ rfl) dX5_advance_108 ?_
        refine qr_iadd 109 110 rfl dX5_advance_109 ?_
        refine qp_i 110 113 rfl ck5 5 (kk := 5) (by decide) (by decide +kernel) (by decide) rfl rfl wm_133 rfl dX5_advance_110 (fun M8 e_M8 => ?_)
        have h := h M8 e_M8
        refine qr_aload_n 113 114 rfl (x := 33) rfl dX5_advance_113 ?_
        refine qr_ldcS 114 116 rfl 19 (by decide) rfl rfl rfl dX5_advance_114 ?_
        refine qr_iload_n 116 117 rfl (x := v3) rfl dX5_advance_116 ?_
        refine qr_i2c 117 118 rfl dX5_advance_117 ?_
        refine qt_I 118 121 rfl (19 : Nat) (by decide) (av := [qI (q_i2c v3)]) ca_J0_indexOf_0f7a4 wm_492 wm_493 wm_491 rfl rfl rfl (Nat.le_of_ble_eq_true rfl) dX5_advance_118 h (fun v10 M9 h => ?_)
        refine qr_if_lt 121 124 128 rfl (by decide) dX5_advance_121 (fun c121 => ?_) (fun c121 => ?_)
        · have h := h.1 c121
          refine qr_iconst 128 129 rfl (q_l32 _ rfl) dX5_advance_128 ?_
          refine qp_i 129 132 rfl ck5 6 (kk := 6) (by decide) (by decide +kernel) (by decide) rfl rfl wm_134 rfl dX5_advance_129 (fun M11 e_M11 => ?_)
          have h := h M11 e_M11
          refine qr_aload_n 132 133 rfl (x := 33) rfl dX5_advance_132 ?_
          refine qr_iload_n 133 134 rfl (x := v3) rfl dX5_advance_133 ?_
          refine qp_i 134 137 rfl ck5 7 (kk := 7) (by decide) (by decide +kernel) (by decide) rfl rfl wm_135 rfl dX5_advance_134 (fun M12 e_M12 => ?_)
          have h := h M12 e_M12
          exact qe_u 137 rfl dX5_advance_137 h
        · have h := h.2 c121
          refine qr_iconst 124 125 rfl (q_l32 _ rfl) dX5_advance_124 ?_
          refine qr_goto 125 129 (by decide) dX5_advance_125 ?_
          refine qp_i 129 132 rfl ck5 6 (kk := 6) (by decide) (by decide +kernel) (by decide) rfl rfl wm_134 rfl dX5_advance_129 (fun M13 e_M13 => ?_)
          have h := h M13 e_M13
          refine qr_aload_n 132 133 rfl (x := 33) rfl dX5_advance_132 ?_
          refine qr_iload_n 133 134 rfl (x := v3) rfl dX5_advance_133 ?_
          refine qp_i 134 137 rfl ck5 7 (kk := 7) (by decide) (by decide +kernel) (by decide) rfl rfl wm_135 rfl dX5_advance_134 (fun M14 e_M14 => ?_)
          have h := h M14 e_M14
          exact qe_u 137 rfl dX5_advance_137 h
      · have h := h.2 c93
        refine qr_aload_n 96 97 rfl (x := 33) rfl dX5_advance_96 ?_
        refine qw_U 97 100 rfl (av := []) ca_X5_passNumber wm_488 wp_4 wm_486 ck5 (by decide +kernel) rfl rfl (Nat.le_of_ble_eq_true rfl) dX5_advance_97 h (fun M15 h => ?_)
        refine qr_goto 100 137 (by decide) dX5_advance_100 ?_
        exact qe_u 137 rfl dX5_advance_137 h
    · have h := h.2 c79
      refine qr_aload_n 82 83 rfl (x := 33) rfl dX5_advance_82 ?_
      refine qw_U 83 86 rfl (av := []) ca_X5_passWord wm_481 wp_3 wm_479 ck5 (by decide +kernel) rfl rfl (Nat.le_of_ble_eq_true rfl) dX5_advance_83 h (fun M16 h => ?_)
      refine qr_goto 86 137 (by decide) dX5_advance_86 ?_
      exact qe_u 137 rfl dX5_advance_137 h
  · have h := h.2 c64
    refine qr_aload_n 67 68 rfl (x := 33) rfl dX5_advance_67 ?_
    refine qr_iconst 68 69 rfl (q_l32 _ rfl) dX5_advance_68 ?_
    refine qp_i 69 72 rfl ck5 6 (kk := 6) (by decide) (by decide +kernel) (by decide) rfl rfl wm_134 rfl dX5_advance_69 (fun M17 e_M17 => ?_)
    have h := h M17 e_M17
    refine qr_goto 72 137 (by decide) dX5_advance_72 ?_
    exact qe_u 137 rfl dX5_advance_137 h
theorem dX5_passWord_0 : decode cX5_passWord 0 = .ok (.aload_n 0, 1) := by decide +kernel
theorem dX5_passWord_1 : decode cX5_passWord 1 = .ok (.iconst 1, 1) := by decide +kernel
theorem dX5_passWord_2 : decode cX5_passWord 2 = .ok (.putfield 58, 3) := by decide +kernel
theorem dX5_passWord_5 : decode cX5_passWord 5 = .ok (.aload_n 0, 1) := by decide +kernel
theorem dX5_passWord_6 : decode cX5_passWord 6 = .ok (.getfield 48, 3) := by decide +kernel
theorem dX5_passWord_9 : decode cX5_passWord 9 = .ok (.aload_n 0, 1) := by decide +kernel
theorem dX5_passWord_10 : decode cX5_passWord 10 = .ok (.getfield 39, 3) := by decide +kernel
theorem dX5_passWord_13 : decode cX5_passWord 13 = .ok (.if_icmp .ge 30, 3) := by decide +kernel
theorem dX5_passWord_16 : decode cX5_passWord 16 = .ok (.aload_n 0, 1) := by decide +kernel
theorem dX5_passWord_17 : decode cX5_passWord 17 = .ok (.aload_n 0, 1) := by decide +kernel
theorem dX5_passWord_18 : decode cX5_passWord 18 = .ok (.getfield 48, 3) := by decide +kernel
theorem dX5_passWord_21 : decode cX5_passWord 21 = .ok (.invokevirtual 216, 3) := by decide +kernel
theorem dX5_passWord_24 : decode cX5_passWord 24 = .ok (.invokestatic 226, 3) := by decide +kernel
theorem dX5_passWord_27 : decode cX5_passWord 27 = .ok (.ifCond .eq 16, 3) := by decide +kernel
theorem dX5_passWord_30 : decode cX5_passWord 30 = .ok (.aload_n 0, 1) := by decide +kernel
theorem dX5_passWord_31 : decode cX5_passWord 31 = .ok (.dup, 1) := by decide +kernel
theorem dX5_passWord_32 : decode cX5_passWord 32 = .ok (.getfield 48, 3) := by decide +kernel
theorem dX5_passWord_35 : decode cX5_passWord 35 = .ok (.iconst 1, 1) := by decide +kernel
theorem dX5_passWord_36 : decode cX5_passWord 36 = .ok (.iadd, 1) := by decide +kernel
theorem dX5_passWord_37 : decode cX5_passWord 37 = .ok (.putfield 48, 3) := by decide +kernel
theorem dX5_passWord_40 : decode cX5_passWord 40 = .ok (.goto (-35), 3) := by decide +kernel
theorem dX5_passWord_43 : decode cX5_passWord 43 = .ok (.return_, 1) := by decide +kernel
theorem bX5_passWord_0 {d : Nat} {P : q_Mem → Prop} {M : q_Mem} (h : (∀ M1 : q_Mem, M1 = q_up M 33 6 1 → q_v mX5_passWord d (qPU P) M1 5 [some (qR 33)] [])) : q_v mX5_passWord d (qPU P) M 0 [some (qR 33)] [] := by
  refine qr_aload_n 0 1 rfl (x := 33) rfl dX5_passWord_0 ?_
  refine qr_iconst 1 2 rfl (q_l32 _ rfl) dX5_passWord_1 ?_
  refine qp_i 2 5 rfl ck5 6 (kk := 6) (by decide) (by decide +kernel) (by decide) rfl rfl wm_134 rfl dX5_passWord_2 (fun M1 e_M1 => ?_)
  have h := h M1 e_M1
  exact h
theorem bX5_passWord_5 {d : Nat} {P : q_Mem → Prop} {M : q_Mem} (h : (((M 33 3) ≤ (M 33 5)) → P M) ∧ ((¬ ((M 33 3) ≤ (M 33 5))) → q_kI yX5_byteAt mX5_byteAt d [qR 33, qI (M 33 5)] M (fun v2 M1 => q_kI yX5_isLetter mX5_isLetter d [qI v2] M1 (fun v4 M3 => ((v4 = 0) → P M3) ∧ ((¬ (v4 = 0)) → (∀ M5 : q_Mem, M5 = q_up M3 33 5 (q_add (M3 33 5) 1) → q_v mX5_passWord d (qPU P) M5 5 [some (qR 33)] [])))))) : q_v mX5_passWord d (qPU P) M 5 [some (qR 33)] [] := by
  refine qr_aload_n 5 6 rfl (x := 33) rfl dX5_passWord_5 ?_
  refine qg_i 6 9 rfl ck5 5 (kk := 5) (by decide) (by decide +kernel) (by decide +kernel) rfl wm_133 rfl dX5_passWord_6 ?_
  refine qr_aload_n 9 10 rfl (x := 33) rfl dX5_passWord_9 ?_
  refine qg_i 10 13 rfl ck5 3 (kk := 3) (by decide) (by decide +kernel) (by decide +kernel) rfl wm_131 rfl dX5_passWord_10 ?_
  refine qr_icmp_ge 13 16 43 rfl (by decide) dX5_passWord_13 (fun c13 => ?_) (fun c13 => ?_)
  · have h := h.1 c13
    exact qe_u 43 rfl dX5_passWord_43 h
  · have h := h.2 c13
    refine qr_aload_n 16 17 rfl (x := 33) rfl dX5_passWord_16 ?_
    refine qr_aload_n 17 18 rfl (x := 33) rfl dX5_passWord_17 ?_
    refine qg_i 18 21 rfl ck5 5 (kk := 5) (by decide) (by decide +kernel) (by decide +kernel) rfl wm_133 rfl dX5_passWord_18 ?_
    refine qw_I 21 24 rfl (av := [qI (M 33 5)]) ca_X5_byteAt wm_471 wp_2 wm_469 ck5 (by decide +kernel) rfl rfl (Nat.le_of_ble_eq_true rfl) dX5_passWord_21 h (fun v2 M1 h => ?_)
    refine qs_I 24 27 rfl (av := [qI v2]) ca_X5_isLetter wm_477 wm_476 rfl rfl (Nat.le_of_ble_eq_true rfl) dX5_passWord_24 h (fun v4 M3 h => ?_)
    refine qr_if_eq 27 30 43 rfl (by decide) dX5_passWord_27 (fun c27 => ?_) (fun c27 => ?_)
    · have h := h.1 c27
      exact qe_u 43 rfl dX5_passWord_43 h
    · have h := h.2 c27
      refine qr_aload_n 30 31 rfl (x := 33) rfl dX5_passWord_30 ?_
      refine qr_dup 31 32 rfl rfl dX5_passWord_31 ?_
      refine qg_i 32 35 rfl ck5 5 (kk := 5) (by decide) (by decide +kernel) (by decide +kernel) rfl wm_133 rfl dX5_passWord_32 ?_
      refine qr_iconst 35 36 rfl (q_l32 _ rfl) dX5_passWord_35 ?_
      refine qr_iadd 36 37 rfl dX5_passWord_36 ?_
      refine qp_i 37 40 rfl ck5 5 (kk := 5) (by decide) (by decide +kernel) (by decide) rfl rfl wm_133 rfl dX5_passWord_37 (fun M5 e_M5 => ?_)
      have h := h M5 e_M5
      refine qr_goto 40 5 (by decide) dX5_passWord_40 ?_
      exact h
theorem dX5_passNumber_0 : decode cX5_passNumber 0 = .ok (.aload_n 0, 1) := by decide +kernel
theorem dX5_passNumber_1 : decode cX5_passNumber 1 = .ok (.iconst 0, 1) := by decide +kernel
theorem dX5_passNumber_2 : decode cX5_passNumber 2 = .ok (.putfield 129, 3) := by decide +kernel
theorem dX5_passNumber_5 : decode cX5_passNumber 5 = .ok (.aload_n 0, 1) := by decide +kernel
theorem dX5_passNumber_6 : decode cX5_passNumber 6 = .ok (.getfield 48, 3) := by decide +kernel
theorem dX5_passNumber_9 : decode cX5_passNumber 9 = .ok (.aload_n 0, 1) := by decide +kernel
theorem dX5_passNumber_10 : decode cX5_passNumber 10 = .ok (.getfield 39, 3) := by decide +kernel
theorem dX5_passNumber_13 : decode cX5_passNumber 13 = .ok (.if_icmp .ge 66, 3) := by decide +kernel
theorem dX5_passNumber_16 : decode cX5_passNumber 16 = .ok (.aload_n 0, 1) := by decide +kernel
theorem dX5_passNumber_17 : decode cX5_passNumber 17 = .ok (.aload_n 0, 1) := by decide +kernel
theorem dX5_passNumber_18 : decode cX5_passNumber 18 = .ok (.getfield 48, 3) := by decide +kernel
theorem dX5_passNumber_21 : decode cX5_passNumber 21 = .ok (.invokevirtual 216, 3) := by decide +kernel
theorem dX5_passNumber_24 : decode cX5_passNumber 24 = .ok (.invokestatic 232, 3) := by decide +kernel
theorem dX5_passNumber_27 : decode cX5_passNumber 27 = .ok (.ifCond .eq 52, 3) := by decide +kernel
theorem dX5_passNumber_30 : decode cX5_passNumber 30 = .ok (.aload_n 0, 1) := by decide +kernel
theorem dX5_passNumber_31 : decode cX5_passNumber 31 = .ok (.getfield 48, 3) := by decide +kernel
theorem dX5_passNumber_34 : decode cX5_passNumber 34 = .ok (.aload_n 0, 1) := by decide +kernel
theorem dX5_passNumber_35 : decode cX5_passNumber 35 = .ok (.getfield 209, 3) := by decide +kernel
theorem dX5_passNumber_38 : decode cX5_passNumber 38 = .ok (.isub, 1) := by decide +kernel
theorem dX5_passNumber_39 : decode cX5_passNumber 39 = .ok (.iconst 3, 1) := by decide +kernel
theorem dX5_passNumber_40 : decode cX5_passNumber 40 = .ok (.if_icmp .ge 26, 3) := by decide +kernel
theorem dX5_passNumber_43 : decode cX5_passNumber 43 = .ok (.aload_n 0, 1) := by decide +kernel
theorem dX5_passNumber_44 : decode cX5_passNumber 44 = .ok (.aload_n 0, 1) := by decide +kernel
theorem dX5_passNumber_45 : decode cX5_passNumber 45 = .ok (.getfield 129, 3) := by decide +kernel
theorem dX5_passNumber_48 : decode cX5_passNumber 48 = .ok (.bipush 10, 2) := by decide +kernel
theorem dX5_passNumber_50 : decode cX5_passNumber 50 = .ok (.imul, 1) := by decide +kernel
theorem dX5_passNumber_51 : decode cX5_passNumber 51 = .ok (.aload_n 0, 1) := by decide +kernel
theorem dX5_passNumber_52 : decode cX5_passNumber 52 = .ok (.aload_n 0, 1) := by decide +kernel
theorem dX5_passNumber_53 : decode cX5_passNumber 53 = .ok (.getfield 48, 3) := by decide +kernel
theorem dX5_passNumber_56 : decode cX5_passNumber 56 = .ok (.invokevirtual 216, 3) := by decide +kernel
theorem dX5_passNumber_59 : decode cX5_passNumber 59 = .ok (.iadd, 1) := by decide +kernel
theorem dX5_passNumber_60 : decode cX5_passNumber 60 = .ok (.bipush 48, 2) := by decide +kernel
theorem dX5_passNumber_62 : decode cX5_passNumber 62 = .ok (.isub, 1) := by decide +kernel
theorem dX5_passNumber_63 : decode cX5_passNumber 63 = .ok (.putfield 129, 3) := by decide +kernel
theorem dX5_passNumber_66 : decode cX5_passNumber 66 = .ok (.aload_n 0, 1) := by decide +kernel
theorem dX5_passNumber_67 : decode cX5_passNumber 67 = .ok (.dup, 1) := by decide +kernel
theorem dX5_passNumber_68 : decode cX5_passNumber 68 = .ok (.getfield 48, 3) := by decide +kernel
theorem dX5_passNumber_71 : decode cX5_passNumber 71 = .ok (.iconst 1, 1) := by decide +kernel
theorem dX5_passNumber_72 : decode cX5_passNumber 72 = .ok (.iadd, 1) := by decide +kernel
theorem dX5_passNumber_73 : decode cX5_passNumber 73 = .ok (.putfield 48, 3) := by decide +kernel
theorem dX5_passNumber_76 : decode cX5_passNumber 76 = .ok (.goto (-71), 3) := by decide +kernel
theorem dX5_passNumber_79 : decode cX5_passNumber 79 = .ok (.aload_n 0, 1) := by decide +kernel
theorem dX5_passNumber_80 : decode cX5_passNumber 80 = .ok (.aload_n 0, 1) := by decide +kernel
theorem dX5_passNumber_81 : decode cX5_passNumber 81 = .ok (.getfield 48, 3) := by decide +kernel
theorem dX5_passNumber_84 : decode cX5_passNumber 84 = .ok (.aload_n 0, 1) := by decide +kernel
theorem dX5_passNumber_85 : decode cX5_passNumber 85 = .ok (.getfield 209, 3) := by decide +kernel
theorem dX5_passNumber_88 : decode cX5_passNumber 88 = .ok (.isub, 1) := by decide +kernel
theorem dX5_passNumber_89 : decode cX5_passNumber 89 = .ok (.iconst 3, 1) := by decide +kernel
theorem dX5_passNumber_90 : decode cX5_passNumber 90 = .ok (.if_icmp .le 7, 3) := by decide +kernel
theorem dX5_passNumber_93 : decode cX5_passNumber 93 = .ok (.iconst 4, 1) := by decide +kernel
theorem dX5_passNumber_94 : decode cX5_passNumber 94 = .ok (.goto 4, 3) := by decide +kernel
theorem dX5_passNumber_97 : decode cX5_passNumber 97 = .ok (.iconst 2, 1) := by decide +kernel
theorem dX5_passNumber_98 : decode cX5_passNumber 98 = .ok (.putfield 58, 3) := by decide +kernel
theorem dX5_passNumber_101 : decode cX5_passNumber 101 = .ok (.return_, 1) := by decide +kernel
theorem bX5_passNumber_0 {d : Nat} {P : q_Mem → Prop} {M : q_Mem} (h : (∀ M1 : q_Mem, M1 = q_up M 33 7 0 → q_v mX5_passNumber d (qPU P) M1 5 [some (qR 33)] [])) : q_v mX5_passNumber d (qPU P) M 0 [some (qR 33)] [] := by
  refine qr_aload_n 0 1 rfl (x := 33) rfl dX5_passNumber_0 ?_
  refine qr_iconst 1 2 rfl (q_l32 _ rfl) dX5_passNumber_1 ?_
  refine qp_i 2 5 rfl ck5 7 (kk := 7) (by decide) (by decide +kernel) (by decide) rfl rfl wm_135 rfl dX5_passNumber_2 (fun M1 e_M1 => ?_)
  have h := h M1 e_M1
  exact h
theorem bX5_passNumber_5 {d : Nat} {P : q_Mem → Prop} {M : q_Mem} (h : (((M 33 3) ≤ (M 33 5)) → q_v mX5_passNumber d (qPU P) M 79 [some (qR 33)] []) ∧ ((¬ ((M 33 3) ≤ (M 33 5))) → q_kI yX5_byteAt mX5_byteAt d [qR 33, qI (M 33 5)] M (fun v2 M1 => q_kI yX5_isDigit mX5_isDigit d [qI v2] M1 (fun v4 M3 => ((v4 = 0) → q_v mX5_passNumber d (qPU P) M3 79 [some (qR 33)] []) ∧ ((¬ (v4 = 0)) → (((3 : Int) ≤ (q_sub (M3 33 5) (M3 33 4))) → (∀ M5 : q_Mem, M5 = q_up M3 33 5 (q_add (M3 33 5) 1) → q_v mX5_passNumber d (qPU P) M5 5 [some (qR 33)] [])) ∧ ((¬ ((3 : Int) ≤ (q_sub (M3 33 5) (M3 33 4)))) → q_kI yX5_byteAt mX5_byteAt d [qR 33, qI (M3 33 5)] M3 (fun v7 M6 => (∀ M8 : q_Mem, M8 = q_up M6 33 7 (q_sub (q_add (q_mul (M3 33 7) 10) v7) 48) → (∀ M9 : q_Mem, M9 = q_up M8 33 5 (q_add (M8 33 5) 1) → q_v mX5_passNumber d (qPU P) M9 5 [some (qR 33)] []))))))))) : q_v mX5_passNumber d (qPU P) M 5 [some (qR 33)] [] := by
  refine qr_aload_n 5 6 rfl (x := 33) rfl dX5_passNumber_5 ?_
  refine qg_i 6 9 rfl ck5 5 (kk := 5) (by decide) (by decide +kernel) (by decide +kernel) rfl wm_133 rfl dX5_passNumber_6 ?_
  refine qr_aload_n 9 10 rfl (x := 33) rfl dX5_passNumber_9 ?_
  refine qg_i 10 13 rfl ck5 3 (kk := 3) (by decide) (by decide +kernel) (by decide +kernel) rfl wm_131 rfl dX5_passNumber_10 ?_
  refine qr_icmp_ge 13 16 79 rfl (by decide) dX5_passNumber_13 (fun c13 => ?_) (fun c13 => ?_)
  · have h := h.1 c13
    exact h
  · have h := h.2 c13
    refine qr_aload_n 16 17 rfl (x := 33) rfl dX5_passNumber_16 ?_
    refine qr_aload_n 17 18 rfl (x := 33) rfl dX5_passNumber_17 ?_
    refine qg_i 18 21 rfl ck5 5 (kk := 5) (by decide) (by decide +kernel) (by decide +kernel) rfl wm_133 rfl dX5_passNumber_18 ?_
    refine qw_I 21 24 rfl (av := [qI (M 33 5)]) ca_X5_byteAt wm_471 wp_2 wm_469 ck5 (by decide +kernel) rfl rfl (Nat.le_of_ble_eq_true rfl) dX5_passNumber_21 h (fun v2 M1 h => ?_)
    refine qs_I 24 27 rfl (av := [qI v2]) ca_X5_isDigit wm_484 wm_483 rfl rfl (Nat.le_of_ble_eq_true rfl) dX5_passNumber_24 h (fun v4 M3 h => ?_)
    refine qr_if_eq 27 30 79 rfl (by decide) dX5_passNumber_27 (fun c27 => ?_) (fun c27 => ?_)
    · have h := h.1 c27
      exact h
    · have h := h.2 c27
      refine qr_aload_n 30 31 rfl (x := 33) rfl dX5_passNumber_30 ?_
      refine qg_i 31 34 rfl ck5 5 (kk := 5) (by decide) (by decide +kernel) (by decide +kernel) rfl wm_133 rfl dX5_passNumber_31 ?_
      refine qr_aload_n 34 35 rfl (x := 33) rfl dX5_passNumber_34 ?_
      refine qg_i 35 38 rfl ck5 4 (kk := 4) (by decide) (by decide +kernel) (by decide +kernel) rfl wm_132 rfl dX5_passNumber_35 ?_
      refine qr_isub 38 39 rfl dX5_passNumber_38 ?_
      refine qr_iconst 39 40 rfl (q_l32 _ rfl) dX5_passNumber_39 ?_
      refine qr_icmp_ge 40 43 66 rfl (by decide) dX5_passNumber_40 (fun c40 => ?_) (fun c40 => ?_)
      · have h := h.1 c40
        refine qr_aload_n 66 67 rfl (x := 33) rfl dX5_passNumber_66 ?_
        refine qr_dup 67 68 rfl rfl dX5_passNumber_67 ?_
        refine qg_i 68 71 rfl ck5 5 (kk := 5) (by decide) (by decide +kernel) (by decide +kernel) rfl wm_133 rfl dX5_passNumber_68 ?_
        refine qr_iconst 71 72 rfl (q_l32 _ rfl) dX5_passNumber_71 ?_
        refine qr_iadd 72 73 rfl dX5_passNumber_72 ?_
        refine qp_i 73 76 rfl ck5 5 (kk := 5) (by decide) (by decide +kernel) (by decide) rfl rfl wm_133 rfl dX5_passNumber_73 (fun M5 e_M5 => ?_)
        have h := h M5 e_M5
        refine qr_goto 76 5 (by decide) dX5_passNumber_76 ?_
        exact h
      · have h := h.2 c40
        refine qr_aload_n 43 44 rfl (x := 33) rfl dX5_passNumber_43 ?_
        refine qr_aload_n 44 45 rfl (x := 33) rfl dX5_passNumber_44 ?_
        refine qg_i 45 48 rfl ck5 7 (kk := 7) (by decide) (by decide +kernel) (by decide +kernel) rfl wm_135 rfl dX5_passNumber_45 ?_
        refine qr_bipush 48 50 rfl (q_l32 _ rfl) (by decide) dX5_passNumber_48 ?_
        refine qr_imul 50 51 rfl dX5_passNumber_50 ?_
        refine qr_aload_n 51 52 rfl (x := 33) rfl dX5_passNumber_51 ?_
        refine qr_aload_n 52 53 rfl (x := 33) rfl dX5_passNumber_52 ?_
        refine qg_i 53 56 rfl ck5 5 (kk := 5) (by decide) (by decide +kernel) (by decide +kernel) rfl wm_133 rfl dX5_passNumber_53 ?_
        refine qw_I 56 59 rfl (av := [qI (M3 33 5)]) ca_X5_byteAt wm_471 wp_2 wm_469 ck5 (by decide +kernel) rfl rfl (Nat.le_of_ble_eq_true rfl) dX5_passNumber_56 h (fun v7 M6 h => ?_)
        refine qr_iadd 59 60 rfl dX5_passNumber_59 ?_
        refine qr_bipush 60 62 rfl (q_l32 _ rfl) (by decide) dX5_passNumber_60 ?_
        refine qr_isub 62 63 rfl dX5_passNumber_62 ?_
        refine qp_i 63 66 rfl ck5 7 (kk := 7) (by decide) (by decide +kernel) (by decide) rfl rfl wm_135 rfl dX5_passNumber_63 (fun M8 e_M8 => ?_)
        have h := h M8 e_M8
        refine qr_aload_n 66 67 rfl (x := 33) rfl dX5_passNumber_66 ?_
        refine qr_dup 67 68 rfl rfl dX5_passNumber_67 ?_
        refine qg_i 68 71 rfl ck5 5 (kk := 5) (by decide) (by decide +kernel) (by decide +kernel) rfl wm_133 rfl dX5_passNumber_68 ?_
        refine qr_iconst 71 72 rfl (q_l32 _ rfl) dX5_passNumber_71 ?_
        refine qr_iadd 72 73 rfl dX5_passNumber_72 ?_
        refine qp_i 73 76 rfl ck5 5 (kk := 5) (by decide) (by decide +kernel) (by decide) rfl rfl wm_133 rfl dX5_passNumber_73 (fun M9 e_M9 => ?_)
        have h := h M9 e_M9
        refine qr_goto 76 5 (by decide) dX5_passNumber_76 ?_
        exact h
theorem bX5_passNumber_79 {d : Nat} {P : q_Mem → Prop} {M : q_Mem} (h : (((q_sub (M 33 5) (M 33 4)) ≤ (3 : Int)) → (∀ M1 : q_Mem, M1 = q_up M 33 6 2 → P M1)) ∧ ((¬ ((q_sub (M 33 5) (M 33 4)) ≤ (3 : Int))) → (∀ M2 : q_Mem, M2 = q_up M 33 6 4 → P M2))) : q_v mX5_passNumber d (qPU P) M 79 [some (qR 33)] [] := by
  refine qr_aload_n 79 80 rfl (x := 33) rfl dX5_passNumber_79 ?_
  refine qr_aload_n 80 81 rfl (x := 33) rfl dX5_passNumber_80 ?_
  refine qg_i 81 84 rfl ck5 5 (kk := 5) (by decide) (by decide +kernel) (by decide +kernel) rfl wm_133 rfl dX5_passNumber_81 ?_
  refine qr_aload_n 84 85 rfl (x := 33) rfl dX5_passNumber_84 ?_
  refine qg_i 85 88 rfl ck5 4 (kk := 4) (by decide) (by decide +kernel) (by decide +kernel) rfl wm_132 rfl dX5_passNumber_85 ?_
  refine qr_isub 88 89 rfl dX5_passNumber_88 ?_
  refine qr_iconst 89 90 rfl (q_l32 _ rfl) dX5_passNumber_89 ?_
  refine qr_icmp_le 90 93 97 rfl (by decide) dX5_passNumber_90 (fun c90 => ?_) (fun c90 => ?_)
  · have h := h.1 c90
    refine qr_iconst 97 98 rfl (q_l32 _ rfl) dX5_passNumber_97 ?_
    refine qp_i 98 101 rfl ck5 6 (kk := 6) (by decide) (by decide +kernel) (by decide) rfl rfl wm_134 rfl dX5_passNumber_98 (fun M1 e_M1 => ?_)
    have h := h M1 e_M1
    exact qe_u 101 rfl dX5_passNumber_101 h
  · have h := h.2 c90
    refine qr_iconst 93 94 rfl (q_l32 _ rfl) dX5_passNumber_93 ?_
    refine qr_goto 94 98 (by decide) dX5_passNumber_94 ?_
    refine qp_i 98 101 rfl ck5 6 (kk := 6) (by decide) (by decide +kernel) (by decide) rfl rfl wm_134 rfl dX5_passNumber_98 (fun M2 e_M2 => ?_)
    have h := h M2 e_M2
    exact qe_u 101 rfl dX5_passNumber_101 h
theorem dX5_byteAt_0 : decode cX5_byteAt 0 = .ok (.iload_n 1, 1) := by decide +kernel
theorem dX5_byteAt_1 : decode cX5_byteAt 1 = .ok (.ifCond .lt 24, 3) := by decide +kernel
theorem dX5_byteAt_4 : decode cX5_byteAt 4 = .ok (.iload_n 1, 1) := by decide +kernel
theorem dX5_byteAt_5 : decode cX5_byteAt 5 = .ok (.aload_n 0, 1) := by decide +kernel
theorem dX5_byteAt_6 : decode cX5_byteAt 6 = .ok (.getfield 39, 3) := by decide +kernel
theorem dX5_byteAt_9 : decode cX5_byteAt 9 = .ok (.if_icmp .ge 16, 3) := by decide +kernel
theorem dX5_byteAt_12 : decode cX5_byteAt 12 = .ok (.aload_n 0, 1) := by decide +kernel
theorem dX5_byteAt_13 : decode cX5_byteAt 13 = .ok (.getfield 15, 3) := by decide +kernel
theorem dX5_byteAt_16 : decode cX5_byteAt 16 = .ok (.iload_n 1, 1) := by decide +kernel
theorem dX5_byteAt_17 : decode cX5_byteAt 17 = .ok (.baload, 1) := by decide +kernel
theorem dX5_byteAt_18 : decode cX5_byteAt 18 = .ok (.sipush 255, 3) := by decide +kernel
theorem dX5_byteAt_21 : decode cX5_byteAt 21 = .ok (.iand, 1) := by decide +kernel
theorem dX5_byteAt_22 : decode cX5_byteAt 22 = .ok (.goto 4, 3) := by decide +kernel
theorem dX5_byteAt_25 : decode cX5_byteAt 25 = .ok (.iconst (-1), 1) := by decide +kernel
theorem dX5_byteAt_26 : decode cX5_byteAt 26 = .ok (.ireturn, 1) := by decide +kernel
theorem bX5_byteAt_0 {d : Nat} {P : Int → q_Mem → Prop} {M : q_Mem} (x1 : Int) (h : ((x1 < 0) → P (-1) M) ∧ ((¬ (x1 < 0)) → (((M 33 3) ≤ x1) → P (-1) M) ∧ ((¬ ((M 33 3) ≤ x1)) → q_kd (M 33 2) = 13 ∧ (0 ≤ x1 ∧ x1 < (q_ln (M 33 2) : Int)) ∧ (P (q_and (M (M 33 2) x1) 255) M)))) : q_v mX5_byteAt d (qPI P) M 0 [some (qR 33), some (qI x1)] [] := by
  refine qr_iload_n 0 1 rfl (x := x1) rfl dX5_byteAt_0 ?_
  refine qr_if_lt 1 4 25 rfl (by decide) dX5_byteAt_1 (fun c1 => ?_) (fun c1 => ?_)
  · have h := h.1 c1
    refine qr_iconst 25 26 rfl (q_l32 _ rfl) dX5_byteAt_25 ?_
    exact qe_i 26 rfl dX5_byteAt_26 h
  · have h := h.2 c1
    refine qr_iload_n 4 5 rfl (x := x1) rfl dX5_byteAt_4 ?_
    refine qr_aload_n 5 6 rfl (x := 33) rfl dX5_byteAt_5 ?_
    refine qg_i 6 9 rfl ck5 3 (kk := 3) (by decide) (by decide +kernel) (by decide +kernel) rfl wm_131 rfl dX5_byteAt_6 ?_
    refine qr_icmp_ge 9 12 25 rfl (by decide) dX5_byteAt_9 (fun c9 => ?_) (fun c9 => ?_)
    · have h := h.1 c9
      refine qr_iconst 25 26 rfl (q_l32 _ rfl) dX5_byteAt_25 ?_
      exact qe_i 26 rfl dX5_byteAt_26 h
    · have h := h.2 c9
      refine qr_aload_n 12 13 rfl (x := 33) rfl dX5_byteAt_12 ?_
      refine qg_r 13 16 rfl ck5 2 (kk := 2) (by decide) (by decide +kernel) (by decide +kernel) rfl wm_130 rfl dX5_byteAt_13 ?_
      refine qr_iload_n 16 17 rfl (x := x1) rfl dX5_byteAt_16 ?_
      have hk1 := h.1
      have h := h.2
      have hb2 := h.1
      have h := h.2
      refine qb_ld 17 18 rfl hk1 rfl hb2.1 hb2.2 dX5_byteAt_17 ?_
      refine qr_sipush 18 21 rfl (q_l32 _ rfl) (by decide) dX5_byteAt_18 ?_
      refine qr_iand 21 22 rfl dX5_byteAt_21 ?_
      refine qr_goto 22 26 (by decide) dX5_byteAt_22 ?_
      exact qe_i 26 rfl dX5_byteAt_26 h
theorem dX5_isBlank_0 : decode cX5_isBlank 0 = .ok (.iload_n 0, 1) := by decide +kernel
theorem dX5_isBlank_1 : decode cX5_isBlank 1 = .ok (.bipush 10, 2) := by decide +kernel
theorem dX5_isBlank_3 : decode cX5_isBlank 3 = .ok (.if_icmp .eq 9, 3) := by decide +kernel
theorem dX5_isBlank_6 : decode cX5_isBlank 6 = .ok (.iload_n 0, 1) := by decide +kernel
theorem dX5_isBlank_7 : decode cX5_isBlank 7 = .ok (.bipush 32, 2) := by decide +kernel
theorem dX5_isBlank_9 : decode cX5_isBlank 9 = .ok (.if_icmp .ne 7, 3) := by decide +kernel
theorem dX5_isBlank_12 : decode cX5_isBlank 12 = .ok (.iconst 1, 1) := by decide +kernel
theorem dX5_isBlank_13 : decode cX5_isBlank 13 = .ok (.goto 4, 3) := by decide +kernel
theorem dX5_isBlank_16 : decode cX5_isBlank 16 = .ok (.iconst 0, 1) := by decide +kernel
theorem dX5_isBlank_17 : decode cX5_isBlank 17 = .ok (.ireturn, 1) := by decide +kernel
theorem bX5_isBlank_0 {d : Nat} {P : Int → q_Mem → Prop} {M : q_Mem} (x0 : Int) (h : ((x0 = (10 : Int)) → P 1 M) ∧ ((¬ (x0 = (10 : Int))) → ((¬ x0 = (32 : Int)) → P 0 M) ∧ ((x0 = (32 : Int)) → P 1 M))) : q_v mX5_isBlank d (qPI P) M 0 [some (qI x0)] [] := by
  refine qr_iload_n 0 1 rfl (x := x0) rfl dX5_isBlank_0 ?_
  refine qr_bipush 1 3 rfl (q_l32 _ rfl) (by decide) dX5_isBlank_1 ?_
  refine qr_icmp_eq 3 6 12 rfl (by decide) dX5_isBlank_3 (fun c3 => ?_) (fun c3 => ?_)
  · have h := h.1 c3
    refine qr_iconst 12 13 rfl (q_l32 _ rfl) dX5_isBlank_12 ?_
    refine qr_goto 13 17 (by decide) dX5_isBlank_13 ?_
    exact qe_z 17 rfl (by decide) dX5_isBlank_17 h
  · have h := h.2 c3
    refine qr_iload_n 6 7 rfl (x := x0) rfl dX5_isBlank_6 ?_
    refine qr_bipush 7 9 rfl (q_l32 _ rfl) (by decide) dX5_isBlank_7 ?_
    refine qr_icmp_ne 9 12 16 rfl (by decide) dX5_isBlank_9 (fun c9 => ?_) (fun c9 => ?_)
    · have h := h.1 c9
      refine qr_iconst 16 17 rfl (q_l32 _ rfl) dX5_isBlank_16 ?_
      exact qe_z 17 rfl (by decide) dX5_isBlank_17 h
    · have h := h.2 c9
      refine qr_iconst 12 13 rfl (q_l32 _ rfl) dX5_isBlank_12 ?_
      refine qr_goto 13 17 (by decide) dX5_isBlank_13 ?_
      exact qe_z 17 rfl (by decide) dX5_isBlank_17 h
theorem dX5_isLetter_0 : decode cX5_isLetter 0 = .ok (.iload_n 0, 1) := by decide +kernel
theorem dX5_isLetter_1 : decode cX5_isLetter 1 = .ok (.bipush 97, 2) := by decide +kernel
theorem dX5_isLetter_3 : decode cX5_isLetter 3 = .ok (.if_icmp .lt 13, 3) := by decide +kernel
theorem dX5_isLetter_6 : decode cX5_isLetter 6 = .ok (.iload_n 0, 1) := by decide +kernel
theorem dX5_isLetter_7 : decode cX5_isLetter 7 = .ok (.bipush 122, 2) := by decide +kernel
theorem dX5_isLetter_9 : decode cX5_isLetter 9 = .ok (.if_icmp .gt 7, 3) := by decide +kernel
theorem dX5_isLetter_12 : decode cX5_isLetter 12 = .ok (.iconst 1, 1) := by decide +kernel
theorem dX5_isLetter_13 : decode cX5_isLetter 13 = .ok (.goto 4, 3) := by decide +kernel
theorem dX5_isLetter_16 : decode cX5_isLetter 16 = .ok (.iconst 0, 1) := by decide +kernel
theorem dX5_isLetter_17 : decode cX5_isLetter 17 = .ok (.ireturn, 1) := by decide +kernel
theorem bX5_isLetter_0 {d : Nat} {P : Int → q_Mem → Prop} {M : q_Mem} (x0 : Int) (h : ((x0 < (97 : Int)) → P 0 M) ∧ ((¬ (x0 < (97 : Int))) → (((122 : Int) < x0) → P 0 M) ∧ ((¬ ((122 : Int) < x0)) → P 1 M))) : q_v mX5_isLetter d (qPI P) M 0 [some (qI x0)] [] := by
  refine qr_iload_n 0 1 rfl (x := x0) rfl dX5_isLetter_0 ?_
  refine qr_bipush 1 3 rfl (q_l32 _ rfl) (by decide) dX5_isLetter_1 ?_
  refine qr_icmp_lt 3 6 16 rfl (by decide) dX5_isLetter_3 (fun c3 => ?_) (fun c3 => ?_)
  · have h := h.1 c3
    refine qr_iconst 16 17 rfl (q_l32 _ rfl) dX5_isLetter_16 ?_
    exact qe_z 17 rfl (by decide) dX5_isLetter_17 h
  · have h := h.2 c3
    refine qr_iload_n 6 7 rfl (x := x0) rfl dX5_isLetter_6 ?_
    refine qr_bipush 7 9 rfl (q_l32 _ rfl) (by decide) dX5_isLetter_7 ?_
    refine qr_icmp_gt 9 12 16 rfl (by decide) dX5_isLetter_9 (fun c9 => ?_) (fun c9 => ?_)
    · have h := h.1 c9
      refine qr_iconst 16 17 rfl (q_l32 _ rfl) dX5_isLetter_16 ?_
      exact qe_z 17 rfl (by decide) dX5_isLetter_17 h
    · have h := h.2 c9
      refine qr_iconst 12 13 rfl (q_l32 _ rfl) dX5_isLetter_12 ?_
      refine qr_goto 13 17 (by decide) dX5_isLetter_13 ?_
      exact qe_z 17 rfl (by decide) dX5_isLetter_17 h
theorem dX5_isDigit_0 : decode cX5_isDigit 0 = .ok (.iload_n 0, 1) := by decide +kernel
theorem dX5_isDigit_1 : decode cX5_isDigit 1 = .ok (.bipush 48, 2) := by decide +kernel
theorem dX5_isDigit_3 : decode cX5_isDigit 3 = .ok (.if_icmp .lt 13, 3) := by decide +kernel
theorem dX5_isDigit_6 : decode cX5_isDigit 6 = .ok (.iload_n 0, 1) := by decide +kernel
theorem dX5_isDigit_7 : decode cX5_isDigit 7 = .ok (.bipush 57, 2) := by decide +kernel
theorem dX5_isDigit_9 : decode cX5_isDigit 9 = .ok (.if_icmp .gt 7, 3) := by decide +kernel
theorem dX5_isDigit_12 : decode cX5_isDigit 12 = .ok (.iconst 1, 1) := by decide +kernel
theorem dX5_isDigit_13 : decode cX5_isDigit 13 = .ok (.goto 4, 3) := by decide +kernel
theorem dX5_isDigit_16 : decode cX5_isDigit 16 = .ok (.iconst 0, 1) := by decide +kernel
theorem dX5_isDigit_17 : decode cX5_isDigit 17 = .ok (.ireturn, 1) := by decide +kernel
theorem bX5_isDigit_0 {d : Nat} {P : Int → q_Mem → Prop} {M : q_Mem} (x0 : Int) (h : ((x0 < (48 : Int)) → P 0 M) ∧ ((¬ (x0 < (48 : Int))) → (((57 : Int) < x0) → P 0 M) ∧ ((¬ ((57 : Int) < x0)) → P 1 M))) : q_v mX5_isDigit d (qPI P) M 0 [some (qI x0)] [] := by
  refine qr_iload_n 0 1 rfl (x := x0) rfl dX5_isDigit_0 ?_
  refine qr_bipush 1 3 rfl (q_l32 _ rfl) (by decide) dX5_isDigit_1 ?_
  refine qr_icmp_lt 3 6 16 rfl (by decide) dX5_isDigit_3 (fun c3 => ?_) (fun c3 => ?_)
  · have h := h.1 c3
    refine qr_iconst 16 17 rfl (q_l32 _ rfl) dX5_isDigit_16 ?_
    exact qe_z 17 rfl (by decide) dX5_isDigit_17 h
  · have h := h.2 c3
    refine qr_iload_n 6 7 rfl (x := x0) rfl dX5_isDigit_6 ?_
    refine qr_bipush 7 9 rfl (q_l32 _ rfl) (by decide) dX5_isDigit_7 ?_
    refine qr_icmp_gt 9 12 16 rfl (by decide) dX5_isDigit_9 (fun c9 => ?_) (fun c9 => ?_)
    · have h := h.1 c9
      refine qr_iconst 16 17 rfl (q_l32 _ rfl) dX5_isDigit_16 ?_
      exact qe_z 17 rfl (by decide) dX5_isDigit_17 h
    · have h := h.2 c9
      refine qr_iconst 12 13 rfl (q_l32 _ rfl) dX5_isDigit_12 ?_
      refine qr_goto 13 17 (by decide) dX5_isDigit_13 ?_
      exact qe_z 17 rfl (by decide) dX5_isDigit_17 h
