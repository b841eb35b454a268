-- blocks of methods (by program)
theorem dX11_feed_0 : decode cX11_feed 0 = .ok (.aload_n 0, 1) := by decide +kernel
theorem dX11_feed_1 : decode cX11_feed 1 = .ok (.getfield 103, 3) := by decide +kernel
theorem dX11_feed_4 : decode cX11_feed 4 = .ok (.bipush 20, 2) := by decide +kernel
theorem dX11_feed_6 : decode cX11_feed 6 = .ok (.iadd, 1) := by decide +kernel
theorem dX11_feed_7 : decode cX11_feed 7 = .ok (.sipush 900, 3) := by decide +kernel
theorem dX11_feed_10 : decode cX11_feed 10 = .ok (.if_icmp .le 6, 3) := by decide +kernel
theorem dX11_feed_13 : decode cX11_feed 13 = .ok (.bipush (-5), 2) := by decide +kernel
theorem dX11_feed_15 : decode cX11_feed 15 = .ok (.ireturn, 1) := by decide +kernel
theorem dX11_feed_16 : decode cX11_feed 16 = .ok (.aload_n 0, 1) := by decide +kernel
theorem dX11_feed_17 : decode cX11_feed 17 = .ok (.iload_n 1, 1) := by decide +kernel
theorem dX11_feed_18 : decode cX11_feed 18 = .ok (.invokevirtual 106, 3) := by decide +kernel
theorem dX11_feed_21 : decode cX11_feed 21 = .ok (.aload_n 0, 1) := by decide +kernel
theorem dX11_feed_22 : decode cX11_feed 22 = .ok (.iload_n 2, 1) := by decide +kernel
theorem dX11_feed_23 : decode cX11_feed 23 = .ok (.invokevirtual 106, 3) := by decide +kernel
theorem dX11_feed_26 : decode cX11_feed 26 = .ok (.aload_n 0, 1) := by decide +kernel
theorem dX11_feed_27 : decode cX11_feed 27 = .ok (.iload_n 3, 1) := by decide +kernel
theorem dX11_feed_28 : decode cX11_feed 28 = .ok (.invokevirtual 106, 3) := by decide +kernel
theorem dX11_feed_31 : decode cX11_feed 31 = .ok (.aload_n 0, 1) := by decide +kernel
theorem dX11_feed_32 : decode cX11_feed 32 = .ok (.iload 4, 2) := by decide +kernel
theorem dX11_feed_34 : decode cX11_feed 34 = .ok (.invokevirtual 106, 3) := by decide +kernel
theorem dX11_feed_37 : decode cX11_feed 37 = .ok (.aload_n 0, 1) := by decide +kernel
theorem dX11_feed_38 : decode cX11_feed 38 = .ok (.iload 5, 2) := by decide +kernel
theorem dX11_feed_40 : decode cX11_feed 40 = .ok (.invokevirtual 106, 3) := by decide +kernel
theorem dX11_feed_43 : decode cX11_feed 43 = .ok (.aload_n 0, 1) := by decide +kernel
theorem dX11_feed_44 : decode cX11_feed 44 = .ok (.getfield 103, 3) := by decide +kernel
theorem dX11_feed_47 : decode cX11_feed 47 = .ok (.ireturn, 1) := by decide +kernel
theorem bX11_feed_0 {d : Nat} {P : Int → q_Mem → Prop} {M : q_Mem} (x1 x2 x3 x4 x5 : Int) (h : (((q_add (M 1 1) 20) ≤ (900 : Int)) → q_kU yX11_putOnTape mX11_putOnTape d [qR 1, qI x1] M (fun M1 => q_kU yX11_putOnTape mX11_putOnTape d [qR 1, qI x2] M1 (fun M2 => q_kU yX11_putOnTape mX11_putOnTape d [qR 1, qI x3] M2 (fun M3 => q_kU yX11_putOnTape mX11_putOnTape d [qR 1, qI x4] M3 (fun M4 => q_kU yX11_putOnTape mX11_putOnTape d [qR 1, qI x5] M4 (fun M5 => P (M5 1 1) M5)))))) ∧ ((¬ ((q_add (M 1 1) 20) ≤ (900 : Int))) → P (-5) M)) : q_v mX11_feed d (qPI P) M 0 [some (qR 1), some (qI x1), some (qI x2), some (qI x3), some (qI x4), some (qI x5)] [] := by
  refine qr_aload_n 0 1 rfl (x := 1) rfl dX11_feed_0 ?_
  refine qg_i 1 4 rfl ck11 1 (kk := 1) (by decide) (by decide +kernel) (by decide +kernel) rfl wm_378 rfl dX11_feed_1 ?_
  refine qr_bipush 4 6 rfl (q_l32 _ rfl) (by decide) dX11_feed_4 ?_
  refine qr_iadd 6 7 rfl dX11_feed_6 ?_
  refine qr_sipush 7 10 rfl (q_l32 _ rfl) (by decide) dX11_feed_7 ?_
  refine qr_icmp_le 10 13 16 rfl (by decide) dX11_feed_10 (fun c10 => ?_) (fun c10 => ?_)
  · have h := h.1 c10
    refine qr_aload_n 16 17 rfl (x := 1) rfl dX11_feed_16 ?_
    refine qr_iload_n 17 18 rfl (x := x1) rfl dX11_feed_17 ?_
    refine qw_U 18 21 rfl (av := [qI x1]) ca_X11_putOnTape wm_441 wp_0 wm_439 ck11 (by decide +kernel) rfl rfl (Nat.le_of_ble_eq_true rfl) dX11_feed_18 h (fun M1 h => ?_)
    refine qr_aload_n 21 22 rfl (x := 1) rfl dX11_feed_21 ?_
    refine qr_iload_n 22 23 rfl (x := x2) rfl dX11_feed_22 ?_
    refine qw_U 23 26 rfl (av := [qI x2]) ca_X11_putOnTape wm_441 wp_0 wm_439 ck11 (by decide +kernel) rfl rfl (Nat.le_of_ble_eq_true rfl) dX11_feed_23 h (fun M2 h => ?_)
    refine qr_aload_n 26 27 rfl (x := 1) rfl dX11_feed_26 ?_
    refine qr_iload_n 27 28 rfl (x := x3) rfl dX11_feed_27 ?_
    refine qw_U 28 31 rfl (av := [qI x3]) ca_X11_putOnTape wm_441 wp_0 wm_439 ck11 (by decide +kernel) rfl rfl (Nat.le_of_ble_eq_true rfl) dX11_feed_28 h (fun M3 h => ?_)
    refine qr_aload_n 31 32 rfl (x := 1) rfl dX11_feed_31 ?_
    refine qr_iload 32 34 rfl (x := x4) rfl dX11_feed_32 ?_
    refine qw_U 34 37 rfl (av := [qI x4]) ca_X11_putOnTape wm_441 wp_0 wm_439 ck11 (by decide +kernel) rfl rfl (Nat.le_of_ble_eq_true rfl) dX11_feed_34 h (fun M4 h => ?_)
    refine qr_aload_n 37 38 rfl (x := 1) rfl dX11_feed_37 ?_
    refine qr_iload 38 40 rfl (x := x5) rfl dX11_feed_38 ?_
    refine qw_U 40 43 rfl (av := [qI x5]) ca_X11_putOnTape wm_441 wp_0 wm_439 ck11 (by decide +kernel) rfl rfl (Nat.le_of_ble_eq_true rfl) dX11_feed_40 h (fun M5 h => ?_)
    refine qr_aload_n 43 44 rfl (x := 1) rfl dX11_feed_43 ?_
    refine qg_i 44 47 rfl ck11 1 (kk := 1) (by decide) (by decide +kernel) (by decide +kernel) rfl wm_378 rfl dX11_feed_44 ?_
    exact qe_i 47 rfl dX11_feed_47 h
  · have h := h.2 c10
    refine qr_bipush 13 15 rfl (q_l32 _ rfl) (by decide) dX11_feed_13 ?_
    exact qe_i 15 rfl dX11_feed_15 h
theorem dX11_putOnTape_0 : decode cX11_putOnTape 0 = .ok (.bipush 24, 2) := by decide +kernel
theorem dX11_putOnTape_2 : decode cX11_putOnTape 2 = .ok (.istore_n 2, 1) := by decide +kernel
theorem dX11_putOnTape_3 : decode cX11_putOnTape 3 = .ok (.iload_n 2, 1) := by decide +kernel
theorem dX11_putOnTape_4 : decode cX11_putOnTape 4 = .ok (.ifCond .lt 42, 3) := by decide +kernel
theorem dX11_putOnTape_7 : decode cX11_putOnTape 7 = .ok (.aload_n 0, 1) := by decide +kernel
theorem dX11_putOnTape_8 : decode cX11_putOnTape 8 = .ok (.getfield 103, 3) := by decide +kernel
theorem dX11_putOnTape_11 : decode cX11_putOnTape 11 = .ok (.sipush 900, 3) := by decide +kernel
theorem dX11_putOnTape_14 : decode cX11_putOnTape 14 = .ok (.if_icmp .ge 26, 3) := by decide +kernel
theorem dX11_putOnTape_17 : decode cX11_putOnTape 17 = .ok (.aload_n 0, 1) := by decide +kernel
theorem dX11_putOnTape_18 : decode cX11_putOnTape 18 = .ok (.getfield 9, 3) := by decide +kernel
theorem dX11_putOnTape_21 : decode cX11_putOnTape 21 = .ok (.aload_n 0, 1) := by decide +kernel
theorem dX11_putOnTape_22 : decode cX11_putOnTape 22 = .ok (.getfield 103, 3) := by decide +kernel
theorem dX11_putOnTape_25 : decode cX11_putOnTape 25 = .ok (.iload_n 1, 1) := by decide +kernel
theorem dX11_putOnTape_26 : decode cX11_putOnTape 26 = .ok (.iload_n 2, 1) := by decide +kernel
theorem dX11_putOnTape_27 : decode cX11_putOnTape 27 = .ok (.ishr, 1) := by decide +kernel
theorem dX11_putOnTape_28 : decode cX11_putOnTape 28 = .ok (.i2b, 1) := by decide +kernel
theorem dX11_putOnTape_29 : decode cX11_putOnTape 29 = .ok (.bastore, 1) := by decide +kernel
theorem dX11_putOnTape_30 : decode cX11_putOnTape 30 = .ok (.aload_n 0, 1) := by decide +kernel
theorem dX11_putOnTape_31 : decode cX11_putOnTape 31 = .ok (.dup, 1) := by decide +kernel
theorem dX11_putOnTape_32 : decode cX11_putOnTape 32 = .ok (.getfield 103, 3) := by decide +kernel
theorem dX11_putOnTape_35 : decode cX11_putOnTape 35 = .ok (.iconst 1, 1) := by decide +kernel
theorem dX11_putOnTape_36 : decode cX11_putOnTape 36 = .ok (.iadd, 1) := by decide +kernel
theorem dX11_putOnTape_37 : decode cX11_putOnTape 37 = .ok (.putfield 103, 3) := by decide +kernel
theorem dX11_putOnTape_40 : decode cX11_putOnTape 40 = .ok (.iinc 2 (-8), 3) := by decide +kernel
theorem dX11_putOnTape_43 : decode cX11_putOnTape 43 = .ok (.goto (-40), 3) := by decide +kernel
theorem dX11_putOnTape_46 : decode cX11_putOnTape 46 = .ok (.return_, 1) := by decide +kernel
theorem bX11_putOnTape_0 {d : Nat} {P : q_Mem → Prop} {M : q_Mem} (x1 : Int) (h : q_v mX11_putOnTape d (qPU P) M 3 [some (qR 1), some (qI x1), some (qI 24)] []) : q_v mX11_putOnTape d (qPU P) M 0 [some (qR 1), some (qI x1), none] [] := by
  refine qr_bipush 0 2 rfl (q_l32 _ rfl) (by decide) dX11_putOnTape_0 ?_
  refine qr_istore_n 2 3 rfl (by decide) rfl rfl dX11_putOnTape_2 ?_
  exact h
theorem bX11_putOnTape_3 {d : Nat} {P : q_Mem → Prop} {M : q_Mem} (x1 x2 : Int) (h : ((x2 < 0) → P M) ∧ ((¬ (x2 < 0)) → (((900 : Int) ≤ (M 1 1)) → q_v mX11_putOnTape d (qPU P) M 3 [some (qR 1), some (qI x1), some (qI (q_add x2 (-8)))] []) ∧ ((¬ ((900 : Int) ≤ (M 1 1))) → (0 ≤ (M 1 1) ∧ (M 1 1) < (900 : Int)) ∧ (∀ M2 : q_Mem, M2 = q_up M 2 (M 1 1) (q_nb (q_i2b (q_shr x1 x2))) → (∀ M3 : q_Mem, M3 = q_up M2 1 1 (q_add (M2 1 1) 1) → q_v mX11_putOnTape d (qPU P) M3 3 [some (qR 1), some (qI x1), some (qI (q_add x2 (-8)))] []))))) : q_v mX11_putOnTape d (qPU P) M 3 [some (qR 1), some (qI x1), some (qI x2)] [] := by
  refine qr_iload_n 3 4 rfl (x := x2) rfl dX11_putOnTape_3 ?_
  refine qr_if_lt 4 7 46 rfl (by decide) dX11_putOnTape_4 (fun c4 => ?_) (fun c4 => ?_)
  · have h := h.1 c4
    exact qe_u 46 rfl dX11_putOnTape_46 h
  · have h := h.2 c4
    refine qr_aload_n 7 8 rfl (x := 1) rfl dX11_putOnTape_7 ?_
    refine qg_i 8 11 rfl ck11 1 (kk := 1) (by decide) (by decide +kernel) (by decide +kernel) rfl wm_378 rfl dX11_putOnTape_8 ?_
    refine qr_sipush 11 14 rfl (q_l32 _ rfl) (by decide) dX11_putOnTape_11 ?_
    refine qr_icmp_ge 14 17 40 rfl (by decide) dX11_putOnTape_14 (fun c14 => ?_) (fun c14 => ?_)
    · have h := h.1 c14
      refine qr_iinc 40 43 rfl (by decide) (x := x2) rfl rfl rfl dX11_putOnTape_40 ?_
      refine qr_goto 43 3 (by decide) dX11_putOnTape_43 ?_
      exact h
    · have h := h.2 c14
      refine qr_aload_n 17 18 rfl (x := 1) rfl dX11_putOnTape_17 ?_
      refine qr_getF 18 21 rfl ck11 0 (by decide) (b := 2) (by decide +kernel) rfl (by decide +kernel) (by decide +kernel) wm_377 rfl dX11_putOnTape_18 ?_
      refine qr_aload_n 21 22 rfl (x := 1) rfl dX11_putOnTape_21 ?_
      refine qg_i 22 25 rfl ck11 1 (kk := 1) (by decide) (by decide +kernel) (by decide +kernel) rfl wm_378 rfl dX11_putOnTape_22 ?_
      refine qr_iload_n 25 26 rfl (x := x1) rfl dX11_putOnTape_25 ?_
      refine qr_iload_n 26 27 rfl (x := x2) rfl dX11_putOnTape_26 ?_
      refine qr_ishr 27 28 rfl dX11_putOnTape_27 ?_
      refine qr_i2b 28 29 rfl dX11_putOnTape_28 ?_
      have hb1 := h.1
      have h := h.2
      refine qb_st 29 30 rfl (N := 900) (by decide +kernel) (by decide +kernel) hb1.1 hb1.2 dX11_putOnTape_29 (fun M2 e_M2 => ?_)
      have h := h M2 e_M2
      refine qr_aload_n 30 31 rfl (x := 1) rfl dX11_putOnTape_30 ?_
      refine qr_dup 31 32 rfl rfl dX11_putOnTape_31 ?_
      refine qg_i 32 35 rfl ck11 1 (kk := 1) (by decide) (by decide +kernel) (by decide +kernel) rfl wm_378 rfl dX11_putOnTape_32 ?_
      refine qr_iconst 35 36 rfl (q_l32 _ rfl) dX11_putOnTape_35 ?_
      refine qr_iadd 36 37 rfl dX11_putOnTape_36 ?_
      refine qp_i 37 40 rfl ck11 1 (kk := 1) (by decide) (by decide +kernel) (by decide) rfl rfl wm_378 rfl dX11_putOnTape_37 (fun M3 e_M3 => ?_)
      have h := h M3 e_M3
      refine qr_iinc 40 43 rfl (by decide) (x := x2) rfl rfl rfl dX11_putOnTape_40 ?_
      refine qr_goto 43 3 (by decide) dX11_putOnTape_43 ?_
      exact h
theorem dX11_net_0 : decode cX11_net 0 = .ok (.iload_n 1, 1) := by decide +kernel
theorem dX11_net_1 : decode cX11_net 1 = .ok (.ifCond .lt 11, 3) := by decide +kernel
theorem dX11_net_4 : decode cX11_net 4 = .ok (.iload_n 1, 1) := by decide +kernel
theorem dX11_net_5 : decode cX11_net 5 = .ok (.aload_n 0, 1) := by decide +kernel
theorem dX11_net_6 : decode cX11_net 6 = .ok (.getfield 103, 3) := by decide +kernel
theorem dX11_net_9 : decode cX11_net 9 = .ok (.if_icmp .le 6, 3) := by decide +kernel
theorem dX11_net_12 : decode cX11_net 12 = .ok (.bipush (-3), 2) := by decide +kernel
theorem dX11_net_14 : decode cX11_net 14 = .ok (.ireturn, 1) := by decide +kernel
theorem dX11_net_15 : decode cX11_net 15 = .ok (.aload_n 0, 1) := by decide +kernel
theorem dX11_net_16 : decode cX11_net 16 = .ok (.iconst 0, 1) := by decide +kernel
theorem dX11_net_17 : decode cX11_net 17 = .ok (.putfield 103, 3) := by decide +kernel
theorem dX11_net_20 : decode cX11_net 20 = .ok (.aload_n 0, 1) := by decide +kernel
theorem dX11_net_21 : decode cX11_net 21 = .ok (.getfield 30, 3) := by decide +kernel
theorem dX11_net_24 : decode cX11_net 24 = .ok (.aload_n 0, 1) := by decide +kernel
theorem dX11_net_25 : decode cX11_net 25 = .ok (.getfield 9, 3) := by decide +kernel
theorem dX11_net_28 : decode cX11_net 28 = .ok (.iload_n 1, 1) := by decide +kernel
theorem dX11_net_29 : decode cX11_net 29 = .ok (.aload_n 0, 1) := by decide +kernel
theorem dX11_net_30 : decode cX11_net 30 = .ok (.getfield 24, 3) := by decide +kernel
theorem dX11_net_33 : decode cX11_net 33 = .ok (.invokevirtual 110, 3) := by decide +kernel
theorem dX11_net_36 : decode cX11_net 36 = .ok (.istore_n 2, 1) := by decide +kernel
theorem dX11_net_37 : decode cX11_net 37 = .ok (.aload_n 0, 1) := by decide +kernel
theorem dX11_net_38 : decode cX11_net 38 = .ok (.aload_n 0, 1) := by decide +kernel
theorem dX11_net_39 : decode cX11_net 39 = .ok (.getfield 30, 3) := by decide +kernel
theorem dX11_net_42 : decode cX11_net 42 = .ok (.getfield 114, 3) := by decide +kernel
theorem dX11_net_45 : decode cX11_net 45 = .ok (.putfield 117, 3) := by decide +kernel
theorem dX11_net_48 : decode cX11_net 48 = .ok (.aload_n 0, 1) := by decide +kernel
theorem dX11_net_49 : decode cX11_net 49 = .ok (.aload_n 0, 1) := by decide +kernel
theorem dX11_net_50 : decode cX11_net 50 = .ok (.getfield 30, 3) := by decide +kernel
theorem dX11_net_53 : decode cX11_net 53 = .ok (.getfield 120, 3) := by decide +kernel
theorem dX11_net_56 : decode cX11_net 56 = .ok (.putfield 13, 3) := by decide +kernel
theorem dX11_net_59 : decode cX11_net 59 = .ok (.iload_n 2, 1) := by decide +kernel
theorem dX11_net_60 : decode cX11_net 60 = .ok (.ifCond .ne 11, 3) := by decide +kernel
theorem dX11_net_63 : decode cX11_net 63 = .ok (.bipush (-30), 2) := by decide +kernel
theorem dX11_net_65 : decode cX11_net 65 = .ok (.aload_n 0, 1) := by decide +kernel
theorem dX11_net_66 : decode cX11_net 66 = .ok (.getfield 117, 3) := by decide +kernel
theorem dX11_net_69 : decode cX11_net 69 = .ok (.isub, 1) := by decide +kernel
theorem dX11_net_70 : decode cX11_net 70 = .ok (.ireturn, 1) := by decide +kernel
theorem dX11_net_71 : decode cX11_net 71 = .ok (.aload_n 0, 1) := by decide +kernel
theorem dX11_net_72 : decode cX11_net 72 = .ok (.getfield 20, 3) := by decide +kernel
theorem dX11_net_75 : decode cX11_net 75 = .ok (.astore_n 3, 1) := by decide +kernel
theorem dX11_net_76 : decode cX11_net 76 = .ok (.aload_n 0, 1) := by decide +kernel
theorem dX11_net_77 : decode cX11_net 77 = .ok (.aload_n 0, 1) := by decide +kernel
theorem dX11_net_78 : decode cX11_net 78 = .ok (.getfield 24, 3) := by decide +kernel
theorem dX11_net_81 : decode cX11_net 81 = .ok (.putfield 20, 3) := by decide +kernel
theorem dX11_net_84 : decode cX11_net 84 = .ok (.aload_n 0, 1) := by decide +kernel
theorem dX11_net_85 : decode cX11_net 85 = .ok (.aload_n 3, 1) := by decide +kernel
theorem dX11_net_86 : decode cX11_net 86 = .ok (.putfield 24, 3) := by decide +kernel
theorem dX11_net_89 : decode cX11_net 89 = .ok (.aload_n 0, 1) := by decide +kernel
theorem dX11_net_90 : decode cX11_net 90 = .ok (.getfield 20, 3) := by decide +kernel
theorem dX11_net_93 : decode cX11_net 93 = .ok (.aload_n 0, 1) := by decide +kernel
theorem dX11_net_94 : decode cX11_net 94 = .ok (.getfield 37, 3) := by decide +kernel
theorem dX11_net_97 : decode cX11_net 97 = .ok (.invokevirtual 123, 3) := by decide +kernel
theorem dX11_net_100 : decode cX11_net 100 = .ok (.aload_n 0, 1) := by decide +kernel
theorem dX11_net_101 : decode cX11_net 101 = .ok (.getfield 47, 3) := by decide +kernel
theorem dX11_net_104 : decode cX11_net 104 = .ok (.invokevirtual 127, 3) := by decide +kernel
theorem dX11_net_107 : decode cX11_net 107 = .ok (.aload_n 0, 1) := by decide +kernel
theorem dX11_net_108 : decode cX11_net 108 = .ok (.iconst 0, 1) := by decide +kernel
theorem dX11_net_109 : decode cX11_net 109 = .ok (.putfield 130, 3) := by decide +kernel
theorem dX11_net_112 : decode cX11_net 112 = .ok (.aload_n 0, 1) := by decide +kernel
theorem dX11_net_113 : decode cX11_net 113 = .ok (.getfield 20, 3) := by decide +kernel
theorem dX11_net_116 : decode cX11_net 116 = .ok (.getfield 133, 3) := by decide +kernel
theorem dX11_net_119 : decode cX11_net 119 = .ok (.ireturn, 1) := by decide +kernel
theorem bX11_net_0 {d : Nat} {P : Int → q_Mem → Prop} {M : q_Mem} (x1 : Int) (h : ((x1 < 0) → P (-3) M) ∧ ((¬ (x1 < 0)) → ((x1 ≤ (M 1 1)) → (∀ M1 : q_Mem, M1 = q_up M 1 1 0 → q_kI yX5_readText mX5_readText d [qR 33, qR 2, qI x1, qR (M1 1 5)] M1 (fun v3 M2 => (∀ M4 : q_Mem, M4 = q_up M2 1 2 (M2 33 0) → (∀ M5 : q_Mem, M5 = q_up M4 1 3 (M4 33 1) → ((¬ v3 = 0) → ∀ x3_6 : Int, x3_6 = (M5 1 4) → (∀ M7 : q_Mem, M7 = q_up M5 1 4 (M5 1 5) → (∀ M8 : q_Mem, M8 = q_up M7 1 5 x3_6 → q_kd (M8 1 4) = 4 ∧ (q_kU yX4_layOut mX4_layOut d [qR (M8 1 4), qR 50] M8 (fun M10 => q_kU yX0_forget mX0_forget d [qR 56] M10 (fun M11 => (∀ M12 : q_Mem, M12 = q_up M11 1 18 0 → q_kd (M12 1 4) = 4 ∧ (P (M12 (M12 1 4) 2) M12)))))))) ∧ ((v3 = 0) → P (q_sub (-30) (M5 1 2)) M5)))))) ∧ ((¬ (x1 ≤ (M 1 1))) → P (-3) M))) : q_v mX11_net d (qPI P) M 0 [some (qR 1), some (qI x1), none, none] [] := by
  refine qr_iload_n 0 1 rfl (x := x1) rfl dX11_net_0 ?_
  refine qr_if_lt 1 4 12 rfl (by decide) dX11_net_1 (fun c1 => ?_) (fun c1 => ?_)
  · have h := h.1 c1
    refine qr_bipush 12 14 rfl (q_l32 _ rfl) (by decide) dX11_net_12 ?_
    exact qe_i 14 rfl dX11_net_14 h
  · have h := h.2 c1
    refine qr_iload_n 4 5 rfl (x := x1) rfl dX11_net_4 ?_
    refine qr_aload_n 5 6 rfl (x := 1) rfl dX11_net_5 ?_
    refine qg_i 6 9 rfl ck11 1 (kk := 1) (by decide) (by decide +kernel) (by decide +kernel) rfl wm_378 rfl dX11_net_6 ?_
    refine qr_icmp_le 9 12 15 rfl (by decide) dX11_net_9 (fun c9 => ?_) (fun c9 => ?_)
    · have h := h.1 c9
      refine qr_aload_n 15 16 rfl (x := 1) rfl dX11_net_15 ?_
      refine qr_iconst 16 17 rfl (q_l32 _ rfl) dX11_net_16 ?_
      refine qp_i 17 20 rfl ck11 1 (kk := 1) (by decide) (by decide +kernel) (by decide) rfl rfl wm_378 rfl dX11_net_17 (fun M1 e_M1 => ?_)
      have h := h M1 e_M1
      refine qr_aload_n 20 21 rfl (x := 1) rfl dX11_net_20 ?_
      refine qr_getF 21 24 rfl ck11 6 (by decide) (b := 33) (by decide +kernel) rfl (by decide +kernel) (by decide +kernel) wm_383 rfl dX11_net_21 ?_
      refine qr_aload_n 24 25 rfl (x := 1) rfl dX11_net_24 ?_
      refine qr_getF 25 28 rfl ck11 0 (by decide) (b := 2) (by decide +kernel) rfl (by decide +kernel) (by decide +kernel) wm_377 rfl dX11_net_25 ?_
      refine qr_iload_n 28 29 rfl (x := x1) rfl dX11_net_28 ?_
      refine qr_aload_n 29 30 rfl (x := 1) rfl dX11_net_29 ?_
      refine qg_r 30 33 rfl ck11 5 (kk := 5) (by decide) (by decide +kernel) (by decide +kernel) rfl wm_382 rfl dX11_net_30 ?_
      refine qw_I 33 36 rfl (av := [qR 2, qI x1, qR (M1 1 5)]) ca_X5_readText wm_448 wm_449 wm_447 ck5 (by decide +kernel) rfl rfl (Nat.le_of_ble_eq_true rfl) dX11_net_33 h (fun v3 M2 h => ?_)
      refine qr_istore_n 36 37 rfl (by decide) rfl rfl dX11_net_36 ?_
      refine qr_aload_n 37 38 rfl (x := 1) rfl dX11_net_37 ?_
      refine qr_aload_n 38 39 rfl (x := 1) rfl dX11_net_38 ?_
      refine qr_getF 39 42 rfl ck11 6 (by decide) (b := 33) (by decide +kernel) rfl (by decide +kernel) (by decide +kernel) wm_383 rfl dX11_net_39 ?_
      refine qg_i 42 45 rfl ck5 0 (kk := 0) (by decide) (by decide +kernel) (by decide +kernel) rfl wm_127 rfl dX11_net_42 ?_
      refine qp_i 45 48 rfl ck11 2 (kk := 2) (by decide) (by decide +kernel) (by decide) rfl rfl wm_379 rfl dX11_net_45 (fun M4 e_M4 => ?_)
      have h := h M4 e_M4
      refine qr_aload_n 48 49 rfl (x := 1) rfl dX11_net_48 ?_
      refine qr_aload_n 49 50 rfl (x := 1) rfl dX11_net_49 ?_
      refine qr_getF 50 53 rfl ck11 6 (by decide) (b := 33) (by decide +kernel) rfl (by decide +kernel) (by decide +kernel) wm_383 rfl dX11_net_50 ?_
      refine qg_i 53 56 rfl ck5 1 (kk := 1) (by decide) (by decide +kernel) (by decide +kernel) rfl wm_129 rfl dX11_net_53 ?_
      refine qp_i 56 59 rfl ck11 3 (kk := 3) (by decide) (by decide +kernel) (by decide) rfl rfl wm_380 rfl dX11_net_56 (fun M5 e_M5 => ?_)
      have h := h M5 e_M5
      refine qr_iload_n 59 60 rfl (x := v3) rfl dX11_net_59 ?_
      refine qr_if_ne 60 63 71 rfl (by decide) dX11_net_60 (fun c60 => ?_) (fun c60 => ?_)
      · have h := h.1 c60
        refine qr_aload_n 71 72 rfl (x := 1) rfl dX11_net_71 ?_
        refine qg_r 72 75 rfl ck11 4 (kk := 4) (by decide) (by decide +kernel) (by decide +kernel) rfl wm_381 rfl dX11_net_72 ?_
        refine qn_r 75 (fun x3_6 e_x3_6 => ?_)
        have h := h x3_6 e_x3_6
        refine qr_astore_n 75 76 rfl (by decide) rfl rfl dX11_net_75 ?_
        refine qr_aload_n 76 77 rfl (x := 1) rfl dX11_net_76 ?_
        refine qr_aload_n 77 78 rfl (x := 1) rfl dX11_net_77 ?_
        refine qg_r 78 81 rfl ck11 5 (kk := 5) (by decide) (by decide +kernel) (by decide +kernel) rfl wm_382 rfl dX11_net_78 ?_
        refine qp_r 81 84 rfl ck11 4 (kk := 4) (by decide) (by decide +kernel) (by decide) (by decide +kernel) rfl wm_381 rfl dX11_net_81 (fun M7 e_M7 => ?_)
        have h := h M7 e_M7
        refine qr_aload_n 84 85 rfl (x := 1) rfl dX11_net_84 ?_
        refine qr_aload_n 85 86 rfl (x := x3_6) rfl dX11_net_85 ?_
        refine qp_r 86 89 rfl ck11 5 (kk := 5) (by decide) (by decide +kernel) (by decide) (by decide +kernel) rfl wm_382 rfl dX11_net_86 (fun M8 e_M8 => ?_)
        have h := h M8 e_M8
        refine qr_aload_n 89 90 rfl (x := 1) rfl dX11_net_89 ?_
        refine qg_r 90 93 rfl ck11 4 (kk := 4) (by decide) (by decide +kernel) (by decide +kernel) rfl wm_381 rfl dX11_net_90 ?_
        refine qr_aload_n 93 94 rfl (x := 1) rfl dX11_net_93 ?_
        refine qr_getF 94 97 rfl ck11 7 (by decide) (b := 50) (by decide +kernel) rfl (by decide +kernel) (by decide +kernel) wm_384 rfl dX11_net_94 ?_
        have hk9 := h.1
        have h := h.2
        refine qw_U 97 100 rfl (av := [qR 50]) ca_X4_layOut wm_725 wm_726 wm_724 ck4 hk9 rfl rfl (Nat.le_of_ble_eq_true rfl) dX11_net_97 h (fun M10 h => ?_)
        refine qr_aload_n 100 101 rfl (x := 1) rfl dX11_net_100 ?_
        refine qr_getF 101 104 rfl ck11 9 (by decide) (b := 56) (by decide +kernel) rfl (by decide +kernel) (by decide +kernel) wm_386 rfl dX11_net_101 ?_
        refine qw_U 104 107 rfl (av := []) ca_X0_forget wm_738 wm_739 wm_737 ck0 (by decide +kernel) rfl rfl (Nat.le_of_ble_eq_true rfl) dX11_net_104 h (fun M11 h => ?_)
        refine qr_aload_n 107 108 rfl (x := 1) rfl dX11_net_107 ?_
        refine qr_iconst 108 109 rfl (q_l32 _ rfl) dX11_net_108 ?_
        refine qp_i 109 112 rfl ck11 18 (kk := 18) (by decide) (by decide +kernel) (by decide) rfl rfl wm_395 rfl dX11_net_109 (fun M12 e_M12 => ?_)
        have h := h M12 e_M12
        refine qr_aload_n 112 113 rfl (x := 1) rfl dX11_net_112 ?_
        refine qg_r 113 116 rfl ck11 4 (kk := 4) (by decide) (by decide +kernel) (by decide +kernel) rfl wm_381 rfl dX11_net_113 ?_
        have hk13 := h.1
        have h := h.2
        refine qg_i 116 119 rfl ck4 2 (kk := 2) (by decide) hk13 (by decide +kernel) rfl wm_71 rfl dX11_net_116 ?_
        exact qe_i 119 rfl dX11_net_119 h
      · have h := h.2 c60
        refine qr_bipush 63 65 rfl (q_l32 _ rfl) (by decide) dX11_net_63 ?_
        refine qr_aload_n 65 66 rfl (x := 1) rfl dX11_net_65 ?_
        refine qg_i 66 69 rfl ck11 2 (kk := 2) (by decide) (by decide +kernel) (by decide +kernel) rfl wm_379 rfl dX11_net_66 ?_
        refine qr_isub 69 70 rfl dX11_net_69 ?_
        exact qe_i 70 rfl dX11_net_70 h
    · have h := h.2 c9
      refine qr_bipush 12 14 rfl (q_l32 _ rfl) (by decide) dX11_net_12 ?_
      exact qe_i 14 rfl dX11_net_14 h
theorem dX11_fault_0 : decode cX11_fault 0 = .ok (.iload_n 1, 1) := by decide +kernel
theorem dX11_fault_1 : decode cX11_fault 1 = .ok (.ifCond .ne 8, 3) := by decide +kernel
theorem dX11_fault_4 : decode cX11_fault 4 = .ok (.aload_n 0, 1) := by decide +kernel
theorem dX11_fault_5 : decode cX11_fault 5 = .ok (.getfield 117, 3) := by decide +kernel
theorem dX11_fault_8 : decode cX11_fault 8 = .ok (.ireturn, 1) := by decide +kernel
theorem dX11_fault_9 : decode cX11_fault 9 = .ok (.iload_n 1, 1) := by decide +kernel
theorem dX11_fault_10 : decode cX11_fault 10 = .ok (.iconst 1, 1) := by decide +kernel
theorem dX11_fault_11 : decode cX11_fault 11 = .ok (.if_icmp .ne 10, 3) := by decide +kernel
theorem dX11_fault_14 : decode cX11_fault 14 = .ok (.aload_n 0, 1) := by decide +kernel
theorem dX11_fault_15 : decode cX11_fault 15 = .ok (.getfield 13, 3) := by decide +kernel
theorem dX11_fault_18 : decode cX11_fault 18 = .ok (.goto 4, 3) := by decide +kernel
theorem dX11_fault_21 : decode cX11_fault 21 = .ok (.iconst (-1), 1) := by decide +kernel
theorem dX11_fault_22 : decode cX11_fault 22 = .ok (.ireturn, 1) := by decide +kernel
theorem bX11_fault_0 {d : Nat} {P : Int → q_Mem → Prop} {M : q_Mem} (x1 : Int) (h : ((¬ x1 = 0) → ((¬ x1 = (1 : Int)) → P (-1) M) ∧ ((x1 = (1 : Int)) → P (M 1 3) M)) ∧ ((x1 = 0) → P (M 1 2) M)) : q_v mX11_fault d (qPI P) M 0 [some (qR 1), some (qI x1)] [] := by
  refine qr_iload_n 0 1 rfl (x := x1) rfl dX11_fault_0 ?_
  refine qr_if_ne 1 4 9 rfl (by decide) dX11_fault_1 (fun c1 => ?_) (fun c1 => ?_)
  · have h := h.1 c1
    refine qr_iload_n 9 10 rfl (x := x1) rfl dX11_fault_9 ?_
    refine qr_iconst 10 11 rfl (q_l32 _ rfl) dX11_fault_10 ?_
    refine qr_icmp_ne 11 14 21 rfl (by decide) dX11_fault_11 (fun c11 => ?_) (fun c11 => ?_)
    · have h := h.1 c11
      refine qr_iconst 21 22 rfl (q_l32 _ rfl) dX11_fault_21 ?_
      exact qe_i 22 rfl dX11_fault_22 h
    · have h := h.2 c11
      refine qr_aload_n 14 15 rfl (x := 1) rfl dX11_fault_14 ?_
      refine qg_i 15 18 rfl ck11 3 (kk := 3) (by decide) (by decide +kernel) (by decide +kernel) rfl wm_380 rfl dX11_fault_15 ?_
      refine qr_goto 18 22 (by decide) dX11_fault_18 ?_
      exact qe_i 22 rfl dX11_fault_22 h
  · have h := h.2 c1
    refine qr_aload_n 4 5 rfl (x := 1) rfl dX11_fault_4 ?_
    refine qg_i 5 8 rfl ck11 2 (kk := 2) (by decide) (by decide +kernel) (by decide +kernel) rfl wm_379 rfl dX11_fault_5 ?_
    exact qe_i 8 rfl dX11_fault_8 h
theorem dX11_link_0 : decode cX11_link 0 = .ok (.aload_n 0, 1) := by decide +kernel
theorem dX11_link_1 : decode cX11_link 1 = .ok (.iload_n 1, 1) := by decide +kernel
theorem dX11_link_2 : decode cX11_link 2 = .ok (.invokevirtual 136, 3) := by decide +kernel
theorem dX11_link_5 : decode cX11_link 5 = .ok (.ifCond .eq 12, 3) := by decide +kernel
theorem dX11_link_8 : decode cX11_link 8 = .ok (.iload_n 2, 1) := by decide +kernel
theorem dX11_link_9 : decode cX11_link 9 = .ok (.ifCond .lt 8, 3) := by decide +kernel
theorem dX11_link_12 : decode cX11_link 12 = .ok (.iload_n 2, 1) := by decide +kernel
theorem dX11_link_13 : decode cX11_link 13 = .ok (.iconst 3, 1) := by decide +kernel
theorem dX11_link_14 : decode cX11_link 14 = .ok (.if_icmp .le 6, 3) := by decide +kernel
theorem dX11_link_17 : decode cX11_link 17 = .ok (.bipush (-2), 2) := by decide +kernel
theorem dX11_link_19 : decode cX11_link 19 = .ok (.ireturn, 1) := by decide +kernel
theorem dX11_link_20 : decode cX11_link 20 = .ok (.iload_n 2, 1) := by decide +kernel
theorem dX11_link_21 : decode cX11_link 21 = .ok (.ifCond .ne 13, 3) := by decide +kernel
theorem dX11_link_24 : decode cX11_link 24 = .ok (.aload_n 0, 1) := by decide +kernel
theorem dX11_link_25 : decode cX11_link 25 = .ok (.getfield 20, 3) := by decide +kernel
theorem dX11_link_28 : decode cX11_link 28 = .ok (.getfield 140, 3) := by decide +kernel
theorem dX11_link_31 : decode cX11_link 31 = .ok (.iload_n 1, 1) := by decide +kernel
theorem dX11_link_32 : decode cX11_link 32 = .ok (.iaload, 1) := by decide +kernel
theorem dX11_link_33 : decode cX11_link 33 = .ok (.ireturn, 1) := by decide +kernel
theorem dX11_link_34 : decode cX11_link 34 = .ok (.iload_n 2, 1) := by decide +kernel
theorem dX11_link_35 : decode cX11_link 35 = .ok (.iconst 1, 1) := by decide +kernel
theorem dX11_link_36 : decode cX11_link 36 = .ok (.if_icmp .ne 13, 3) := by decide +kernel
theorem dX11_link_39 : decode cX11_link 39 = .ok (.aload_n 0, 1) := by decide +kernel
theorem dX11_link_40 : decode cX11_link 40 = .ok (.getfield 20, 3) := by decide +kernel
theorem dX11_link_43 : decode cX11_link 43 = .ok (.getfield 143, 3) := by decide +kernel
theorem dX11_link_46 : decode cX11_link 46 = .ok (.iload_n 1, 1) := by decide +kernel
theorem dX11_link_47 : decode cX11_link 47 = .ok (.iaload, 1) := by decide +kernel
theorem dX11_link_48 : decode cX11_link 48 = .ok (.ireturn, 1) := by decide +kernel
theorem dX11_link_49 : decode cX11_link 49 = .ok (.aload_n 0, 1) := by decide +kernel
theorem dX11_link_50 : decode cX11_link 50 = .ok (.invokevirtual 146, 3) := by decide +kernel
theorem dX11_link_53 : decode cX11_link 53 = .ok (.aload_n 0, 1) := by decide +kernel
theorem dX11_link_54 : decode cX11_link 54 = .ok (.getfield 70, 3) := by decide +kernel
theorem dX11_link_57 : decode cX11_link 57 = .ok (.getfield 149, 3) := by decide +kernel
theorem dX11_link_60 : decode cX11_link 60 = .ok (.iconst 2, 1) := by decide +kernel
theorem dX11_link_61 : decode cX11_link 61 = .ok (.iload_n 1, 1) := by decide +kernel
theorem dX11_link_62 : decode cX11_link 62 = .ok (.imul, 1) := by decide +kernel
theorem dX11_link_63 : decode cX11_link 63 = .ok (.iload_n 2, 1) := by decide +kernel
theorem dX11_link_64 : decode cX11_link 64 = .ok (.iadd, 1) := by decide +kernel
theorem dX11_link_65 : decode cX11_link 65 = .ok (.iconst 2, 1) := by decide +kernel
theorem dX11_link_66 : decode cX11_link 66 = .ok (.isub, 1) := by decide +kernel
theorem dX11_link_67 : decode cX11_link 67 = .ok (.iaload, 1) := by decide +kernel
theorem dX11_link_68 : decode cX11_link 68 = .ok (.ireturn, 1) := by decide +kernel
theorem bX11_link_0 {d : Nat} {P : Int → q_Mem → Prop} {M : q_Mem} (x1 x2 : Int) (h : q_kI yX11_hasLink mX11_hasLink d [qR 1, qI x1] M (fun v2 M1 => ((v2 = 0) → P (-2) M1) ∧ ((¬ (v2 = 0)) → ((x2 < 0) → P (-2) M1) ∧ ((¬ (x2 < 0)) → ((x2 ≤ (3 : Int)) → ((¬ x2 = 0) → ((¬ x2 = (1 : Int)) → q_kU yX11_needShape mX11_needShape d [qR 1] M1 (fun M3 => (0 ≤ (q_sub (q_add (q_mul 2 x1) x2) 2) ∧ (q_sub (q_add (q_mul 2 x1) x2) 2) < (32 : Int)) ∧ (P (M3 93 (q_sub (q_add (q_mul 2 x1) x2) 2)) M3))) ∧ ((x2 = (1 : Int)) → q_kd (M1 1 4) = 4 ∧ ((0 ≤ x1 ∧ x1 < (16 : Int)) ∧ (P (M1 (q_lay (M1 1 4) 5) x1) M1)))) ∧ ((x2 = 0) → q_kd (M1 1 4) = 4 ∧ ((0 ≤ x1 ∧ x1 < (16 : Int)) ∧ (P (M1 (q_lay (M1 1 4) 4) x1) M1)))) ∧ ((¬ (x2 ≤ (3 : Int))) → P (-2) M1))))) : q_v mX11_link d (qPI P) M 0 [some (qR 1), some (qI x1), some (qI x2)] [] := by
  refine qr_aload_n 0 1 rfl (x := 1) rfl dX11_link_0 ?_
  refine qr_iload_n 1 2 rfl (x := x1) rfl dX11_link_1 ?_
  refine qw_I 2 5 rfl (av := [qI x1]) ca_X11_hasLink wm_751 wp_28 wm_749 ck11 (by decide +kernel) rfl rfl (Nat.le_of_ble_eq_true rfl) dX11_link_2 h (fun v2 M1 h => ?_)
  refine qr_if_eq 5 8 17 rfl (by decide) dX11_link_5 (fun c5 => ?_) (fun c5 => ?_)
  · have h := h.1 c5
    refine qr_bipush 17 19 rfl (q_l32 _ rfl) (by decide) dX11_link_17 ?_
    exact qe_i 19 rfl dX11_link_19 h
  · have h := h.2 c5
    refine qr_iload_n 8 9 rfl (x := x2) rfl dX11_link_8 ?_
    refine qr_if_lt 9 12 17 rfl (by decide) dX11_link_9 (fun c9 => ?_) (fun c9 => ?_)
    · have h := h.1 c9
      refine qr_bipush 17 19 rfl (q_l32 _ rfl) (by decide) dX11_link_17 ?_
      exact qe_i 19 rfl dX11_link_19 h
    · have h := h.2 c9
      refine qr_iload_n 12 13 rfl (x := x2) rfl dX11_link_12 ?_
      refine qr_iconst 13 14 rfl (q_l32 _ rfl) dX11_link_13 ?_
      refine qr_icmp_le 14 17 20 rfl (by decide) dX11_link_14 (fun c14 => ?_) (fun c14 => ?_)
      · have h := h.1 c14
        refine qr_iload_n 20 21 rfl (x := x2) rfl dX11_link_20 ?_
        refine qr_if_ne 21 24 34 rfl (by decide) dX11_link_21 (fun c21 => ?_) (fun c21 => ?_)
        · have h := h.1 c21
          refine qr_iload_n 34 35 rfl (x := x2) rfl dX11_link_34 ?_
          refine qr_iconst 35 36 rfl (q_l32 _ rfl) dX11_link_35 ?_
          refine qr_icmp_ne 36 39 49 rfl (by decide) dX11_link_36 (fun c36 => ?_) (fun c36 => ?_)
          · have h := h.1 c36
            refine qr_aload_n 49 50 rfl (x := 1) rfl dX11_link_49 ?_
            refine qw_U 50 53 rfl (av := []) ca_X11_needShape wm_755 wp_29 wm_753 ck11 (by decide +kernel) rfl rfl (Nat.le_of_ble_eq_true rfl) dX11_link_50 h (fun M3 h => ?_)
            refine qr_aload_n 53 54 rfl (x := 1) rfl dX11_link_53 ?_
            refine qr_getF 54 57 rfl ck11 13 (by decide) (b := 91) (by decide +kernel) rfl (by decide +kernel) (by decide +kernel) wm_390 rfl dX11_link_54 ?_
            refine qr_getF 57 60 rfl ck6 4 (by decide) (b := 93) (by decide +kernel) rfl (by decide +kernel) (by decide +kernel) wm_227 rfl dX11_link_57 ?_
            refine qr_iconst 60 61 rfl (q_l32 _ rfl) dX11_link_60 ?_
            refine qr_iload_n 61 62 rfl (x := x1) rfl dX11_link_61 ?_
            refine qr_imul 62 63 rfl dX11_link_62 ?_
            refine qr_iload_n 63 64 rfl (x := x2) rfl dX11_link_63 ?_
            refine qr_iadd 64 65 rfl dX11_link_64 ?_
            refine qr_iconst 65 66 rfl (q_l32 _ rfl) dX11_link_65 ?_
            refine qr_isub 66 67 rfl dX11_link_66 ?_
            have hb4 := h.1
            have h := h.2
            refine qi_ld 67 68 rfl (N := 32) (by decide +kernel) (by decide +kernel) hb4.1 hb4.2 dX11_link_67 ?_
            exact qe_i 68 rfl dX11_link_68 h
          · have h := h.2 c36
            refine qr_aload_n 39 40 rfl (x := 1) rfl dX11_link_39 ?_
            refine qg_r 40 43 rfl ck11 4 (kk := 4) (by decide) (by decide +kernel) (by decide +kernel) rfl wm_381 rfl dX11_link_40 ?_
            have hk5 := h.1
            have h := h.2
            refine qr_getF 43 46 rfl ck4 5 (by decide) (b := (q_lay (M1 1 4) 5)) hk5 rfl (by decide +kernel) rfl wm_81 rfl dX11_link_43 ?_
            refine qr_iload_n 46 47 rfl (x := x1) rfl dX11_link_46 ?_
            have hb6 := h.1
            have h := h.2
            refine qi_ld 47 48 rfl (N := 16) (lk4_5 _ hk5) (ll4_5 _ hk5) hb6.1 hb6.2 dX11_link_47 ?_
            exact qe_i 48 rfl dX11_link_48 h
        · have h := h.2 c21
          refine qr_aload_n 24 25 rfl (x := 1) rfl dX11_link_24 ?_
          refine qg_r 25 28 rfl ck11 4 (kk := 4) (by decide) (by decide +kernel) (by decide +kernel) rfl wm_381 rfl dX11_link_25 ?_
          have hk7 := h.1
          have h := h.2
          refine qr_getF 28 31 rfl ck4 4 (by decide) (b := (q_lay (M1 1 4) 4)) hk7 rfl (by decide +kernel) rfl wm_77 rfl dX11_link_28 ?_
          refine qr_iload_n 31 32 rfl (x := x1) rfl dX11_link_31 ?_
          have hb8 := h.1
          have h := h.2
          refine qi_ld 32 33 rfl (N := 16) (lk4_4 _ hk7) (ll4_4 _ hk7) hb8.1 hb8.2 dX11_link_32 ?_
          exact qe_i 33 rfl dX11_link_33 h
      · have h := h.2 c14
        refine qr_bipush 17 19 rfl (q_l32 _ rfl) (by decide) dX11_link_17 ?_
        exact qe_i 19 rfl dX11_link_19 h
theorem dX11_weight_0 : decode cX11_weight 0 = .ok (.aload_n 0, 1) := by decide +kernel
theorem dX11_weight_1 : decode cX11_weight 1 = .ok (.iload_n 1, 1) := by decide +kernel
theorem dX11_weight_2 : decode cX11_weight 2 = .ok (.invokevirtual 136, 3) := by decide +kernel
theorem dX11_weight_5 : decode cX11_weight 5 = .ok (.ifCond .ne 6, 3) := by decide +kernel
theorem dX11_weight_8 : decode cX11_weight 8 = .ok (.ldc 152, 2) := by decide +kernel
theorem dX11_weight_10 : decode cX11_weight 10 = .ok (.ireturn, 1) := by decide +kernel
theorem dX11_weight_11 : decode cX11_weight 11 = .ok (.aload_n 0, 1) := by decide +kernel
theorem dX11_weight_12 : decode cX11_weight 12 = .ok (.iconst 2, 1) := by decide +kernel
theorem dX11_weight_13 : decode cX11_weight 13 = .ok (.invokevirtual 153, 3) := by decide +kernel
theorem dX11_weight_16 : decode cX11_weight 16 = .ok (.aload_n 0, 1) := by decide +kernel
theorem dX11_weight_17 : decode cX11_weight 17 = .ok (.getfield 63, 3) := by decide +kernel
theorem dX11_weight_20 : decode cX11_weight 20 = .ok (.iload_n 1, 1) := by decide +kernel
theorem dX11_weight_21 : decode cX11_weight 21 = .ok (.iaload, 1) := by decide +kernel
theorem dX11_weight_22 : decode cX11_weight 22 = .ok (.ireturn, 1) := by decide +kernel
theorem bX11_weight_0 {d : Nat} {P : Int → q_Mem → Prop} {M : q_Mem} (x1 : Int) (h : q_kI yX11_hasLink mX11_hasLink d [qR 1, qI x1] M (fun v2 M1 => ((¬ v2 = 0) → q_kU yX11_need mX11_need d [qR 1, qI 2] M1 (fun M3 => (0 ≤ x1 ∧ x1 < (16 : Int)) ∧ (P (M3 90 x1) M3))) ∧ ((v2 = 0) → P (-99000002) M1))) : q_v mX11_weight d (qPI P) M 0 [some (qR 1), some (qI x1)] [] := by
  refine qr_aload_n 0 1 rfl (x := 1) rfl dX11_weight_0 ?_
  refine qr_iload_n 1 2 rfl (x := x1) rfl dX11_weight_1 ?_
  refine qw_I 2 5 rfl (av := [qI x1]) ca_X11_hasLink wm_751 wp_28 wm_749 ck11 (by decide +kernel) rfl rfl (Nat.le_of_ble_eq_true rfl) dX11_weight_2 h (fun v2 M1 h => ?_)
  refine qr_if_ne 5 8 11 rfl (by decide) dX11_weight_5 (fun c5 => ?_) (fun c5 => ?_)
  · have h := h.1 c5
    refine qr_aload_n 11 12 rfl (x := 1) rfl dX11_weight_11 ?_
    refine qr_iconst 12 13 rfl (q_l32 _ rfl) dX11_weight_12 ?_
    refine qw_U 13 16 rfl (av := [qI 2]) ca_X11_need wm_791 wp_35 wm_789 ck11 (by decide +kernel) rfl rfl (Nat.le_of_ble_eq_true rfl) dX11_weight_13 h (fun M3 h => ?_)
    refine qr_aload_n 16 17 rfl (x := 1) rfl dX11_weight_16 ?_
    refine qr_getF 17 20 rfl ck11 12 (by decide) (b := 90) (by decide +kernel) rfl (by decide +kernel) (by decide +kernel) wm_389 rfl dX11_weight_17 ?_
    refine qr_iload_n 20 21 rfl (x := x1) rfl dX11_weight_20 ?_
    have hb4 := h.1
    have h := h.2
    refine qi_ld 21 22 rfl (N := 16) (by decide +kernel) (by decide +kernel) hb4.1 hb4.2 dX11_weight_21 ?_
    exact qe_i 22 rfl dX11_weight_22 h
  · have h := h.2 c5
    refine qr_ldc 8 10 rfl (v := (-99000002)) (q_l32 _ rfl) wm_788 dX11_weight_8 ?_
    exact qe_i 10 rfl dX11_weight_10 h
theorem dX11_round_0 : decode cX11_round 0 = .ok (.aload_n 0, 1) := by decide +kernel
theorem dX11_round_1 : decode cX11_round 1 = .ok (.iload_n 1, 1) := by decide +kernel
theorem dX11_round_2 : decode cX11_round 2 = .ok (.invokevirtual 156, 3) := by decide +kernel
theorem dX11_round_5 : decode cX11_round 5 = .ok (.ifCond .ne 6, 3) := by decide +kernel
theorem dX11_round_8 : decode cX11_round 8 = .ok (.bipush (-2), 2) := by decide +kernel
theorem dX11_round_10 : decode cX11_round 10 = .ok (.ireturn, 1) := by decide +kernel
theorem dX11_round_11 : decode cX11_round 11 = .ok (.iload_n 2, 1) := by decide +kernel
theorem dX11_round_12 : decode cX11_round 12 = .ok (.ifCond .ge 6, 3) := by decide +kernel
theorem dX11_round_15 : decode cX11_round 15 = .ok (.bipush (-3), 2) := by decide +kernel
theorem dX11_round_17 : decode cX11_round 17 = .ok (.ireturn, 1) := by decide +kernel
theorem dX11_round_18 : decode cX11_round 18 = .ok (.iload_n 2, 1) := by decide +kernel
theorem dX11_round_19 : decode cX11_round 19 = .ok (.aload_n 0, 1) := by decide +kernel
theorem dX11_round_20 : decode cX11_round 20 = .ok (.getfield 20, 3) := by decide +kernel
theorem dX11_round_23 : decode cX11_round 23 = .ok (.getfield 159, 3) := by decide +kernel
theorem dX11_round_26 : decode cX11_round 26 = .ok (.iload_n 1, 1) := by decide +kernel
theorem dX11_round_27 : decode cX11_round 27 = .ok (.iaload, 1) := by decide +kernel
theorem dX11_round_28 : decode cX11_round 28 = .ok (.if_icmp .ge 20, 3) := by decide +kernel
theorem dX11_round_31 : decode cX11_round 31 = .ok (.aload_n 0, 1) := by decide +kernel
theorem dX11_round_32 : decode cX11_round 32 = .ok (.getfield 37, 3) := by decide +kernel
theorem dX11_round_35 : decode cX11_round 35 = .ok (.getfield 162, 3) := by decide +kernel
theorem dX11_round_38 : decode cX11_round 38 = .ok (.iload_n 1, 1) := by decide +kernel
theorem dX11_round_39 : decode cX11_round 39 = .ok (.bipush 16, 2) := by decide +kernel
theorem dX11_round_41 : decode cX11_round 41 = .ok (.imul, 1) := by decide +kernel
theorem dX11_round_42 : decode cX11_round 42 = .ok (.iload_n 2, 1) := by decide +kernel
theorem dX11_round_43 : decode cX11_round 43 = .ok (.iadd, 1) := by decide +kernel
theorem dX11_round_44 : decode cX11_round 44 = .ok (.iaload, 1) := by decide +kernel
theorem dX11_round_45 : decode cX11_round 45 = .ok (.goto 4, 3) := by decide +kernel
theorem dX11_round_48 : decode cX11_round 48 = .ok (.iconst (-1), 1) := by decide +kernel
theorem dX11_round_49 : decode cX11_round 49 = .ok (.ireturn, 1) := by decide +kernel
theorem bX11_round_0 {d : Nat} {P : Int → q_Mem → Prop} {M : q_Mem} (x1 x2 : Int) (h : q_kI yX11_hasNode mX11_hasNode d [qR 1, qI x1] M (fun v2 M1 => ((¬ v2 = 0) → ((0 ≤ x2) → q_kd (M1 1 4) = 4 ∧ ((0 ≤ x1 ∧ x1 < (10 : Int)) ∧ ((((M1 (q_lay (M1 1 4) 7) x1) ≤ x2) → P (-1) M1) ∧ ((¬ ((M1 (q_lay (M1 1 4) 7) x1) ≤ x2)) → (0 ≤ (q_add (q_mul x1 16) x2) ∧ (q_add (q_mul x1 16) x2) < (160 : Int)) ∧ (P (M1 52 (q_add (q_mul x1 16) x2)) M1))))) ∧ ((¬ (0 ≤ x2)) → P (-3) M1)) ∧ ((v2 = 0) → P (-2) M1))) : q_v mX11_round d (qPI P) M 0 [some (qR 1), some (qI x1), some (qI x2)] [] := by
  refine qr_aload_n 0 1 rfl (x := 1) rfl dX11_round_0 ?_
  refine qr_iload_n 1 2 rfl (x := x1) rfl dX11_round_1 ?_
  refine qw_I 2 5 rfl (av := [qI x1]) ca_X11_hasNode wm_896 wp_44 wm_894 ck11 (by decide +kernel) rfl rfl (Nat.le_of_ble_eq_true rfl) dX11_round_2 h (fun v2 M1 h => ?_)
  refine qr_if_ne 5 8 11 rfl (by decide) dX11_round_5 (fun c5 => ?_) (fun c5 => ?_)
  · have h := h.1 c5
    refine qr_iload_n 11 12 rfl (x := x2) rfl dX11_round_11 ?_
    refine qr_if_ge 12 15 18 rfl (by decide) dX11_round_12 (fun c12 => ?_) (fun c12 => ?_)
    · have h := h.1 c12
      refine qr_iload_n 18 19 rfl (x := x2) rfl dX11_round_18 ?_
      refine qr_aload_n 19 20 rfl (x := 1) rfl dX11_round_19 ?_
      refine qg_r 20 23 rfl ck11 4 (kk := 4) (by decide) (by decide +kernel) (by decide +kernel) rfl wm_381 rfl dX11_round_20 ?_
      have hk3 := h.1
      have h := h.2
      refine qr_getF 23 26 rfl ck4 7 (by decide) (b := (q_lay (M1 1 4) 7)) hk3 rfl (by decide +kernel) rfl wm_85 rfl dX11_round_23 ?_
      refine qr_iload_n 26 27 rfl (x := x1) rfl dX11_round_26 ?_
      have hb4 := h.1
      have h := h.2
      refine qi_ld 27 28 rfl (N := 10) (lk4_7 _ hk3) (ll4_7 _ hk3) hb4.1 hb4.2 dX11_round_27 ?_
      refine qr_icmp_ge 28 31 48 rfl (by decide) dX11_round_28 (fun c28 => ?_) (fun c28 => ?_)
      · have h := h.1 c28
        refine qr_iconst 48 49 rfl (q_l32 _ rfl) dX11_round_48 ?_
        exact qe_i 49 rfl dX11_round_49 h
      · have h := h.2 c28
        refine qr_aload_n 31 32 rfl (x := 1) rfl dX11_round_31 ?_
        refine qr_getF 32 35 rfl ck11 7 (by decide) (b := 50) (by decide +kernel) rfl (by decide +kernel) (by decide +kernel) wm_384 rfl dX11_round_32 ?_
        refine qr_getF 35 38 rfl ck7 3 (by decide) (b := 52) (by decide +kernel) rfl (by decide +kernel) (by decide +kernel) wm_175 rfl dX11_round_35 ?_
        refine qr_iload_n 38 39 rfl (x := x1) rfl dX11_round_38 ?_
        refine qr_bipush 39 41 rfl (q_l32 _ rfl) (by decide) dX11_round_39 ?_
        refine qr_imul 41 42 rfl dX11_round_41 ?_
        refine qr_iload_n 42 43 rfl (x := x2) rfl dX11_round_42 ?_
        refine qr_iadd 43 44 rfl dX11_round_43 ?_
        have hb5 := h.1
        have h := h.2
        refine qi_ld 44 45 rfl (N := 160) (by decide +kernel) (by decide +kernel) hb5.1 hb5.2 dX11_round_44 ?_
        refine qr_goto 45 49 (by decide) dX11_round_45 ?_
        exact qe_i 49 rfl dX11_round_49 h
    · have h := h.2 c12
      refine qr_bipush 15 17 rfl (q_l32 _ rfl) (by decide) dX11_round_15 ?_
      exact qe_i 17 rfl dX11_round_17 h
  · have h := h.2 c5
    refine qr_bipush 8 10 rfl (q_l32 _ rfl) (by decide) dX11_round_8 ?_
    exact qe_i 10 rfl dX11_round_10 h
theorem dX11_next_0 : decode cX11_next 0 = .ok (.iload_n 1, 1) := by decide +kernel
theorem dX11_next_1 : decode cX11_next 1 = .ok (.ifCond .lt 16, 3) := by decide +kernel
theorem dX11_next_4 : decode cX11_next 4 = .ok (.iload_n 1, 1) := by decide +kernel
theorem dX11_next_5 : decode cX11_next 5 = .ok (.iconst 2, 1) := by decide +kernel
theorem dX11_next_6 : decode cX11_next 6 = .ok (.aload_n 0, 1) := by decide +kernel
theorem dX11_next_7 : decode cX11_next 7 = .ok (.getfield 20, 3) := by decide +kernel
theorem dX11_next_10 : decode cX11_next 10 = .ok (.getfield 165, 3) := by decide +kernel
theorem dX11_next_13 : decode cX11_next 13 = .ok (.imul, 1) := by decide +kernel
theorem dX11_next_14 : decode cX11_next 14 = .ok (.if_icmp .lt 6, 3) := by decide +kernel
theorem dX11_next_17 : decode cX11_next 17 = .ok (.bipush (-2), 2) := by decide +kernel
theorem dX11_next_19 : decode cX11_next 19 = .ok (.ireturn, 1) := by decide +kernel
theorem dX11_next_20 : decode cX11_next 20 = .ok (.aload_n 0, 1) := by decide +kernel
theorem dX11_next_21 : decode cX11_next 21 = .ok (.invokevirtual 146, 3) := by decide +kernel
theorem dX11_next_24 : decode cX11_next 24 = .ok (.aload_n 0, 1) := by decide +kernel
theorem dX11_next_25 : decode cX11_next 25 = .ok (.getfield 70, 3) := by decide +kernel
theorem dX11_next_28 : decode cX11_next 28 = .ok (.getfield 168, 3) := by decide +kernel
theorem dX11_next_31 : decode cX11_next 31 = .ok (.iload_n 1, 1) := by decide +kernel
theorem dX11_next_32 : decode cX11_next 32 = .ok (.iaload, 1) := by decide +kernel
theorem dX11_next_33 : decode cX11_next 33 = .ok (.ireturn, 1) := by decide +kernel
theorem bX11_next_0 {d : Nat} {P : Int → q_Mem → Prop} {M : q_Mem} (x1 : Int) (h : ((x1 < 0) → P (-2) M) ∧ ((¬ (x1 < 0)) → q_kd (M 1 4) = 4 ∧ (((x1 < (q_mul 2 (M (M 1 4) 1))) → q_kU yX11_needShape mX11_needShape d [qR 1] M (fun M2 => (0 ≤ x1 ∧ x1 < (32 : Int)) ∧ (P (M2 92 x1) M2))) ∧ ((¬ (x1 < (q_mul 2 (M (M 1 4) 1)))) → P (-2) M)))) : q_v mX11_next d (qPI P) M 0 [some (qR 1), some (qI x1)] [] := by
  refine qr_iload_n 0 1 rfl (x := x1) rfl dX11_next_0 ?_
  refine qr_if_lt 1 4 17 rfl (by decide) dX11_next_1 (fun c1 => ?_) (fun c1 => ?_)
  · have h := h.1 c1
    refine qr_bipush 17 19 rfl (q_l32 _ rfl) (by decide) dX11_next_17 ?_
    exact qe_i 19 rfl dX11_next_19 h
  · have h := h.2 c1
    refine qr_iload_n 4 5 rfl (x := x1) rfl dX11_next_4 ?_
    refine qr_iconst 5 6 rfl (q_l32 _ rfl) dX11_next_5 ?_
    refine qr_aload_n 6 7 rfl (x := 1) rfl dX11_next_6 ?_
    refine qg_r 7 10 rfl ck11 4 (kk := 4) (by decide) (by decide +kernel) (by decide +kernel) rfl wm_381 rfl dX11_next_7 ?_
    have hk1 := h.1
    have h := h.2
    refine qg_i 10 13 rfl ck4 1 (kk := 1) (by decide) hk1 (by decide +kernel) rfl wm_68 rfl dX11_next_10 ?_
    refine qr_imul 13 14 rfl dX11_next_13 ?_
    refine qr_icmp_lt 14 17 20 rfl (by decide) dX11_next_14 (fun c14 => ?_) (fun c14 => ?_)
    · have h := h.1 c14
      refine qr_aload_n 20 21 rfl (x := 1) rfl dX11_next_20 ?_
      refine qw_U 21 24 rfl (av := []) ca_X11_needShape wm_755 wp_29 wm_753 ck11 (by decide +kernel) rfl rfl (Nat.le_of_ble_eq_true rfl) dX11_next_21 h (fun M2 h => ?_)
      refine qr_aload_n 24 25 rfl (x := 1) rfl dX11_next_24 ?_
      refine qr_getF 25 28 rfl ck11 13 (by decide) (b := 91) (by decide +kernel) rfl (by decide +kernel) (by decide +kernel) wm_390 rfl dX11_next_25 ?_
      refine qr_getF 28 31 rfl ck6 3 (by decide) (b := 92) (by decide +kernel) rfl (by decide +kernel) (by decide +kernel) wm_224 rfl dX11_next_28 ?_
      refine qr_iload_n 31 32 rfl (x := x1) rfl dX11_next_31 ?_
      have hb3 := h.1
      have h := h.2
      refine qi_ld 32 33 rfl (N := 32) (by decide +kernel) (by decide +kernel) hb3.1 hb3.2 dX11_next_32 ?_
      exact qe_i 33 rfl dX11_next_33 h
    · have h := h.2 c14
      refine qr_bipush 17 19 rfl (q_l32 _ rfl) (by decide) dX11_next_17 ?_
      exact qe_i 19 rfl dX11_next_19 h
theorem dX11_hasLink_0 : decode cX11_hasLink 0 = .ok (.iload_n 1, 1) := by decide +kernel
theorem dX11_hasLink_1 : decode cX11_hasLink 1 = .ok (.ifCond .lt 18, 3) := by decide +kernel
theorem dX11_hasLink_4 : decode cX11_hasLink 4 = .ok (.iload_n 1, 1) := by decide +kernel
theorem dX11_hasLink_5 : decode cX11_hasLink 5 = .ok (.aload_n 0, 1) := by decide +kernel
theorem dX11_hasLink_6 : decode cX11_hasLink 6 = .ok (.getfield 20, 3) := by decide +kernel
theorem dX11_hasLink_9 : decode cX11_hasLink 9 = .ok (.getfield 165, 3) := by decide +kernel
theorem dX11_hasLink_12 : decode cX11_hasLink 12 = .ok (.if_icmp .ge 7, 3) := by decide +kernel
theorem dX11_hasLink_15 : decode cX11_hasLink 15 = .ok (.iconst 1, 1) := by decide +kernel
theorem dX11_hasLink_16 : decode cX11_hasLink 16 = .ok (.goto 4, 3) := by decide +kernel
theorem dX11_hasLink_19 : decode cX11_hasLink 19 = .ok (.iconst 0, 1) := by decide +kernel
theorem dX11_hasLink_20 : decode cX11_hasLink 20 = .ok (.ireturn, 1) := by decide +kernel
theorem bX11_hasLink_0 {d : Nat} {P : Int → q_Mem → Prop} {M : q_Mem} (x1 : Int) (h : ((x1 < 0) → P 0 M) ∧ ((¬ (x1 < 0)) → q_kd (M 1 4) = 4 ∧ ((((M (M 1 4) 1) ≤ x1) → P 0 M) ∧ ((¬ ((M (M 1 4) 1) ≤ x1)) → P 1 M)))) : q_v mX11_hasLink d (qPI P) M 0 [some (qR 1), some (qI x1)] [] := by
  refine qr_iload_n 0 1 rfl (x := x1) rfl dX11_hasLink_0 ?_
  refine qr_if_lt 1 4 19 rfl (by decide) dX11_hasLink_1 (fun c1 => ?_) (fun c1 => ?_)
  · have h := h.1 c1
    refine qr_iconst 19 20 rfl (q_l32 _ rfl) dX11_hasLink_19 ?_
    exact qe_z 20 rfl (by decide) dX11_hasLink_20 h
  · have h := h.2 c1
    refine qr_iload_n 4 5 rfl (x := x1) rfl dX11_hasLink_4 ?_
    refine qr_aload_n 5 6 rfl (x := 1) rfl dX11_hasLink_5 ?_
    refine qg_r 6 9 rfl ck11 4 (kk := 4) (by decide) (by decide +kernel) (by decide +kernel) rfl wm_381 rfl dX11_hasLink_6 ?_
    have hk1 := h.1
    have h := h.2
    refine qg_i 9 12 rfl ck4 1 (kk := 1) (by decide) hk1 (by decide +kernel) rfl wm_68 rfl dX11_hasLink_9 ?_
    refine qr_icmp_ge 12 15 19 rfl (by decide) dX11_hasLink_12 (fun c12 => ?_) (fun c12 => ?_)
    · have h := h.1 c12
      refine qr_iconst 19 20 rfl (q_l32 _ rfl) dX11_hasLink_19 ?_
      exact qe_z 20 rfl (by decide) dX11_hasLink_20 h
    · have h := h.2 c12
      refine qr_iconst 15 16 rfl (q_l32 _ rfl) dX11_hasLink_15 ?_
      refine qr_goto 16 20 (by decide) dX11_hasLink_16 ?_
      exact qe_z 20 rfl (by decide) dX11_hasLink_20 h
theorem dX11_hasNode_0 : decode cX11_hasNode 0 = .ok (.iload_n 1, 1) := by decide +kernel
theorem dX11_hasNode_1 : decode cX11_hasNode 1 = .ok (.ifCond .lt 18, 3) := by decide +kernel
theorem dX11_hasNode_4 : decode cX11_hasNode 4 = .ok (.iload_n 1, 1) := by decide +kernel
theorem dX11_hasNode_5 : decode cX11_hasNode 5 = .ok (.aload_n 0, 1) := by decide +kernel
theorem dX11_hasNode_6 : decode cX11_hasNode 6 = .ok (.getfield 20, 3) := by decide +kernel
theorem dX11_hasNode_9 : decode cX11_hasNode 9 = .ok (.getfield 171, 3) := by decide +kernel
theorem dX11_hasNode_12 : decode cX11_hasNode 12 = .ok (.if_icmp .ge 7, 3) := by decide +kernel
theorem dX11_hasNode_15 : decode cX11_hasNode 15 = .ok (.iconst 1, 1) := by decide +kernel
theorem dX11_hasNode_16 : decode cX11_hasNode 16 = .ok (.goto 4, 3) := by decide +kernel
theorem dX11_hasNode_19 : decode cX11_hasNode 19 = .ok (.iconst 0, 1) := by decide +kernel
theorem dX11_hasNode_20 : decode cX11_hasNode 20 = .ok (.ireturn, 1) := by decide +kernel
theorem bX11_hasNode_0 {d : Nat} {P : Int → q_Mem → Prop} {M : q_Mem} (x1 : Int) (h : ((x1 < 0) → P 0 M) ∧ ((¬ (x1 < 0)) → q_kd (M 1 4) = 4 ∧ ((((M (M 1 4) 0) ≤ x1) → P 0 M) ∧ ((¬ ((M (M 1 4) 0) ≤ x1)) → P 1 M)))) : q_v mX11_hasNode d (qPI P) M 0 [some (qR 1), some (qI x1)] [] := by
  refine qr_iload_n 0 1 rfl (x := x1) rfl dX11_hasNode_0 ?_
  refine qr_if_lt 1 4 19 rfl (by decide) dX11_hasNode_1 (fun c1 => ?_) (fun c1 => ?_)
  · have h := h.1 c1
    refine qr_iconst 19 20 rfl (q_l32 _ rfl) dX11_hasNode_19 ?_
    exact qe_z 20 rfl (by decide) dX11_hasNode_20 h
  · have h := h.2 c1
    refine qr_iload_n 4 5 rfl (x := x1) rfl dX11_hasNode_4 ?_
    refine qr_aload_n 5 6 rfl (x := 1) rfl dX11_hasNode_5 ?_
    refine qg_r 6 9 rfl ck11 4 (kk := 4) (by decide) (by decide +kernel) (by decide +kernel) rfl wm_381 rfl dX11_hasNode_6 ?_
    have hk1 := h.1
    have h := h.2
    refine qg_i 9 12 rfl ck4 0 (kk := 0) (by decide) hk1 (by decide +kernel) rfl wm_63 rfl dX11_hasNode_9 ?_
    refine qr_icmp_ge 12 15 19 rfl (by decide) dX11_hasNode_12 (fun c12 => ?_) (fun c12 => ?_)
    · have h := h.1 c12
      refine qr_iconst 19 20 rfl (q_l32 _ rfl) dX11_hasNode_19 ?_
      exact qe_z 20 rfl (by decide) dX11_hasNode_20 h
    · have h := h.2 c12
      refine qr_iconst 15 16 rfl (q_l32 _ rfl) dX11_hasNode_15 ?_
      refine qr_goto 16 20 (by decide) dX11_hasNode_16 ?_
      exact qe_z 20 rfl (by decide) dX11_hasNode_20 h
theorem dX11_weigh_0 : decode cX11_weigh 0 = .ok (.aload_n 0, 1) := by decide +kernel
theorem dX11_weigh_1 : decode cX11_weigh 1 = .ok (.iload_n 1, 1) := by decide +kernel
theorem dX11_weigh_2 : decode cX11_weigh 2 = .ok (.iload_n 2, 1) := by decide +kernel
theorem dX11_weigh_3 : decode cX11_weigh 3 = .ok (.invokevirtual 174, 3) := by decide +kernel
theorem dX11_weigh_6 : decode cX11_weigh 6 = .ok (.ifCond .ne 6, 3) := by decide +kernel
theorem dX11_weigh_9 : decode cX11_weigh 9 = .ok (.ldc 178, 2) := by decide +kernel
theorem dX11_weigh_11 : decode cX11_weigh 11 = .ok (.ireturn, 1) := by decide +kernel
theorem dX11_weigh_12 : decode cX11_weigh 12 = .ok (.aload_n 0, 1) := by decide +kernel
theorem dX11_weigh_13 : decode cX11_weigh 13 = .ok (.getfield 47, 3) := by decide +kernel
theorem dX11_weigh_16 : decode cX11_weigh 16 = .ok (.aload_n 0, 1) := by decide +kernel
theorem dX11_weigh_17 : decode cX11_weigh 17 = .ok (.getfield 37, 3) := by decide +kernel
theorem dX11_weigh_20 : decode cX11_weigh 20 = .ok (.invokevirtual 179, 3) := by decide +kernel
theorem dX11_weigh_23 : decode cX11_weigh 23 = .ok (.aload_n 0, 1) := by decide +kernel
theorem dX11_weigh_24 : decode cX11_weigh 24 = .ok (.getfield 37, 3) := by decide +kernel
theorem dX11_weigh_27 : decode cX11_weigh 27 = .ok (.getfield 182, 3) := by decide +kernel
theorem dX11_weigh_30 : decode cX11_weigh 30 = .ok (.iload_n 1, 1) := by decide +kernel
theorem dX11_weigh_31 : decode cX11_weigh 31 = .ok (.iaload, 1) := by decide +kernel
theorem dX11_weigh_32 : decode cX11_weigh 32 = .ok (.istore_n 3, 1) := by decide +kernel
theorem dX11_weigh_33 : decode cX11_weigh 33 = .ok (.aload_n 0, 1) := by decide +kernel
theorem dX11_weigh_34 : decode cX11_weigh 34 = .ok (.iload_n 1, 1) := by decide +kernel
theorem dX11_weigh_35 : decode cX11_weigh 35 = .ok (.iload_n 2, 1) := by decide +kernel
theorem dX11_weigh_36 : decode cX11_weigh 36 = .ok (.invokevirtual 185, 3) := by decide +kernel
theorem dX11_weigh_39 : decode cX11_weigh 39 = .ok (.iload_n 3, 1) := by decide +kernel
theorem dX11_weigh_40 : decode cX11_weigh 40 = .ok (.ireturn, 1) := by decide +kernel
theorem bX11_weigh_0 {d : Nat} {P : Int → q_Mem → Prop} {M : q_Mem} (x1 x2 : Int) (h : q_kI yX11_canWeigh mX11_canWeigh d [qR 1, qI x1, qI x2] M (fun v2 M1 => ((¬ v2 = 0) → q_kU yX0_keep mX0_keep d [qR 56, qR 50] M1 (fun M3 => (0 ≤ x1 ∧ x1 < (16 : Int)) ∧ (∀ x3_5 : Int, x3_5 = (M3 51 x1) → q_kU yX11_setGain mX11_setGain d [qR 1, qI x1, qI x2] M3 (fun M6 => P x3_5 M6)))) ∧ ((v2 = 0) → P (-99000011) M1))) : q_v mX11_weigh d (qPI P) M 0 [some (qR 1), some (qI x1), some (qI x2), none] [] := by
  refine qr_aload_n 0 1 rfl (x := 1) rfl dX11_weigh_0 ?_
  refine qr_iload_n 1 2 rfl (x := x1) rfl dX11_weigh_1 ?_
  refine qr_iload_n 2 3 rfl (x := x2) rfl dX11_weigh_2 ?_
  refine qw_I 3 6 rfl (av := [qI x1, qI x2]) ca_X11_canWeigh wm_908 wp_45 wm_906 ck11 (by decide +kernel) rfl rfl (Nat.le_of_ble_eq_true rfl) dX11_weigh_3 h (fun v2 M1 h => ?_)
  refine qr_if_ne 6 9 12 rfl (by decide) dX11_weigh_6 (fun c6 => ?_) (fun c6 => ?_)
  · have h := h.1 c6
    refine qr_aload_n 12 13 rfl (x := 1) rfl dX11_weigh_12 ?_
    refine qr_getF 13 16 rfl ck11 9 (by decide) (b := 56) (by decide +kernel) rfl (by decide +kernel) (by decide +kernel) wm_386 rfl dX11_weigh_13 ?_
    refine qr_aload_n 16 17 rfl (x := 1) rfl dX11_weigh_16 ?_
    refine qr_getF 17 20 rfl ck11 7 (by decide) (b := 50) (by decide +kernel) rfl (by decide +kernel) (by decide +kernel) wm_384 rfl dX11_weigh_17 ?_
    refine qw_U 20 23 rfl (av := [qR 50]) ca_X0_keep wm_912 wm_913 wm_911 ck0 (by decide +kernel) rfl rfl (Nat.le_of_ble_eq_true rfl) dX11_weigh_20 h (fun M3 h => ?_)
    refine qr_aload_n 23 24 rfl (x := 1) rfl dX11_weigh_23 ?_
    refine qr_getF 24 27 rfl ck11 7 (by decide) (b := 50) (by decide +kernel) rfl (by decide +kernel) (by decide +kernel) wm_384 rfl dX11_weigh_24 ?_
    refine qr_getF 27 30 rfl ck7 2 (by decide) (b := 51) (by decide +kernel) rfl (by decide +kernel) (by decide +kernel) wm_173 rfl dX11_weigh_27 ?_
    refine qr_iload_n 30 31 rfl (x := x1) rfl dX11_weigh_30 ?_
    have hb4 := h.1
    have h := h.2
    refine qi_ld 31 32 rfl (N := 16) (by decide +kernel) (by decide +kernel) hb4.1 hb4.2 dX11_weigh_31 ?_
    refine qn_i 32 (fun x3_5 e_x3_5 => ?_)
    have h := h x3_5 e_x3_5
    refine qr_istore_n 32 33 rfl (by decide) rfl rfl dX11_weigh_32 ?_
    refine qr_aload_n 33 34 rfl (x := 1) rfl dX11_weigh_33 ?_
    refine qr_iload_n 34 35 rfl (x := x1) rfl dX11_weigh_34 ?_
    refine qr_iload_n 35 36 rfl (x := x2) rfl dX11_weigh_35 ?_
    refine qw_U 36 39 rfl (av := [qI x1, qI x2]) ca_X11_setGain wm_923 wp_46 wm_921 ck11 (by decide +kernel) rfl rfl (Nat.le_of_ble_eq_true rfl) dX11_weigh_36 h (fun M6 h => ?_)
    refine qr_iload_n 39 40 rfl (x := x3_5) rfl dX11_weigh_39 ?_
    exact qe_i 40 rfl dX11_weigh_40 h
  · have h := h.2 c6
    refine qr_ldc 9 11 rfl (v := (-99000011)) (q_l32 _ rfl) wm_910 dX11_weigh_9 ?_
    exact qe_i 11 rfl dX11_weigh_11 h
theorem dX11_flip_0 : decode cX11_flip 0 = .ok (.aload_n 0, 1) := by decide +kernel
theorem dX11_flip_1 : decode cX11_flip 1 = .ok (.iload_n 1, 1) := by decide +kernel
theorem dX11_flip_2 : decode cX11_flip 2 = .ok (.invokevirtual 156, 3) := by decide +kernel
theorem dX11_flip_5 : decode cX11_flip 5 = .ok (.ifCond .ne 6, 3) := by decide +kernel
theorem dX11_flip_8 : decode cX11_flip 8 = .ok (.ldc 178, 2) := by decide +kernel
theorem dX11_flip_10 : decode cX11_flip 10 = .ok (.ireturn, 1) := by decide +kernel
theorem dX11_flip_11 : decode cX11_flip 11 = .ok (.aload_n 0, 1) := by decide +kernel
theorem dX11_flip_12 : decode cX11_flip 12 = .ok (.getfield 47, 3) := by decide +kernel
theorem dX11_flip_15 : decode cX11_flip 15 = .ok (.aload_n 0, 1) := by decide +kernel
theorem dX11_flip_16 : decode cX11_flip 16 = .ok (.getfield 37, 3) := by decide +kernel
theorem dX11_flip_19 : decode cX11_flip 19 = .ok (.invokevirtual 179, 3) := by decide +kernel
theorem dX11_flip_22 : decode cX11_flip 22 = .ok (.aload_n 0, 1) := by decide +kernel
theorem dX11_flip_23 : decode cX11_flip 23 = .ok (.getfield 37, 3) := by decide +kernel
theorem dX11_flip_26 : decode cX11_flip 26 = .ok (.dup, 1) := by decide +kernel
theorem dX11_flip_27 : decode cX11_flip 27 = .ok (.getfield 189, 3) := by decide +kernel
theorem dX11_flip_30 : decode cX11_flip 30 = .ok (.iconst 1, 1) := by decide +kernel
theorem dX11_flip_31 : decode cX11_flip 31 = .ok (.iload_n 1, 1) := by decide +kernel
theorem dX11_flip_32 : decode cX11_flip 32 = .ok (.ishl, 1) := by decide +kernel
theorem dX11_flip_33 : decode cX11_flip 33 = .ok (.ixor, 1) := by decide +kernel
theorem dX11_flip_34 : decode cX11_flip 34 = .ok (.putfield 189, 3) := by decide +kernel
theorem dX11_flip_37 : decode cX11_flip 37 = .ok (.aload_n 0, 1) := by decide +kernel
theorem dX11_flip_38 : decode cX11_flip 38 = .ok (.invokevirtual 192, 3) := by decide +kernel
theorem dX11_flip_41 : decode cX11_flip 41 = .ok (.ireturn, 1) := by decide +kernel
theorem bX11_flip_0 {d : Nat} {P : Int → q_Mem → Prop} {M : q_Mem} (x1 : Int) (h : q_kI yX11_hasNode mX11_hasNode d [qR 1, qI x1] M (fun v2 M1 => ((¬ v2 = 0) → q_kU yX0_keep mX0_keep d [qR 56, qR 50] M1 (fun M3 => (∀ M4 : q_Mem, M4 = q_up M3 50 1 (q_xor (M3 50 1) (q_shl 1 x1)) → q_kI yX11_worth mX11_worth d [qR 1] M4 (fun v6 M5 => P v6 M5)))) ∧ ((v2 = 0) → P (-99000011) M1))) : q_v mX11_flip d (qPI P) M 0 [some (qR 1), some (qI x1)] [] := by
  refine qr_aload_n 0 1 rfl (x := 1) rfl dX11_flip_0 ?_
  refine qr_iload_n 1 2 rfl (x := x1) rfl dX11_flip_1 ?_
  refine qw_I 2 5 rfl (av := [qI x1]) ca_X11_hasNode wm_896 wp_44 wm_894 ck11 (by decide +kernel) rfl rfl (Nat.le_of_ble_eq_true rfl) dX11_flip_2 h (fun v2 M1 h => ?_)
  refine qr_if_ne 5 8 11 rfl (by decide) dX11_flip_5 (fun c5 => ?_) (fun c5 => ?_)
  · have h := h.1 c5
    refine qr_aload_n 11 12 rfl (x := 1) rfl dX11_flip_11 ?_
    refine qr_getF 12 15 rfl ck11 9 (by decide) (b := 56) (by decide +kernel) rfl (by decide +kernel) (by decide +kernel) wm_386 rfl dX11_flip_12 ?_
    refine qr_aload_n 15 16 rfl (x := 1) rfl dX11_flip_15 ?_
    refine qr_getF 16 19 rfl ck11 7 (by decide) (b := 50) (by decide +kernel) rfl (by decide +kernel) (by decide +kernel) wm_384 rfl dX11_flip_16 ?_
    refine qw_U 19 22 rfl (av := [qR 50]) ca_X0_keep wm_912 wm_913 wm_911 ck0 (by decide +kernel) rfl rfl (Nat.le_of_ble_eq_true rfl) dX11_flip_19 h (fun M3 h => ?_)
    refine qr_aload_n 22 23 rfl (x := 1) rfl dX11_flip_22 ?_
    refine qr_getF 23 26 rfl ck11 7 (by decide) (b := 50) (by decide +kernel) rfl (by decide +kernel) (by decide +kernel) wm_384 rfl dX11_flip_23 ?_
    refine qr_dup 26 27 rfl rfl dX11_flip_26 ?_
    refine qg_i 27 30 rfl ck7 1 (kk := 1) (by decide) (by decide +kernel) (by decide +kernel) rfl wm_170 rfl dX11_flip_27 ?_
    refine qr_iconst 30 31 rfl (q_l32 _ rfl) dX11_flip_30 ?_
    refine qr_iload_n 31 32 rfl (x := x1) rfl dX11_flip_31 ?_
    refine qr_ishl 32 33 rfl dX11_flip_32 ?_
    refine qr_ixor 33 34 rfl dX11_flip_33 ?_
    refine qp_i 34 37 rfl ck7 1 (kk := 1) (by decide) (by decide +kernel) (by decide) rfl rfl wm_170 rfl dX11_flip_34 (fun M4 e_M4 => ?_)
    have h := h M4 e_M4
    refine qr_aload_n 37 38 rfl (x := 1) rfl dX11_flip_37 ?_
    refine qw_I 38 41 rfl (av := []) ca_X11_worth wm_930 wm_931 wm_929 ck11 (by decide +kernel) rfl rfl (Nat.le_of_ble_eq_true rfl) dX11_flip_38 h (fun v6 M5 h => ?_)
    exact qe_i 41 rfl dX11_flip_41 h
  · have h := h.2 c5
    refine qr_ldc 8 10 rfl (v := (-99000011)) (q_l32 _ rfl) wm_910 dX11_flip_8 ?_
    exact qe_i 10 rfl dX11_flip_10 h
theorem dX11_turn_0 : decode cX11_turn 0 = .ok (.aload_n 0, 1) := by decide +kernel
theorem dX11_turn_1 : decode cX11_turn 1 = .ok (.iload_n 1, 1) := by decide +kernel
theorem dX11_turn_2 : decode cX11_turn 2 = .ok (.iload_n 2, 1) := by decide +kernel
theorem dX11_turn_3 : decode cX11_turn 3 = .ok (.invokevirtual 196, 3) := by decide +kernel
theorem dX11_turn_6 : decode cX11_turn 6 = .ok (.ifCond .ne 6, 3) := by decide +kernel
theorem dX11_turn_9 : decode cX11_turn 9 = .ok (.bipush (-11), 2) := by decide +kernel
theorem dX11_turn_11 : decode cX11_turn 11 = .ok (.ireturn, 1) := by decide +kernel
theorem dX11_turn_12 : decode cX11_turn 12 = .ok (.aload_n 0, 1) := by decide +kernel
theorem dX11_turn_13 : decode cX11_turn 13 = .ok (.getfield 47, 3) := by decide +kernel
theorem dX11_turn_16 : decode cX11_turn 16 = .ok (.aload_n 0, 1) := by decide +kernel
theorem dX11_turn_17 : decode cX11_turn 17 = .ok (.getfield 37, 3) := by decide +kernel
theorem dX11_turn_20 : decode cX11_turn 20 = .ok (.invokevirtual 179, 3) := by decide +kernel
theorem dX11_turn_23 : decode cX11_turn 23 = .ok (.aload_n 0, 1) := by decide +kernel
theorem dX11_turn_24 : decode cX11_turn 24 = .ok (.iload_n 1, 1) := by decide +kernel
theorem dX11_turn_25 : decode cX11_turn 25 = .ok (.iload_n 2, 1) := by decide +kernel
theorem dX11_turn_26 : decode cX11_turn 26 = .ok (.invokevirtual 199, 3) := by decide +kernel
theorem dX11_turn_29 : decode cX11_turn 29 = .ok (.aload_n 0, 1) := by decide +kernel
theorem dX11_turn_30 : decode cX11_turn 30 = .ok (.invokevirtual 202, 3) := by decide +kernel
theorem dX11_turn_33 : decode cX11_turn 33 = .ok (.ireturn, 1) := by decide +kernel
theorem bX11_turn_0 {d : Nat} {P : Int → q_Mem → Prop} {M : q_Mem} (x1 x2 : Int) (h : q_kI yX11_canTurn mX11_canTurn d [qR 1, qI x1, qI x2] M (fun v2 M1 => ((¬ v2 = 0) → q_kU yX0_keep mX0_keep d [qR 56, qR 50] M1 (fun M3 => q_kU yX11_swapPlaces mX11_swapPlaces d [qR 1, qI x1, qI x2] M3 (fun M4 => q_kI yX11_twists mX11_twists d [qR 1] M4 (fun v6 M5 => P v6 M5)))) ∧ ((v2 = 0) → P (-11) M1))) : q_v mX11_turn d (qPI P) M 0 [some (qR 1), some (qI x1), some (qI x2)] [] := by
  refine qr_aload_n 0 1 rfl (x := 1) rfl dX11_turn_0 ?_
  refine qr_iload_n 1 2 rfl (x := x1) rfl dX11_turn_1 ?_
  refine qr_iload_n 2 3 rfl (x := x2) rfl dX11_turn_2 ?_
  refine qw_I 3 6 rfl (av := [qI x1, qI x2]) ca_X11_canTurn wm_951 wp_50 wm_949 ck11 (by decide +kernel) rfl rfl (Nat.le_of_ble_eq_true rfl) dX11_turn_3 h (fun v2 M1 h => ?_)
  refine qr_if_ne 6 9 12 rfl (by decide) dX11_turn_6 (fun c6 => ?_) (fun c6 => ?_)
  · have h := h.1 c6
    refine qr_aload_n 12 13 rfl (x := 1) rfl dX11_turn_12 ?_
    refine qr_getF 13 16 rfl ck11 9 (by decide) (b := 56) (by decide +kernel) rfl (by decide +kernel) (by decide +kernel) wm_386 rfl dX11_turn_13 ?_
    refine qr_aload_n 16 17 rfl (x := 1) rfl dX11_turn_16 ?_
    refine qr_getF 17 20 rfl ck11 7 (by decide) (b := 50) (by decide +kernel) rfl (by decide +kernel) (by decide +kernel) wm_384 rfl dX11_turn_17 ?_
    refine qw_U 20 23 rfl (av := [qR 50]) ca_X0_keep wm_912 wm_913 wm_911 ck0 (by decide +kernel) rfl rfl (Nat.le_of_ble_eq_true rfl) dX11_turn_20 h (fun M3 h => ?_)
    refine qr_aload_n 23 24 rfl (x := 1) rfl dX11_turn_23 ?_
    refine qr_iload_n 24 25 rfl (x := x1) rfl dX11_turn_24 ?_
    refine qr_iload_n 25 26 rfl (x := x2) rfl dX11_turn_25 ?_
    refine qw_U 26 29 rfl (av := [qI x1, qI x2]) ca_X11_swapPlaces wm_955 wp_51 wm_953 ck11 (by decide +kernel) rfl rfl (Nat.le_of_ble_eq_true rfl) dX11_turn_26 h (fun M4 h => ?_)
    refine qr_aload_n 29 30 rfl (x := 1) rfl dX11_turn_29 ?_
    refine qw_I 30 33 rfl (av := []) ca_X11_twists wm_958 wm_959 wm_957 ck11 (by decide +kernel) rfl rfl (Nat.le_of_ble_eq_true rfl) dX11_turn_30 h (fun v6 M5 h => ?_)
    exact qe_i 33 rfl dX11_turn_33 h
  · have h := h.2 c6
    refine qr_bipush 9 11 rfl (q_l32 _ rfl) (by decide) dX11_turn_9 ?_
    exact qe_i 11 rfl dX11_turn_11 h
theorem dX11_warm_0 : decode cX11_warm 0 = .ok (.iload_n 1, 1) := by decide +kernel
theorem dX11_warm_1 : decode cX11_warm 1 = .ok (.invokestatic 205, 3) := by decide +kernel
theorem dX11_warm_4 : decode cX11_warm 4 = .ok (.ifCond .ne 6, 3) := by decide +kernel
theorem dX11_warm_7 : decode cX11_warm 7 = .ok (.bipush (-11), 2) := by decide +kernel
theorem dX11_warm_9 : decode cX11_warm 9 = .ok (.ireturn, 1) := by decide +kernel
theorem dX11_warm_10 : decode cX11_warm 10 = .ok (.aload_n 0, 1) := by decide +kernel
theorem dX11_warm_11 : decode cX11_warm 11 = .ok (.getfield 47, 3) := by decide +kernel
theorem dX11_warm_14 : decode cX11_warm 14 = .ok (.aload_n 0, 1) := by decide +kernel
theorem dX11_warm_15 : decode cX11_warm 15 = .ok (.getfield 37, 3) := by decide +kernel
theorem dX11_warm_18 : decode cX11_warm 18 = .ok (.invokevirtual 179, 3) := by decide +kernel
theorem dX11_warm_21 : decode cX11_warm 21 = .ok (.aload_n 0, 1) := by decide +kernel
theorem dX11_warm_22 : decode cX11_warm 22 = .ok (.getfield 37, 3) := by decide +kernel
theorem dX11_warm_25 : decode cX11_warm 25 = .ok (.getfield 208, 3) := by decide +kernel
theorem dX11_warm_28 : decode cX11_warm 28 = .ok (.istore_n 2, 1) := by decide +kernel
theorem dX11_warm_29 : decode cX11_warm 29 = .ok (.aload_n 0, 1) := by decide +kernel
theorem dX11_warm_30 : decode cX11_warm 30 = .ok (.iload_n 1, 1) := by decide +kernel
theorem dX11_warm_31 : decode cX11_warm 31 = .ok (.invokevirtual 211, 3) := by decide +kernel
theorem dX11_warm_34 : decode cX11_warm 34 = .ok (.iload_n 2, 1) := by decide +kernel
theorem dX11_warm_35 : decode cX11_warm 35 = .ok (.ireturn, 1) := by decide +kernel
theorem bX11_warm_0 {d : Nat} {P : Int → q_Mem → Prop} {M : q_Mem} (x1 : Int) (h : q_kI yX11_canWarm mX11_canWarm d [qI x1] M (fun v2 M1 => ((¬ v2 = 0) → q_kU yX0_keep mX0_keep d [qR 56, qR 50] M1 (fun M3 => ∀ x2_4 : Int, x2_4 = (M3 50 0) → q_kU yX11_setWarmth mX11_setWarmth d [qR 1, qI x1] M3 (fun M5 => P x2_4 M5))) ∧ ((v2 = 0) → P (-11) M1))) : q_v mX11_warm d (qPI P) M 0 [some (qR 1), some (qI x1), none] [] := by
  refine qr_iload_n 0 1 rfl (x := x1) rfl dX11_warm_0 ?_
  refine qs_I 1 4 rfl (av := [qI x1]) ca_X11_canWarm wm_966 wm_965 rfl rfl (Nat.le_of_ble_eq_true rfl) dX11_warm_1 h (fun v2 M1 h => ?_)
  refine qr_if_ne 4 7 10 rfl (by decide) dX11_warm_4 (fun c4 => ?_) (fun c4 => ?_)
  · have h := h.1 c4
    refine qr_aload_n 10 11 rfl (x := 1) rfl dX11_warm_10 ?_
    refine qr_getF 11 14 rfl ck11 9 (by decide) (b := 56) (by decide +kernel) rfl (by decide +kernel) (by decide +kernel) wm_386 rfl dX11_warm_11 ?_
    refine qr_aload_n 14 15 rfl (x := 1) rfl dX11_warm_14 ?_
    refine qr_getF 15 18 rfl ck11 7 (by decide) (b := 50) (by decide +kernel) rfl (by decide +kernel) (by decide +kernel) wm_384 rfl dX11_warm_15 ?_
    refine qw_U 18 21 rfl (av := [qR 50]) ca_X0_keep wm_912 wm_913 wm_911 ck0 (by decide +kernel) rfl rfl (Nat.le_of_ble_eq_true rfl) dX11_warm_18 h (fun M3 h => ?_)
    refine qr_aload_n 21 22 rfl (x := 1) rfl dX11_warm_21 ?_
    refine qr_getF 22 25 rfl ck11 7 (by decide) (b := 50) (by decide +kernel) rfl (by decide +kernel) (by decide +kernel) wm_384 rfl dX11_warm_22 ?_
    refine qg_i 25 28 rfl ck7 0 (kk := 0) (by decide) (by decide +kernel) (by decide +kernel) rfl wm_167 rfl dX11_warm_25 ?_
    refine qn_i 28 (fun x2_4 e_x2_4 => ?_)
    have h := h x2_4 e_x2_4
    refine qr_istore_n 28 29 rfl (by decide) rfl rfl dX11_warm_28 ?_
    refine qr_aload_n 29 30 rfl (x := 1) rfl dX11_warm_29 ?_
    refine qr_iload_n 30 31 rfl (x := x1) rfl dX11_warm_30 ?_
    refine qw_U 31 34 rfl (av := [qI x1]) ca_X11_setWarmth wm_970 wp_52 wm_968 ck11 (by decide +kernel) rfl rfl (Nat.le_of_ble_eq_true rfl) dX11_warm_31 h (fun M5 h => ?_)
    refine qr_iload_n 34 35 rfl (x := x2_4) rfl dX11_warm_34 ?_
    exact qe_i 35 rfl dX11_warm_35 h
  · have h := h.2 c4
    refine qr_bipush 7 9 rfl (q_l32 _ rfl) (by decide) dX11_warm_7 ?_
    exact qe_i 9 rfl dX11_warm_9 h
theorem dX11_fall_0 : decode cX11_fall 0 = .ok (.aload_n 0, 1) := by decide +kernel
theorem dX11_fall_1 : decode cX11_fall 1 = .ok (.getfield 47, 3) := by decide +kernel
theorem dX11_fall_4 : decode cX11_fall 4 = .ok (.aload_n 0, 1) := by decide +kernel
theorem dX11_fall_5 : decode cX11_fall 5 = .ok (.getfield 37, 3) := by decide +kernel
theorem dX11_fall_8 : decode cX11_fall 8 = .ok (.invokevirtual 179, 3) := by decide +kernel
theorem dX11_fall_11 : decode cX11_fall 11 = .ok (.aload_n 0, 1) := by decide +kernel
theorem dX11_fall_12 : decode cX11_fall 12 = .ok (.iconst 2, 1) := by decide +kernel
theorem dX11_fall_13 : decode cX11_fall 13 = .ok (.invokevirtual 153, 3) := by decide +kernel
theorem dX11_fall_16 : decode cX11_fall 16 = .ok (.iconst 0, 1) := by decide +kernel
theorem dX11_fall_17 : decode cX11_fall 17 = .ok (.istore_n 1, 1) := by decide +kernel
theorem dX11_fall_18 : decode cX11_fall 18 = .ok (.iload_n 1, 1) := by decide +kernel
theorem dX11_fall_19 : decode cX11_fall 19 = .ok (.sipush 1024, 3) := by decide +kernel
theorem dX11_fall_22 : decode cX11_fall 22 = .ok (.if_icmp .ge 37, 3) := by decide +kernel
theorem dX11_fall_25 : decode cX11_fall 25 = .ok (.aload_n 0, 1) := by decide +kernel
theorem dX11_fall_26 : decode cX11_fall 26 = .ok (.invokevirtual 214, 3) := by decide +kernel
theorem dX11_fall_29 : decode cX11_fall 29 = .ok (.istore_n 2, 1) := by decide +kernel
theorem dX11_fall_30 : decode cX11_fall 30 = .ok (.iload_n 2, 1) := by decide +kernel
theorem dX11_fall_31 : decode cX11_fall 31 = .ok (.iconst (-1), 1) := by decide +kernel
theorem dX11_fall_32 : decode cX11_fall 32 = .ok (.if_icmp .ne 6, 3) := by decide +kernel
theorem dX11_fall_35 : decode cX11_fall 35 = .ok (.goto 24, 3) := by decide +kernel
theorem dX11_fall_38 : decode cX11_fall 38 = .ok (.aload_n 0, 1) := by decide +kernel
theorem dX11_fall_39 : decode cX11_fall 39 = .ok (.getfield 37, 3) := by decide +kernel
theorem dX11_fall_42 : decode cX11_fall 42 = .ok (.dup, 1) := by decide +kernel
theorem dX11_fall_43 : decode cX11_fall 43 = .ok (.getfield 189, 3) := by decide +kernel
theorem dX11_fall_46 : decode cX11_fall 46 = .ok (.iconst 1, 1) := by decide +kernel
theorem dX11_fall_47 : decode cX11_fall 47 = .ok (.iload_n 2, 1) := by decide +kernel
theorem dX11_fall_48 : decode cX11_fall 48 = .ok (.ishl, 1) := by decide +kernel
theorem dX11_fall_49 : decode cX11_fall 49 = .ok (.ixor, 1) := by decide +kernel
theorem dX11_fall_50 : decode cX11_fall 50 = .ok (.putfield 189, 3) := by decide +kernel
theorem dX11_fall_53 : decode cX11_fall 53 = .ok (.iinc 1 1, 3) := by decide +kernel
theorem dX11_fall_56 : decode cX11_fall 56 = .ok (.goto (-38), 3) := by decide +kernel
theorem dX11_fall_59 : decode cX11_fall 59 = .ok (.aload_n 0, 1) := by decide +kernel
theorem dX11_fall_60 : decode cX11_fall 60 = .ok (.invokevirtual 192, 3) := by decide +kernel
theorem dX11_fall_63 : decode cX11_fall 63 = .ok (.ireturn, 1) := by decide +kernel
theorem bX11_fall_0 {d : Nat} {P : Int → q_Mem → Prop} {M : q_Mem} (h : q_kU yX0_keep mX0_keep d [qR 56, qR 50] M (fun M1 => q_kU yX11_need mX11_need d [qR 1, qI 2] M1 (fun M2 => q_v mX11_fall d (qPI P) M2 18 [some (qR 1), some (qI 0), none] []))) : q_v mX11_fall d (qPI P) M 0 [some (qR 1), none, none] [] := by
  refine qr_aload_n 0 1 rfl (x := 1) rfl dX11_fall_0 ?_
  refine qr_getF 1 4 rfl ck11 9 (by decide) (b := 56) (by decide +kernel) rfl (by decide +kernel) (by decide +kernel) wm_386 rfl dX11_fall_1 ?_
  refine qr_aload_n 4 5 rfl (x := 1) rfl dX11_fall_4 ?_
  refine qr_getF 5 8 rfl ck11 7 (by decide) (b := 50) (by decide +kernel) rfl (by decide +kernel) (by decide +kernel) wm_384 rfl dX11_fall_5 ?_
  refine qw_U 8 11 rfl (av := [qR 50]) ca_X0_keep wm_912 wm_913 wm_911 ck0 (by decide +kernel) rfl rfl (Nat.le_of_ble_eq_true rfl) dX11_fall_8 h (fun M1 h => ?_)
  refine qr_aload_n 11 12 rfl (x := 1) rfl dX11_fall_11 ?_
  refine qr_iconst 12 13 rfl (q_l32 _ rfl) dX11_fall_12 ?_
  refine qw_U 13 16 rfl (av := [qI 2]) ca_X11_need wm_791 wp_35 wm_789 ck11 (by decide +kernel) rfl rfl (Nat.le_of_ble_eq_true rfl) dX11_fall_13 h (fun M2 h => ?_)
  refine qr_iconst 16 17 rfl (q_l32 _ rfl) dX11_fall_16 ?_
  refine qr_istore_n 17 18 rfl (by decide) rfl rfl dX11_fall_17 ?_
  exact h
theorem bX11_fall_18 {d : Nat} {P : Int → q_Mem → Prop} {M : q_Mem} (x1 : Int) (h : (((1024 : Int) ≤ x1) → q_kI yX11_worth mX11_worth d [qR 1] M (fun v2 M1 => P v2 M1)) ∧ ((¬ ((1024 : Int) ≤ x1)) → q_kI yX11_nodeOfMostGain mX11_nodeOfMostGain d [qR 1] M (fun v4 M3 => ((¬ v4 = ((-1) : Int)) → (∀ M5 : q_Mem, M5 = q_up M3 50 1 (q_xor (M3 50 1) (q_shl 1 v4)) → q_v mX11_fall d (qPI P) M5 18 [some (qR 1), some (qI (q_add x1 1)), none] [])) ∧ ((v4 = ((-1) : Int)) → q_kI yX11_worth mX11_worth d [qR 1] M3 (fun v7 M6 => P v7 M6))))) : q_v mX11_fall d (qPI P) M 18 [some (qR 1), some (qI x1), none] [] := by
  refine qr_iload_n 18 19 rfl (x := x1) rfl dX11_fall_18 ?_
  refine qr_sipush 19 22 rfl (q_l32 _ rfl) (by decide) dX11_fall_19 ?_
  refine qr_icmp_ge 22 25 59 rfl (by decide) dX11_fall_22 (fun c22 => ?_) (fun c22 => ?_)
  · have h := h.1 c22
    refine qr_aload_n 59 60 rfl (x := 1) rfl dX11_fall_59 ?_
    refine qw_I 60 63 rfl (av := []) ca_X11_worth wm_930 wm_931 wm_929 ck11 (by decide +kernel) rfl rfl (Nat.le_of_ble_eq_true rfl) dX11_fall_60 h (fun v2 M1 h => ?_)
    exact qe_i 63 rfl dX11_fall_63 h
  · have h := h.2 c22
    refine qr_aload_n 25 26 rfl (x := 1) rfl dX11_fall_25 ?_
    refine qw_I 26 29 rfl (av := []) ca_X11_nodeOfMostGain wm_978 wp_53 wm_976 ck11 (by decide +kernel) rfl rfl (Nat.le_of_ble_eq_true rfl) dX11_fall_26 h (fun v4 M3 h => ?_)
    refine qr_istore_n 29 30 rfl (by decide) rfl rfl dX11_fall_29 ?_
    refine qr_iload_n 30 31 rfl (x := v4) rfl dX11_fall_30 ?_
    refine qr_iconst 31 32 rfl (q_l32 _ rfl) dX11_fall_31 ?_
    refine qr_icmp_ne 32 35 38 rfl (by decide) dX11_fall_32 (fun c32 => ?_) (fun c32 => ?_)
    · have h := h.1 c32
      refine qr_aload_n 38 39 rfl (x := 1) rfl dX11_fall_38 ?_
      refine qr_getF 39 42 rfl ck11 7 (by decide) (b := 50) (by decide +kernel) rfl (by decide +kernel) (by decide +kernel) wm_384 rfl dX11_fall_39 ?_
      refine qr_dup 42 43 rfl rfl dX11_fall_42 ?_
      refine qg_i 43 46 rfl ck7 1 (kk := 1) (by decide) (by decide +kernel) (by decide +kernel) rfl wm_170 rfl dX11_fall_43 ?_
      refine qr_iconst 46 47 rfl (q_l32 _ rfl) dX11_fall_46 ?_
      refine qr_iload_n 47 48 rfl (x := v4) rfl dX11_fall_47 ?_
      refine qr_ishl 48 49 rfl dX11_fall_48 ?_
      refine qr_ixor 49 50 rfl dX11_fall_49 ?_
      refine qp_i 50 53 rfl ck7 1 (kk := 1) (by decide) (by decide +kernel) (by decide) rfl rfl wm_170 rfl dX11_fall_50 (fun M5 e_M5 => ?_)
      have h := h M5 e_M5
      refine qr_iinc 53 56 rfl (by decide) (x := x1) rfl rfl rfl dX11_fall_53 ?_
      refine qr_goto 56 18 (by decide) dX11_fall_56 ?_
      exact qr_cut 18 (ls' := [some (qR 1), some (qI (q_add x1 1)), none]) (And.intro rfl (And.intro rfl trivial)) h
    · have h := h.2 c32
      refine qr_goto 35 59 (by decide) dX11_fall_35 ?_
      refine qr_aload_n 59 60 rfl (x := 1) rfl dX11_fall_59 ?_
      refine qw_I 60 63 rfl (av := []) ca_X11_worth wm_930 wm_931 wm_929 ck11 (by decide +kernel) rfl rfl (Nat.le_of_ble_eq_true rfl) dX11_fall_60 h (fun v7 M6 h => ?_)
      exact qe_i 63 rfl dX11_fall_63 h
theorem dX11_nodeOfMostGain_0 : decode cX11_nodeOfMostGain 0 = .ok (.iconst 0, 1) := by decide +kernel
theorem dX11_nodeOfMostGain_1 : decode cX11_nodeOfMostGain 1 = .ok (.istore_n 1, 1) := by decide +kernel
theorem dX11_nodeOfMostGain_2 : decode cX11_nodeOfMostGain 2 = .ok (.iconst (-1), 1) := by decide +kernel
theorem dX11_nodeOfMostGain_3 : decode cX11_nodeOfMostGain 3 = .ok (.istore_n 2, 1) := by decide +kernel
theorem dX11_nodeOfMostGain_4 : decode cX11_nodeOfMostGain 4 = .ok (.iconst 0, 1) := by decide +kernel
theorem dX11_nodeOfMostGain_5 : decode cX11_nodeOfMostGain 5 = .ok (.istore_n 3, 1) := by decide +kernel
theorem dX11_nodeOfMostGain_6 : decode cX11_nodeOfMostGain 6 = .ok (.iload_n 3, 1) := by decide +kernel
theorem dX11_nodeOfMostGain_7 : decode cX11_nodeOfMostGain 7 = .ok (.aload_n 0, 1) := by decide +kernel
theorem dX11_nodeOfMostGain_8 : decode cX11_nodeOfMostGain 8 = .ok (.getfield 20, 3) := by decide +kernel
theorem dX11_nodeOfMostGain_11 : decode cX11_nodeOfMostGain 11 = .ok (.getfield 171, 3) := by decide +kernel
theorem dX11_nodeOfMostGain_14 : decode cX11_nodeOfMostGain 14 = .ok (.if_icmp .ge 27, 3) := by decide +kernel
theorem dX11_nodeOfMostGain_17 : decode cX11_nodeOfMostGain 17 = .ok (.aload_n 0, 1) := by decide +kernel
theorem dX11_nodeOfMostGain_18 : decode cX11_nodeOfMostGain 18 = .ok (.iload_n 3, 1) := by decide +kernel
theorem dX11_nodeOfMostGain_19 : decode cX11_nodeOfMostGain 19 = .ok (.invokevirtual 217, 3) := by decide +kernel
theorem dX11_nodeOfMostGain_22 : decode cX11_nodeOfMostGain 22 = .ok (.istore 4, 2) := by decide +kernel
theorem dX11_nodeOfMostGain_24 : decode cX11_nodeOfMostGain 24 = .ok (.iload 4, 2) := by decide +kernel
theorem dX11_nodeOfMostGain_26 : decode cX11_nodeOfMostGain 26 = .ok (.iload_n 1, 1) := by decide +kernel
theorem dX11_nodeOfMostGain_27 : decode cX11_nodeOfMostGain 27 = .ok (.if_icmp .le 8, 3) := by decide +kernel
theorem dX11_nodeOfMostGain_30 : decode cX11_nodeOfMostGain 30 = .ok (.iload 4, 2) := by decide +kernel
theorem dX11_nodeOfMostGain_32 : decode cX11_nodeOfMostGain 32 = .ok (.istore_n 1, 1) := by decide +kernel
theorem dX11_nodeOfMostGain_33 : decode cX11_nodeOfMostGain 33 = .ok (.iload_n 3, 1) := by decide +kernel
theorem dX11_nodeOfMostGain_34 : decode cX11_nodeOfMostGain 34 = .ok (.istore_n 2, 1) := by decide +kernel
theorem dX11_nodeOfMostGain_35 : decode cX11_nodeOfMostGain 35 = .ok (.iinc 3 1, 3) := by decide +kernel
theorem dX11_nodeOfMostGain_38 : decode cX11_nodeOfMostGain 38 = .ok (.goto (-32), 3) := by decide +kernel
theorem dX11_nodeOfMostGain_41 : decode cX11_nodeOfMostGain 41 = .ok (.iload_n 2, 1) := by decide +kernel
theorem dX11_nodeOfMostGain_42 : decode cX11_nodeOfMostGain 42 = .ok (.ireturn, 1) := by decide +kernel
theorem bX11_nodeOfMostGain_0 {d : Nat} {P : Int → q_Mem → Prop} {M : q_Mem} (h : q_v mX11_nodeOfMostGain d (qPI P) M 6 [some (qR 1), some (qI 0), some (qI (-1)), some (qI 0), none] []) : q_v mX11_nodeOfMostGain d (qPI P) M 0 [some (qR 1), none, none, none, none] [] := by
  refine qr_iconst 0 1 rfl (q_l32 _ rfl) dX11_nodeOfMostGain_0 ?_
  refine qr_istore_n 1 2 rfl (by decide) rfl rfl dX11_nodeOfMostGain_1 ?_
  refine qr_iconst 2 3 rfl (q_l32 _ rfl) dX11_nodeOfMostGain_2 ?_
  refine qr_istore_n 3 4 rfl (by decide) rfl rfl dX11_nodeOfMostGain_3 ?_
  refine qr_iconst 4 5 rfl (q_l32 _ rfl) dX11_nodeOfMostGain_4 ?_
  refine qr_istore_n 5 6 rfl (by decide) rfl rfl dX11_nodeOfMostGain_5 ?_
  exact h
theorem bX11_nodeOfMostGain_6 {d : Nat} {P : Int → q_Mem → Prop} {M : q_Mem} (x1 x2 x3 : Int) (h : q_kd (M 1 4) = 4 ∧ ((((M (M 1 4) 0) ≤ x3) → P x2 M) ∧ ((¬ ((M (M 1 4) 0) ≤ x3)) → q_kI yX11_gainOf mX11_gainOf d [qR 1, qI x3] M (fun v3 M2 => ((v3 ≤ x1) → q_v mX11_nodeOfMostGain d (qPI P) M2 6 [some (qR 1), some (qI x1), some (qI x2), some (qI (q_add x3 1)), none] []) ∧ ((¬ (v3 ≤ x1)) → q_v mX11_nodeOfMostGain d (qPI P) M2 6 [some (qR 1), some (qI v3), some (qI x3), some (qI (q_add x3 1)), none] []))))) : q_v mX11_nodeOfMostGain d (qPI P) M 6 [some (qR 1), some (qI x1), some (qI x2), some (qI x3), none] [] := by
  refine qr_iload_n 6 7 rfl (x := x3) rfl dX11_nodeOfMostGain_6 ?_
  refine qr_aload_n 7 8 rfl (x := 1) rfl dX11_nodeOfMostGain_7 ?_
  refine qg_r 8 11 rfl ck11 4 (kk := 4) (by decide) (by decide +kernel) (by decide +kernel) rfl wm_381 rfl dX11_nodeOfMostGain_8 ?_
  have hk1 := h.1
  have h := h.2
  refine qg_i 11 14 rfl ck4 0 (kk := 0) (by decide) hk1 (by decide +kernel) rfl wm_63 rfl dX11_nodeOfMostGain_11 ?_
  refine qr_icmp_ge 14 17 41 rfl (by decide) dX11_nodeOfMostGain_14 (fun c14 => ?_) (fun c14 => ?_)
  · have h := h.1 c14
    refine qr_iload_n 41 42 rfl (x := x2) rfl dX11_nodeOfMostGain_41 ?_
    exact qe_i 42 rfl dX11_nodeOfMostGain_42 h
  · have h := h.2 c14
    refine qr_aload_n 17 18 rfl (x := 1) rfl dX11_nodeOfMostGain_17 ?_
    refine qr_iload_n 18 19 rfl (x := x3) rfl dX11_nodeOfMostGain_18 ?_
    refine qw_I 19 22 rfl (av := [qI x3]) ca_X11_gainOf wm_982 wp_54 wm_980 ck11 (by decide +kernel) rfl rfl (Nat.le_of_ble_eq_true rfl) dX11_nodeOfMostGain_19 h (fun v3 M2 h => ?_)
    refine qr_istore 22 24 rfl (by decide) rfl rfl dX11_nodeOfMostGain_22 ?_
    refine qr_iload 24 26 rfl (x := v3) rfl dX11_nodeOfMostGain_24 ?_
    refine qr_iload_n 26 27 rfl (x := x1) rfl dX11_nodeOfMostGain_26 ?_
    refine qr_icmp_le 27 30 35 rfl (by decide) dX11_nodeOfMostGain_27 (fun c27 => ?_) (fun c27 => ?_)
    · have h := h.1 c27
      refine qr_iinc 35 38 rfl (by decide) (x := x3) rfl rfl rfl dX11_nodeOfMostGain_35 ?_
      refine qr_goto 38 6 (by decide) dX11_nodeOfMostGain_38 ?_
      exact qr_cut 6 (ls' := [some (qR 1), some (qI x1), some (qI x2), some (qI (q_add x3 1)), none]) (And.intro rfl (And.intro rfl (And.intro rfl (And.intro rfl trivial)))) h
    · have h := h.2 c27
      refine qr_iload 30 32 rfl (x := v3) rfl dX11_nodeOfMostGain_30 ?_
      refine qr_istore_n 32 33 rfl (by decide) rfl rfl dX11_nodeOfMostGain_32 ?_
      refine qr_iload_n 33 34 rfl (x := x3) rfl dX11_nodeOfMostGain_33 ?_
      refine qr_istore_n 34 35 rfl (by decide) rfl rfl dX11_nodeOfMostGain_34 ?_
      refine qr_iinc 35 38 rfl (by decide) (x := x3) rfl rfl rfl dX11_nodeOfMostGain_35 ?_
      refine qr_goto 38 6 (by decide) dX11_nodeOfMostGain_38 ?_
      exact qr_cut 6 (ls' := [some (qR 1), some (qI v3), some (qI x3), some (qI (q_add x3 1)), none]) (And.intro rfl (And.intro rfl (And.intro rfl (And.intro rfl trivial)))) h
theorem dX11_sides_0 : decode cX11_sides 0 = .ok (.aload_n 0, 1) := by decide +kernel
theorem dX11_sides_1 : decode cX11_sides 1 = .ok (.invokevirtual 221, 3) := by decide +kernel
theorem dX11_sides_4 : decode cX11_sides 4 = .ok (.ifCond .ne 6, 3) := by decide +kernel
theorem dX11_sides_7 : decode cX11_sides 7 = .ok (.bipush (-5), 2) := by decide +kernel
theorem dX11_sides_9 : decode cX11_sides 9 = .ok (.ireturn, 1) := by decide +kernel
theorem dX11_sides_10 : decode cX11_sides 10 = .ok (.aload_n 0, 1) := by decide +kernel
theorem dX11_sides_11 : decode cX11_sides 11 = .ok (.bipush 27, 2) := by decide +kernel
theorem dX11_sides_13 : decode cX11_sides 13 = .ok (.invokevirtual 153, 3) := by decide +kernel
theorem dX11_sides_16 : decode cX11_sides 16 = .ok (.aload_n 0, 1) := by decide +kernel
theorem dX11_sides_17 : decode cX11_sides 17 = .ok (.getfield 70, 3) := by decide +kernel
theorem dX11_sides_20 : decode cX11_sides 20 = .ok (.aload_n 0, 1) := by decide +kernel
theorem dX11_sides_21 : decode cX11_sides 21 = .ok (.getfield 20, 3) := by decide +kernel
theorem dX11_sides_24 : decode cX11_sides 24 = .ok (.aload_n 0, 1) := by decide +kernel
theorem dX11_sides_25 : decode cX11_sides 25 = .ok (.invokevirtual 225, 3) := by decide +kernel
theorem dX11_sides_28 : decode cX11_sides 28 = .ok (.invokevirtual 228, 3) := by decide +kernel
theorem dX11_sides_31 : decode cX11_sides 31 = .ok (.istore_n 1, 1) := by decide +kernel
theorem dX11_sides_32 : decode cX11_sides 32 = .ok (.aload_n 0, 1) := by decide +kernel
theorem dX11_sides_33 : decode cX11_sides 33 = .ok (.getfield 47, 3) := by decide +kernel
theorem dX11_sides_36 : decode cX11_sides 36 = .ok (.aload_n 0, 1) := by decide +kernel
theorem dX11_sides_37 : decode cX11_sides 37 = .ok (.getfield 37, 3) := by decide +kernel
theorem dX11_sides_40 : decode cX11_sides 40 = .ok (.invokevirtual 179, 3) := by decide +kernel
theorem dX11_sides_43 : decode cX11_sides 43 = .ok (.aload_n 0, 1) := by decide +kernel
theorem dX11_sides_44 : decode cX11_sides 44 = .ok (.getfield 37, 3) := by decide +kernel
theorem dX11_sides_47 : decode cX11_sides 47 = .ok (.getfield 189, 3) := by decide +kernel
theorem dX11_sides_50 : decode cX11_sides 50 = .ok (.iload_n 1, 1) := by decide +kernel
theorem dX11_sides_51 : decode cX11_sides 51 = .ok (.ixor, 1) := by decide +kernel
theorem dX11_sides_52 : decode cX11_sides 52 = .ok (.invokestatic 232, 3) := by decide +kernel
theorem dX11_sides_55 : decode cX11_sides 55 = .ok (.istore_n 2, 1) := by decide +kernel
theorem dX11_sides_56 : decode cX11_sides 56 = .ok (.aload_n 0, 1) := by decide +kernel
theorem dX11_sides_57 : decode cX11_sides 57 = .ok (.getfield 37, 3) := by decide +kernel
theorem dX11_sides_60 : decode cX11_sides 60 = .ok (.iload_n 1, 1) := by decide +kernel
theorem dX11_sides_61 : decode cX11_sides 61 = .ok (.putfield 189, 3) := by decide +kernel
theorem dX11_sides_64 : decode cX11_sides 64 = .ok (.iload_n 2, 1) := by decide +kernel
theorem dX11_sides_65 : decode cX11_sides 65 = .ok (.ireturn, 1) := by decide +kernel
theorem bX11_sides_0 {d : Nat} {P : Int → q_Mem → Prop} {M : q_Mem} (h : q_kI yX11_isFlat mX11_isFlat d [qR 1] M (fun v2 M1 => ((¬ v2 = 0) → q_kU yX11_need mX11_need d [qR 1, qI 27] M1 (fun M3 => q_kI yX11_greatestCut mX11_greatestCut d [qR 1] M3 (fun v5 M4 => q_kI yX6_sidesOf mX6_sidesOf d [qR 91, qR (M3 1 4), qI v5] M4 (fun v7 M6 => q_kU yX0_keep mX0_keep d [qR 56, qR 50] M6 (fun M8 => q_kI yJ6_bitCount_0f7a4 mJ6_bitCount_0f7a4 d [qI (q_xor (M8 50 1) v7)] M8 (fun v10 M9 => (∀ M11 : q_Mem, M11 = q_up M9 50 1 v7 → P v10 M11))))))) ∧ ((v2 = 0) → P (-5) M1))) : q_v mX11_sides d (qPI P) M 0 [some (qR 1), none, none] [] := by
  refine qr_aload_n 0 1 rfl (x := 1) rfl dX11_sides_0 ?_
  refine qw_I 1 4 rfl (av := []) ca_X11_isFlat wm_991 wp_55 wm_989 ck11 (by decide +kernel) rfl rfl (Nat.le_of_ble_eq_true rfl) dX11_sides_1 h (fun v2 M1 h => ?_)
  refine qr_if_ne 4 7 10 rfl (by decide) dX11_sides_4 (fun c4 => ?_) (fun c4 => ?_)
  · have h := h.1 c4
    refine qr_aload_n 10 11 rfl (x := 1) rfl dX11_sides_10 ?_
    refine qr_bipush 11 13 rfl (q_l32 _ rfl) (by decide) dX11_sides_11 ?_
    refine qw_U 13 16 rfl (av := [qI 27]) ca_X11_need wm_791 wp_35 wm_789 ck11 (by decide +kernel) rfl rfl (Nat.le_of_ble_eq_true rfl) dX11_sides_13 h (fun M3 h => ?_)
    refine qr_aload_n 16 17 rfl (x := 1) rfl dX11_sides_16 ?_
    refine qr_getF 17 20 rfl ck11 13 (by decide) (b := 91) (by decide +kernel) rfl (by decide +kernel) (by decide +kernel) wm_390 rfl dX11_sides_17 ?_
    refine qr_aload_n 20 21 rfl (x := 1) rfl dX11_sides_20 ?_
    refine qg_r 21 24 rfl ck11 4 (kk := 4) (by decide) (by decide +kernel) (by decide +kernel) rfl wm_381 rfl dX11_sides_21 ?_
    refine qr_aload_n 24 25 rfl (x := 1) rfl dX11_sides_24 ?_
    refine qw_I 25 28 rfl (av := []) ca_X11_greatestCut wm_995 wp_56 wm_993 ck11 (by decide +kernel) rfl rfl (Nat.le_of_ble_eq_true rfl) dX11_sides_25 h (fun v5 M4 h => ?_)
    refine qw_I 28 31 rfl (av := [qR (M3 1 4), qI v5]) ca_X6_sidesOf wm_998 wm_999 wm_997 ck6 (by decide +kernel) rfl rfl (Nat.le_of_ble_eq_true rfl) dX11_sides_28 h (fun v7 M6 h => ?_)
    refine qr_istore_n 31 32 rfl (by decide) rfl rfl dX11_sides_31 ?_
    refine qr_aload_n 32 33 rfl (x := 1) rfl dX11_sides_32 ?_
    refine qr_getF 33 36 rfl ck11 9 (by decide) (b := 56) (by decide +kernel) rfl (by decide +kernel) (by decide +kernel) wm_386 rfl dX11_sides_33 ?_
    refine qr_aload_n 36 37 rfl (x := 1) rfl dX11_sides_36 ?_
    refine qr_getF 37 40 rfl ck11 7 (by decide) (b := 50) (by decide +kernel) rfl (by decide +kernel) (by decide +kernel) wm_384 rfl dX11_sides_37 ?_
    refine qw_U 40 43 rfl (av := [qR 50]) ca_X0_keep wm_912 wm_913 wm_911 ck0 (by decide +kernel) rfl rfl (Nat.le_of_ble_eq_true rfl) dX11_sides_40 h (fun M8 h => ?_)
    refine qr_aload_n 43 44 rfl (x := 1) rfl dX11_sides_43 ?_
    refine qr_getF 44 47 rfl ck11 7 (by decide) (b := 50) (by decide +kernel) rfl (by decide +kernel) (by decide +kernel) wm_384 rfl dX11_sides_44 ?_
    refine qg_i 47 50 rfl ck7 1 (kk := 1) (by decide) (by decide +kernel) (by decide +kernel) rfl wm_170 rfl dX11_sides_47 ?_
    refine qr_iload_n 50 51 rfl (x := v7) rfl dX11_sides_50 ?_
    refine qr_ixor 51 52 rfl dX11_sides_51 ?_
    refine qs_I 52 55 rfl (av := [qI (q_xor (M8 50 1) v7)]) ca_J6_bitCount_0f7a4 wm_1002 wm_1001 rfl rfl (Nat.le_of_ble_eq_true rfl) dX11_sides_52 h (fun v10 M9 h => ?_)
    refine qr_istore_n 55 56 rfl (by decide) rfl rfl dX11_sides_55 ?_
    refine qr_aload_n 56 57 rfl (x := 1) rfl dX11_sides_56 ?_
    refine qr_getF 57 60 rfl ck11 7 (by decide) (b := 50) (by decide +kernel) rfl (by decide +kernel) (by decide +kernel) wm_384 rfl dX11_sides_57 ?_
    refine qr_iload_n 60 61 rfl (x := v7) rfl dX11_sides_60 ?_
    refine qp_i 61 64 rfl ck7 1 (kk := 1) (by decide) (by decide +kernel) (by decide) rfl rfl wm_170 rfl dX11_sides_61 (fun M11 e_M11 => ?_)
    have h := h M11 e_M11
    refine qr_iload_n 64 65 rfl (x := v10) rfl dX11_sides_64 ?_
    exact qe_i 65 rfl dX11_sides_65 h
  · have h := h.2 c4
    refine qr_bipush 7 9 rfl (q_l32 _ rfl) (by decide) dX11_sides_7 ?_
    exact qe_i 9 rfl dX11_sides_9 h
theorem dX11_undo_0 : decode cX11_undo 0 = .ok (.iload_n 1, 1) := by decide +kernel
theorem dX11_undo_1 : decode cX11_undo 1 = .ok (.iconst 1, 1) := by decide +kernel
theorem dX11_undo_2 : decode cX11_undo 2 = .ok (.if_icmp .lt 14, 3) := by decide +kernel
theorem dX11_undo_5 : decode cX11_undo 5 = .ok (.iload_n 1, 1) := by decide +kernel
theorem dX11_undo_6 : decode cX11_undo 6 = .ok (.aload_n 0, 1) := by decide +kernel
theorem dX11_undo_7 : decode cX11_undo 7 = .ok (.getfield 47, 3) := by decide +kernel
theorem dX11_undo_10 : decode cX11_undo 10 = .ok (.getfield 237, 3) := by decide +kernel
theorem dX11_undo_13 : decode cX11_undo 13 = .ok (.if_icmp .le 6, 3) := by decide +kernel
theorem dX11_undo_16 : decode cX11_undo 16 = .ok (.bipush (-3), 2) := by decide +kernel
theorem dX11_undo_18 : decode cX11_undo 18 = .ok (.ireturn, 1) := by decide +kernel
theorem dX11_undo_19 : decode cX11_undo 19 = .ok (.aload_n 0, 1) := by decide +kernel
theorem dX11_undo_20 : decode cX11_undo 20 = .ok (.getfield 47, 3) := by decide +kernel
theorem dX11_undo_23 : decode cX11_undo 23 = .ok (.iload_n 1, 1) := by decide +kernel
theorem dX11_undo_24 : decode cX11_undo 24 = .ok (.aload_n 0, 1) := by decide +kernel
theorem dX11_undo_25 : decode cX11_undo 25 = .ok (.getfield 37, 3) := by decide +kernel
theorem dX11_undo_28 : decode cX11_undo 28 = .ok (.invokevirtual 240, 3) := by decide +kernel
theorem dX11_undo_31 : decode cX11_undo 31 = .ok (.aload_n 0, 1) := by decide +kernel
theorem dX11_undo_32 : decode cX11_undo 32 = .ok (.iconst 0, 1) := by decide +kernel
theorem dX11_undo_33 : decode cX11_undo 33 = .ok (.putfield 130, 3) := by decide +kernel
theorem dX11_undo_36 : decode cX11_undo 36 = .ok (.aload_n 0, 1) := by decide +kernel
theorem dX11_undo_37 : decode cX11_undo 37 = .ok (.getfield 47, 3) := by decide +kernel
theorem dX11_undo_40 : decode cX11_undo 40 = .ok (.getfield 237, 3) := by decide +kernel
theorem dX11_undo_43 : decode cX11_undo 43 = .ok (.ireturn, 1) := by decide +kernel
theorem bX11_undo_0 {d : Nat} {P : Int → q_Mem → Prop} {M : q_Mem} (x1 : Int) (h : ((x1 < (1 : Int)) → P (-3) M) ∧ ((¬ (x1 < (1 : Int))) → ((x1 ≤ (M 56 0)) → q_kU yX0_takeBack mX0_takeBack d [qR 56, qI x1, qR 50] M (fun M1 => (∀ M2 : q_Mem, M2 = q_up M1 1 18 0 → P (M2 56 0) M2))) ∧ ((¬ (x1 ≤ (M 56 0))) → P (-3) M))) : q_v mX11_undo d (qPI P) M 0 [some (qR 1), some (qI x1)] [] := by
  refine qr_iload_n 0 1 rfl (x := x1) rfl dX11_undo_0 ?_
  refine qr_iconst 1 2 rfl (q_l32 _ rfl) dX11_undo_1 ?_
  refine qr_icmp_lt 2 5 16 rfl (by decide) dX11_undo_2 (fun c2 => ?_) (fun c2 => ?_)
  · have h := h.1 c2
    refine qr_bipush 16 18 rfl (q_l32 _ rfl) (by decide) dX11_undo_16 ?_
    exact qe_i 18 rfl dX11_undo_18 h
  · have h := h.2 c2
    refine qr_iload_n 5 6 rfl (x := x1) rfl dX11_undo_5 ?_
    refine qr_aload_n 6 7 rfl (x := 1) rfl dX11_undo_6 ?_
    refine qr_getF 7 10 rfl ck11 9 (by decide) (b := 56) (by decide +kernel) rfl (by decide +kernel) (by decide +kernel) wm_386 rfl dX11_undo_7 ?_
    refine qg_i 10 13 rfl ck0 0 (kk := 0) (by decide) (by decide +kernel) (by decide +kernel) rfl wm_196 rfl dX11_undo_10 ?_
    refine qr_icmp_le 13 16 19 rfl (by decide) dX11_undo_13 (fun c13 => ?_) (fun c13 => ?_)
    · have h := h.1 c13
      refine qr_aload_n 19 20 rfl (x := 1) rfl dX11_undo_19 ?_
      refine qr_getF 20 23 rfl ck11 9 (by decide) (b := 56) (by decide +kernel) rfl (by decide +kernel) (by decide +kernel) wm_386 rfl dX11_undo_20 ?_
      refine qr_iload_n 23 24 rfl (x := x1) rfl dX11_undo_23 ?_
      refine qr_aload_n 24 25 rfl (x := 1) rfl dX11_undo_24 ?_
      refine qr_getF 25 28 rfl ck11 7 (by decide) (b := 50) (by decide +kernel) rfl (by decide +kernel) (by decide +kernel) wm_384 rfl dX11_undo_25 ?_
      refine qw_U 28 31 rfl (av := [qI x1, qR 50]) ca_X0_takeBack wm_1012 wm_1013 wm_1011 ck0 (by decide +kernel) rfl rfl (Nat.le_of_ble_eq_true rfl) dX11_undo_28 h (fun M1 h => ?_)
      refine qr_aload_n 31 32 rfl (x := 1) rfl dX11_undo_31 ?_
      refine qr_iconst 32 33 rfl (q_l32 _ rfl) dX11_undo_32 ?_
      refine qp_i 33 36 rfl ck11 18 (kk := 18) (by decide) (by decide +kernel) (by decide) rfl rfl wm_395 rfl dX11_undo_33 (fun M2 e_M2 => ?_)
      have h := h M2 e_M2
      refine qr_aload_n 36 37 rfl (x := 1) rfl dX11_undo_36 ?_
      refine qr_getF 37 40 rfl ck11 9 (by decide) (b := 56) (by decide +kernel) rfl (by decide +kernel) (by decide +kernel) wm_386 rfl dX11_undo_37 ?_
      refine qg_i 40 43 rfl ck0 0 (kk := 0) (by decide) (by decide +kernel) (by decide +kernel) rfl wm_196 rfl dX11_undo_40 ?_
      exact qe_i 43 rfl dX11_undo_43 h
    · have h := h.2 c13
      refine qr_bipush 16 18 rfl (q_l32 _ rfl) (by decide) dX11_undo_16 ?_
      exact qe_i 18 rfl dX11_undo_18 h
theorem dX11_judge_0 : decode cX11_judge 0 = .ok (.iload_n 1, 1) := by decide +kernel
theorem dX11_judge_1 : decode cX11_judge 1 = .ok (.invokestatic 244, 3) := by decide +kernel
theorem dX11_judge_4 : decode cX11_judge 4 = .ok (.ifCond .eq 12, 3) := by decide +kernel
theorem dX11_judge_7 : decode cX11_judge 7 = .ok (.iload_n 2, 1) := by decide +kernel
theorem dX11_judge_8 : decode cX11_judge 8 = .ok (.ifCond .lt 8, 3) := by decide +kernel
theorem dX11_judge_11 : decode cX11_judge 11 = .ok (.iload_n 2, 1) := by decide +kernel
theorem dX11_judge_12 : decode cX11_judge 12 = .ok (.iconst 3, 1) := by decide +kernel
theorem dX11_judge_13 : decode cX11_judge 13 = .ok (.if_icmp .le 6, 3) := by decide +kernel
theorem dX11_judge_16 : decode cX11_judge 16 = .ok (.bipush (-2), 2) := by decide +kernel
theorem dX11_judge_18 : decode cX11_judge 18 = .ok (.ireturn, 1) := by decide +kernel
theorem dX11_judge_19 : decode cX11_judge 19 = .ok (.aload_n 0, 1) := by decide +kernel
theorem dX11_judge_20 : decode cX11_judge 20 = .ok (.getfield 59, 3) := by decide +kernel
theorem dX11_judge_23 : decode cX11_judge 23 = .ok (.iload_n 1, 1) := by decide +kernel
theorem dX11_judge_24 : decode cX11_judge 24 = .ok (.aaload, 1) := by decide +kernel
theorem dX11_judge_25 : decode cX11_judge 25 = .ok (.astore_n 3, 1) := by decide +kernel
theorem dX11_judge_26 : decode cX11_judge 26 = .ok (.aload_n 3, 1) := by decide +kernel
theorem dX11_judge_27 : decode cX11_judge 27 = .ok (.getfield 247, 3) := by decide +kernel
theorem dX11_judge_30 : decode cX11_judge 30 = .ok (.ifCond .ge 6, 3) := by decide +kernel
theorem dX11_judge_33 : decode cX11_judge 33 = .ok (.bipush (-6), 2) := by decide +kernel
theorem dX11_judge_35 : decode cX11_judge 35 = .ok (.ireturn, 1) := by decide +kernel
theorem dX11_judge_36 : decode cX11_judge 36 = .ok (.aload_n 0, 1) := by decide +kernel
theorem dX11_judge_37 : decode cX11_judge 37 = .ok (.getfield 41, 3) := by decide +kernel
theorem dX11_judge_40 : decode cX11_judge 40 = .ok (.aload_n 0, 1) := by decide +kernel
theorem dX11_judge_41 : decode cX11_judge 41 = .ok (.getfield 37, 3) := by decide +kernel
theorem dX11_judge_44 : decode cX11_judge 44 = .ok (.invokevirtual 248, 3) := by decide +kernel
theorem dX11_judge_47 : decode cX11_judge 47 = .ok (.aload_n 0, 1) := by decide +kernel
theorem dX11_judge_48 : decode cX11_judge 48 = .ok (.aload_n 3, 1) := by decide +kernel
theorem dX11_judge_49 : decode cX11_judge 49 = .ok (.invokevirtual 251, 3) := by decide +kernel
theorem dX11_judge_52 : decode cX11_judge 52 = .ok (.istore 4, 2) := by decide +kernel
theorem dX11_judge_54 : decode cX11_judge 54 = .ok (.aload_n 0, 1) := by decide +kernel
theorem dX11_judge_55 : decode cX11_judge 55 = .ok (.iconst 3, 1) := by decide +kernel
theorem dX11_judge_56 : decode cX11_judge 56 = .ok (.invokevirtual 153, 3) := by decide +kernel
theorem dX11_judge_59 : decode cX11_judge 59 = .ok (.aload_n 0, 1) := by decide +kernel
theorem dX11_judge_60 : decode cX11_judge 60 = .ok (.iload_n 2, 1) := by decide +kernel
theorem dX11_judge_61 : decode cX11_judge 61 = .ok (.iload 4, 2) := by decide +kernel
theorem dX11_judge_63 : decode cX11_judge 63 = .ok (.iload 4, 2) := by decide +kernel
theorem dX11_judge_65 : decode cX11_judge 65 = .ok (.aload_n 3, 1) := by decide +kernel
theorem dX11_judge_66 : decode cX11_judge 66 = .ok (.getfield 247, 3) := by decide +kernel
theorem dX11_judge_69 : decode cX11_judge 69 = .ok (.if_icmp .ge 7, 3) := by decide +kernel
theorem dX11_judge_72 : decode cX11_judge 72 = .ok (.iconst 1, 1) := by decide +kernel
theorem dX11_judge_73 : decode cX11_judge 73 = .ok (.goto 4, 3) := by decide +kernel
theorem dX11_judge_76 : decode cX11_judge 76 = .ok (.iconst 0, 1) := by decide +kernel
theorem dX11_judge_77 : decode cX11_judge 77 = .ok (.invokevirtual 255, 3) := by decide +kernel
theorem dX11_judge_80 : decode cX11_judge 80 = .ok (.istore 5, 2) := by decide +kernel
theorem dX11_judge_82 : decode cX11_judge 82 = .ok (.aload_n 0, 1) := by decide +kernel
theorem dX11_judge_83 : decode cX11_judge 83 = .ok (.getfield 37, 3) := by decide +kernel
theorem dX11_judge_86 : decode cX11_judge 86 = .ok (.aload_n 0, 1) := by decide +kernel
theorem dX11_judge_87 : decode cX11_judge 87 = .ok (.getfield 41, 3) := by decide +kernel
theorem dX11_judge_90 : decode cX11_judge 90 = .ok (.invokevirtual 248, 3) := by decide +kernel
theorem dX11_judge_93 : decode cX11_judge 93 = .ok (.iload 4, 2) := by decide +kernel
theorem dX11_judge_95 : decode cX11_judge 95 = .ok (.ifCond .le 8, 3) := by decide +kernel
theorem dX11_judge_98 : decode cX11_judge 98 = .ok (.aload_n 0, 1) := by decide +kernel
theorem dX11_judge_99 : decode cX11_judge 99 = .ok (.iconst 0, 1) := by decide +kernel
theorem dX11_judge_100 : decode cX11_judge 100 = .ok (.putfield 130, 3) := by decide +kernel
theorem dX11_judge_103 : decode cX11_judge 103 = .ok (.iload 5, 2) := by decide +kernel
theorem dX11_judge_105 : decode cX11_judge 105 = .ok (.ireturn, 1) := by decide +kernel
theorem bX11_judge_0 {d : Nat} {P : Int → q_Mem → Prop} {M : q_Mem} (x1 x2 : Int) (h : q_kI yX11_hasTray mX11_hasTray d [qI x1] M (fun v2 M1 => ((v2 = 0) → P (-2) M1) ∧ ((¬ (v2 = 0)) → ((x2 < 0) → P (-2) M1) ∧ ((¬ (x2 < 0)) → ((x2 ≤ (3 : Int)) → (0 ≤ x1 ∧ x1 < (4 : Int)) ∧ (∀ x3_4 : Int, x3_4 = (q_lay 89 (Int.toNat x1)) → q_kd x3_4 = 9 ∧ (((0 ≤ (M1 x3_4 0)) → q_kU yX7_takeFrom mX7_takeFrom d [qR 53, qR 50] M1 (fun M6 => q_kI yX11_doDeeds mX11_doDeeds d [qR 1, qR x3_4] M6 (fun v8 M7 => q_kU yX11_need mX11_need d [qR 1, qI 3] M7 (fun M9 => (((M9 x3_4 0) ≤ v8) → q_v mX11_judge d (qPI P) M9 77 [some (qR 1), none, none, none, some (qI v8), none] [qI 0, qI v8, qI x2, qR 1]) ∧ ((¬ ((M9 x3_4 0) ≤ v8)) → q_v mX11_judge d (qPI P) M9 77 [some (qR 1), none, none, none, some (qI v8), none] [qI 1, qI v8, qI x2, qR 1]))))) ∧ ((¬ (0 ≤ (M1 x3_4 0))) → P (-6) M1)))) ∧ ((¬ (x2 ≤ (3 : Int))) → P (-2) M1))))) : q_v mX11_judge d (qPI P) M 0 [some (qR 1), some (qI x1), some (qI x2), none, none, none] [] := by
  refine qr_iload_n 0 1 rfl (x := x1) rfl dX11_judge_0 ?_
  refine qs_I 1 4 rfl (av := [qI x1]) ca_X11_hasTray wm_1024 wm_1023 rfl rfl (Nat.le_of_ble_eq_true rfl) dX11_judge_1 h (fun v2 M1 h => ?_)
  refine qr_if_eq 4 7 16 rfl (by decide) dX11_judge_4 (fun c4 => ?_) (fun c4 => ?_)
  · have h := h.1 c4
    refine qr_bipush 16 18 rfl (q_l32 _ rfl) (by decide) dX11_judge_16 ?_
    exact qe_i 18 rfl dX11_judge_18 h
  · have h := h.2 c4
    refine qr_iload_n 7 8 rfl (x := x2) rfl dX11_judge_7 ?_
    refine qr_if_lt 8 11 16 rfl (by decide) dX11_judge_8 (fun c8 => ?_) (fun c8 => ?_)
    · have h := h.1 c8
      refine qr_bipush 16 18 rfl (q_l32 _ rfl) (by decide) dX11_judge_16 ?_
      exact qe_i 18 rfl dX11_judge_18 h
    · have h := h.2 c8
      refine qr_iload_n 11 12 rfl (x := x2) rfl dX11_judge_11 ?_
      refine qr_iconst 12 13 rfl (q_l32 _ rfl) dX11_judge_12 ?_
      refine qr_icmp_le 13 16 19 rfl (by decide) dX11_judge_13 (fun c13 => ?_) (fun c13 => ?_)
      · have h := h.1 c13
        refine qr_aload_n 19 20 rfl (x := 1) rfl dX11_judge_19 ?_
        refine qr_getF 20 23 rfl ck11 11 (by decide) (b := 89) (by decide +kernel) rfl (by decide +kernel) (by decide +kernel) wm_388 rfl dX11_judge_20 ?_
        refine qr_iload_n 23 24 rfl (x := x1) rfl dX11_judge_23 ?_
        have hb3 := h.1
        have h := h.2
        refine qa_ld 24 25 rfl (N := 4) (by decide +kernel) (by decide +kernel) hb3.1 hb3.2 dX11_judge_24 ?_
        refine qn_r 25 (fun x3_4 e_x3_4 => ?_)
        have h := h x3_4 e_x3_4
        refine qr_astore_n 25 26 rfl (by decide) rfl rfl dX11_judge_25 ?_
        refine qr_aload_n 26 27 rfl (x := x3_4) rfl dX11_judge_26 ?_
        have hk5 := h.1
        have h := h.2
        refine qg_i 27 30 rfl ck9 0 (kk := 0) (by decide) hk5 (by decide +kernel) rfl wm_336 rfl dX11_judge_27 ?_
        refine qr_if_ge 30 33 36 rfl (by decide) dX11_judge_30 (fun c30 => ?_) (fun c30 => ?_)
        · have h := h.1 c30
          refine qr_aload_n 36 37 rfl (x := 1) rfl dX11_judge_36 ?_
          refine qr_getF 37 40 rfl ck11 8 (by decide) (b := 53) (by decide +kernel) rfl (by decide +kernel) (by decide +kernel) wm_385 rfl dX11_judge_37 ?_
          refine qr_aload_n 40 41 rfl (x := 1) rfl dX11_judge_40 ?_
          refine qr_getF 41 44 rfl ck11 7 (by decide) (b := 50) (by decide +kernel) rfl (by decide +kernel) (by decide +kernel) wm_384 rfl dX11_judge_41 ?_
          refine qw_U 44 47 rfl (av := [qR 50]) ca_X7_takeFrom wm_916 wm_917 wm_1026 ck7 (by decide +kernel) rfl rfl (Nat.le_of_ble_eq_true rfl) dX11_judge_44 h (fun M6 h => ?_)
          refine qr_aload_n 47 48 rfl (x := 1) rfl dX11_judge_47 ?_
          refine qr_aload_n 48 49 rfl (x := x3_4) rfl dX11_judge_48 ?_
          refine qw_I 49 52 rfl (av := [qR x3_4]) ca_X11_doDeeds wm_1029 wp_57 wm_1027 ck11 (by decide +kernel) rfl rfl (Nat.le_of_ble_eq_true rfl) dX11_judge_49 h (fun v8 M7 h => ?_)
          refine qr_istore 52 54 rfl (by decide) rfl rfl dX11_judge_52 ?_
          refine qr_aload_n 54 55 rfl (x := 1) rfl dX11_judge_54 ?_
          refine qr_iconst 55 56 rfl (q_l32 _ rfl) dX11_judge_55 ?_
          refine qw_U 56 59 rfl (av := [qI 3]) ca_X11_need wm_791 wp_35 wm_789 ck11 (by decide +kernel) rfl rfl (Nat.le_of_ble_eq_true rfl) dX11_judge_56 h (fun M9 h => ?_)
          refine qr_aload_n 59 60 rfl (x := 1) rfl dX11_judge_59 ?_
          refine qr_iload_n 60 61 rfl (x := x2) rfl dX11_judge_60 ?_
          refine qr_iload 61 63 rfl (x := v8) rfl dX11_judge_61 ?_
          refine qr_iload 63 65 rfl (x := v8) rfl dX11_judge_63 ?_
          refine qr_aload_n 65 66 rfl (x := x3_4) rfl dX11_judge_65 ?_
          refine qg_i 66 69 rfl ck9 0 (kk := 0) (by decide) hk5 (by decide +kernel) rfl wm_336 rfl dX11_judge_66 ?_
          refine qr_icmp_ge 69 72 76 rfl (by decide) dX11_judge_69 (fun c69 => ?_) (fun c69 => ?_)
          · have h := h.1 c69
            refine qr_iconst 76 77 rfl (q_l32 _ rfl) dX11_judge_76 ?_
            exact qr_cut 77 (ls' := [some (qR 1), none, none, none, some (qI v8), none]) (And.intro rfl (And.intro rfl trivial)) h
          · have h := h.2 c69
            refine qr_iconst 72 73 rfl (q_l32 _ rfl) dX11_judge_72 ?_
            refine qr_goto 73 77 (by decide) dX11_judge_73 ?_
            exact qr_cut 77 (ls' := [some (qR 1), none, none, none, some (qI v8), none]) (And.intro rfl (And.intro rfl trivial)) h
        · have h := h.2 c30
          refine qr_bipush 33 35 rfl (q_l32 _ rfl) (by decide) dX11_judge_33 ?_
          exact qe_i 35 rfl dX11_judge_35 h
      · have h := h.2 c13
        refine qr_bipush 16 18 rfl (q_l32 _ rfl) (by decide) dX11_judge_16 ?_
        exact qe_i 18 rfl dX11_judge_18 h
theorem bX11_judge_77 {d : Nat} {P : Int → q_Mem → Prop} {M : q_Mem} (x4 y0 y1 y2 y3 : Int) (l0 : q_kd y0 = 11) (h : q_kI yX11_judged mX11_judged d [qR y0, qI y1, qI y2, qI y3] M (fun v2 M1 => q_kU yX7_takeFrom mX7_takeFrom d [qR 50, qR 53] M1 (fun M3 => ((x4 ≤ 0) → P v2 M3) ∧ ((¬ (x4 ≤ 0)) → (∀ M4 : q_Mem, M4 = q_up M3 1 18 0 → P v2 M4))))) : q_v mX11_judge d (qPI P) M 77 [some (qR 1), none, none, none, some (qI x4), none] [qI y3, qI y2, qI y1, qR y0] := by
  refine qw_I 77 80 rfl (av := [qI y1, qI y2, qI y3]) ca_X11_judged wm_1050 wp_62 wm_1048 ck11 l0 rfl rfl (Nat.le_of_ble_eq_true rfl) dX11_judge_77 h (fun v2 M1 h => ?_)
  refine qr_istore 80 82 rfl (by decide) rfl rfl dX11_judge_80 ?_
  refine qr_aload_n 82 83 rfl (x := 1) rfl dX11_judge_82 ?_
  refine qr_getF 83 86 rfl ck11 7 (by decide) (b := 50) (by decide +kernel) rfl (by decide +kernel) (by decide +kernel) wm_384 rfl dX11_judge_83 ?_
  refine qr_aload_n 86 87 rfl (x := 1) rfl dX11_judge_86 ?_
  refine qr_getF 87 90 rfl ck11 8 (by decide) (b := 53) (by decide +kernel) rfl (by decide +kernel) (by decide +kernel) wm_385 rfl dX11_judge_87 ?_
  refine qw_U 90 93 rfl (av := [qR 53]) ca_X7_takeFrom wm_916 wm_917 wm_1026 ck7 (by decide +kernel) rfl rfl (Nat.le_of_ble_eq_true rfl) dX11_judge_90 h (fun M3 h => ?_)
  refine qr_iload 93 95 rfl (x := x4) rfl dX11_judge_93 ?_
  refine qr_if_le 95 98 103 rfl (by decide) dX11_judge_95 (fun c95 => ?_) (fun c95 => ?_)
  · have h := h.1 c95
    refine qr_iload 103 105 rfl (x := v2) rfl dX11_judge_103 ?_
    exact qe_i 105 rfl dX11_judge_105 h
  · have h := h.2 c95
    refine qr_aload_n 98 99 rfl (x := 1) rfl dX11_judge_98 ?_
    refine qr_iconst 99 100 rfl (q_l32 _ rfl) dX11_judge_99 ?_
    refine qp_i 100 103 rfl ck11 18 (kk := 18) (by decide) (by decide +kernel) (by decide) rfl rfl wm_395 rfl dX11_judge_100 (fun M4 e_M4 => ?_)
    have h := h M4 e_M4
    refine qr_iload 103 105 rfl (x := v2) rfl dX11_judge_103 ?_
    exact qe_i 105 rfl dX11_judge_105 h
theorem dX11_judged_0 : decode cX11_judged 0 = .ok (.iload_n 1, 1) := by decide +kernel
theorem dX11_judged_1 : decode cX11_judged 1 = .ok (.ifCond .ne 13, 3) := by decide +kernel
theorem dX11_judged_4 : decode cX11_judged 4 = .ok (.iload_n 3, 1) := by decide +kernel
theorem dX11_judged_5 : decode cX11_judged 5 = .ok (.ifCond .eq 7, 3) := by decide +kernel
theorem dX11_judged_8 : decode cX11_judged 8 = .ok (.iload_n 2, 1) := by decide +kernel
theorem dX11_judged_9 : decode cX11_judged 9 = .ok (.goto 4, 3) := by decide +kernel
theorem dX11_judged_12 : decode cX11_judged 12 = .ok (.iconst (-1), 1) := by decide +kernel
theorem dX11_judged_13 : decode cX11_judged 13 = .ok (.ireturn, 1) := by decide +kernel
theorem dX11_judged_14 : decode cX11_judged 14 = .ok (.iload_n 1, 1) := by decide +kernel
theorem dX11_judged_15 : decode cX11_judged 15 = .ok (.iconst 1, 1) := by decide +kernel
theorem dX11_judged_16 : decode cX11_judged 16 = .ok (.if_icmp .ne 13, 3) := by decide +kernel
theorem dX11_judged_19 : decode cX11_judged 19 = .ok (.iload_n 3, 1) := by decide +kernel
theorem dX11_judged_20 : decode cX11_judged 20 = .ok (.ifCond .eq 7, 3) := by decide +kernel
theorem dX11_judged_23 : decode cX11_judged 23 = .ok (.iconst 1, 1) := by decide +kernel
theorem dX11_judged_24 : decode cX11_judged 24 = .ok (.goto 4, 3) := by decide +kernel
theorem dX11_judged_27 : decode cX11_judged 27 = .ok (.iconst 0, 1) := by decide +kernel
theorem dX11_judged_28 : decode cX11_judged 28 = .ok (.ireturn, 1) := by decide +kernel
theorem dX11_judged_29 : decode cX11_judged 29 = .ok (.iload_n 1, 1) := by decide +kernel
theorem dX11_judged_30 : decode cX11_judged 30 = .ok (.iconst 2, 1) := by decide +kernel
theorem dX11_judged_31 : decode cX11_judged 31 = .ok (.if_icmp .ne 16, 3) := by decide +kernel
theorem dX11_judged_34 : decode cX11_judged 34 = .ok (.aload_n 0, 1) := by decide +kernel
theorem dX11_judged_35 : decode cX11_judged 35 = .ok (.aload_n 0, 1) := by decide +kernel
theorem dX11_judged_36 : decode cX11_judged 36 = .ok (.invokevirtual 259, 3) := by decide +kernel
theorem dX11_judged_39 : decode cX11_judged 39 = .ok (.invokevirtual 262, 3) := by decide +kernel
theorem dX11_judged_42 : decode cX11_judged 42 = .ok (.sipush 10000, 3) := by decide +kernel
theorem dX11_judged_45 : decode cX11_judged 45 = .ok (.iadd, 1) := by decide +kernel
theorem dX11_judged_46 : decode cX11_judged 46 = .ok (.ireturn, 1) := by decide +kernel
theorem dX11_judged_47 : decode cX11_judged 47 = .ok (.aload_n 0, 1) := by decide +kernel
theorem dX11_judged_48 : decode cX11_judged 48 = .ok (.getfield 70, 3) := by decide +kernel
theorem dX11_judged_51 : decode cX11_judged 51 = .ok (.getfield 265, 3) := by decide +kernel
theorem dX11_judged_54 : decode cX11_judged 54 = .ok (.ireturn, 1) := by decide +kernel
theorem bX11_judged_0 {d : Nat} {P : Int → q_Mem → Prop} {M : q_Mem} (x1 x2 x3 : Int) (h : ((¬ x1 = 0) → ((¬ x1 = (1 : Int)) → ((¬ x1 = (2 : Int)) → P (M 91 2) M) ∧ ((x1 = (2 : Int)) → q_kI yX11_cutBits mX11_cutBits d [qR 1] M (fun v2 M1 => q_kI yX11_worthOfCut mX11_worthOfCut d [qR 1, qI v2] M1 (fun v4 M3 => P (q_add v4 10000) M3)))) ∧ ((x1 = (1 : Int)) → ((x3 = 0) → P 0 M) ∧ ((¬ (x3 = 0)) → P 1 M))) ∧ ((x1 = 0) → ((x3 = 0) → P (-1) M) ∧ ((¬ (x3 = 0)) → P x2 M))) : q_v mX11_judged d (qPI P) M 0 [some (qR 1), some (qI x1), some (qI x2), some (qI x3)] [] := by
  refine qr_iload_n 0 1 rfl (x := x1) rfl dX11_judged_0 ?_
  refine qr_if_ne 1 4 14 rfl (by decide) dX11_judged_1 (fun c1 => ?_) (fun c1 => ?_)
  · have h := h.1 c1
    refine qr_iload_n 14 15 rfl (x := x1) rfl dX11_judged_14 ?_
    refine qr_iconst 15 16 rfl (q_l32 _ rfl) dX11_judged_15 ?_
    refine qr_icmp_ne 16 19 29 rfl (by decide) dX11_judged_16 (fun c16 => ?_) (fun c16 => ?_)
    · have h := h.1 c16
      refine qr_iload_n 29 30 rfl (x := x1) rfl dX11_judged_29 ?_
      refine qr_iconst 30 31 rfl (q_l32 _ rfl) dX11_judged_30 ?_
      refine qr_icmp_ne 31 34 47 rfl (by decide) dX11_judged_31 (fun c31 => ?_) (fun c31 => ?_)
      · have h := h.1 c31
        refine qr_aload_n 47 48 rfl (x := 1) rfl dX11_judged_47 ?_
        refine qr_getF 48 51 rfl ck11 13 (by decide) (b := 91) (by decide +kernel) rfl (by decide +kernel) (by decide +kernel) wm_390 rfl dX11_judged_48 ?_
        refine qg_i 51 54 rfl ck6 2 (kk := 2) (by decide) (by decide +kernel) (by decide +kernel) rfl wm_222 rfl dX11_judged_51 ?_
        exact qe_i 54 rfl dX11_judged_54 h
      · have h := h.2 c31
        refine qr_aload_n 34 35 rfl (x := 1) rfl dX11_judged_34 ?_
        refine qr_aload_n 35 36 rfl (x := 1) rfl dX11_judged_35 ?_
        refine qw_I 36 39 rfl (av := []) ca_X11_cutBits wm_935 wp_47 wm_933 ck11 (by decide +kernel) rfl rfl (Nat.le_of_ble_eq_true rfl) dX11_judged_36 h (fun v2 M1 h => ?_)
        refine qw_I 39 42 rfl (av := [qI v2]) ca_X11_worthOfCut wm_943 wp_49 wm_941 ck11 (by decide +kernel) rfl rfl (Nat.le_of_ble_eq_true rfl) dX11_judged_39 h (fun v4 M3 h => ?_)
        refine qr_sipush 42 45 rfl (q_l32 _ rfl) (by decide) dX11_judged_42 ?_
        refine qr_iadd 45 46 rfl dX11_judged_45 ?_
        exact qe_i 46 rfl dX11_judged_46 h
    · have h := h.2 c16
      refine qr_iload_n 19 20 rfl (x := x3) rfl dX11_judged_19 ?_
      refine qr_if_eq 20 23 27 rfl (by decide) dX11_judged_20 (fun c20 => ?_) (fun c20 => ?_)
      · have h := h.1 c20
        refine qr_iconst 27 28 rfl (q_l32 _ rfl) dX11_judged_27 ?_
        exact qe_i 28 rfl dX11_judged_28 h
      · have h := h.2 c20
        refine qr_iconst 23 24 rfl (q_l32 _ rfl) dX11_judged_23 ?_
        refine qr_goto 24 28 (by decide) dX11_judged_24 ?_
        exact qe_i 28 rfl dX11_judged_28 h
  · have h := h.2 c1
    refine qr_iload_n 4 5 rfl (x := x3) rfl dX11_judged_4 ?_
    refine qr_if_eq 5 8 12 rfl (by decide) dX11_judged_5 (fun c5 => ?_) (fun c5 => ?_)
    · have h := h.1 c5
      refine qr_iconst 12 13 rfl (q_l32 _ rfl) dX11_judged_12 ?_
      exact qe_i 13 rfl dX11_judged_13 h
    · have h := h.2 c5
      refine qr_iload_n 8 9 rfl (x := x2) rfl dX11_judged_8 ?_
      refine qr_goto 9 13 (by decide) dX11_judged_9 ?_
      exact qe_i 13 rfl dX11_judged_13 h
theorem dX11_perform_0 : decode cX11_perform 0 = .ok (.iload_n 1, 1) := by decide +kernel
theorem dX11_perform_1 : decode cX11_perform 1 = .ok (.invokestatic 244, 3) := by decide +kernel
theorem dX11_perform_4 : decode cX11_perform 4 = .ok (.ifCond .ne 6, 3) := by decide +kernel
theorem dX11_perform_7 : decode cX11_perform 7 = .ok (.bipush (-2), 2) := by decide +kernel
theorem dX11_perform_9 : decode cX11_perform 9 = .ok (.ireturn, 1) := by decide +kernel
theorem dX11_perform_10 : decode cX11_perform 10 = .ok (.aload_n 0, 1) := by decide +kernel
theorem dX11_perform_11 : decode cX11_perform 11 = .ok (.getfield 59, 3) := by decide +kernel
theorem dX11_perform_14 : decode cX11_perform 14 = .ok (.iload_n 1, 1) := by decide +kernel
theorem dX11_perform_15 : decode cX11_perform 15 = .ok (.aaload, 1) := by decide +kernel
theorem dX11_perform_16 : decode cX11_perform 16 = .ok (.getfield 247, 3) := by decide +kernel
theorem dX11_perform_19 : decode cX11_perform 19 = .ok (.ifCond .ge 6, 3) := by decide +kernel
theorem dX11_perform_22 : decode cX11_perform 22 = .ok (.bipush (-6), 2) := by decide +kernel
theorem dX11_perform_24 : decode cX11_perform 24 = .ok (.ireturn, 1) := by decide +kernel
theorem dX11_perform_25 : decode cX11_perform 25 = .ok (.aload_n 0, 1) := by decide +kernel
theorem dX11_perform_26 : decode cX11_perform 26 = .ok (.getfield 41, 3) := by decide +kernel
theorem dX11_perform_29 : decode cX11_perform 29 = .ok (.aload_n 0, 1) := by decide +kernel
theorem dX11_perform_30 : decode cX11_perform 30 = .ok (.getfield 37, 3) := by decide +kernel
theorem dX11_perform_33 : decode cX11_perform 33 = .ok (.invokevirtual 248, 3) := by decide +kernel
theorem dX11_perform_36 : decode cX11_perform 36 = .ok (.aload_n 0, 1) := by decide +kernel
theorem dX11_perform_37 : decode cX11_perform 37 = .ok (.aload_n 0, 1) := by decide +kernel
theorem dX11_perform_38 : decode cX11_perform 38 = .ok (.getfield 59, 3) := by decide +kernel
theorem dX11_perform_41 : decode cX11_perform 41 = .ok (.iload_n 1, 1) := by decide +kernel
theorem dX11_perform_42 : decode cX11_perform 42 = .ok (.aaload, 1) := by decide +kernel
theorem dX11_perform_43 : decode cX11_perform 43 = .ok (.invokevirtual 251, 3) := by decide +kernel
theorem dX11_perform_46 : decode cX11_perform 46 = .ok (.istore_n 2, 1) := by decide +kernel
theorem dX11_perform_47 : decode cX11_perform 47 = .ok (.iload_n 2, 1) := by decide +kernel
theorem dX11_perform_48 : decode cX11_perform 48 = .ok (.ifCond .le 14, 3) := by decide +kernel
theorem dX11_perform_51 : decode cX11_perform 51 = .ok (.aload_n 0, 1) := by decide +kernel
theorem dX11_perform_52 : decode cX11_perform 52 = .ok (.getfield 47, 3) := by decide +kernel
theorem dX11_perform_55 : decode cX11_perform 55 = .ok (.aload_n 0, 1) := by decide +kernel
theorem dX11_perform_56 : decode cX11_perform 56 = .ok (.getfield 41, 3) := by decide +kernel
theorem dX11_perform_59 : decode cX11_perform 59 = .ok (.invokevirtual 179, 3) := by decide +kernel
theorem dX11_perform_62 : decode cX11_perform 62 = .ok (.iload_n 2, 1) := by decide +kernel
theorem dX11_perform_63 : decode cX11_perform 63 = .ok (.ireturn, 1) := by decide +kernel
theorem bX11_perform_0 {d : Nat} {P : Int → q_Mem → Prop} {M : q_Mem} (x1 : Int) (h : q_kI yX11_hasTray mX11_hasTray d [qI x1] M (fun v2 M1 => ((¬ v2 = 0) → (0 ≤ x1 ∧ x1 < (4 : Int)) ∧ (q_kd (q_lay 89 (Int.toNat x1)) = 9 ∧ (((0 ≤ (M1 (q_lay 89 (Int.toNat x1)) 0)) → q_kU yX7_takeFrom mX7_takeFrom d [qR 53, qR 50] M1 (fun M5 => (0 ≤ x1 ∧ x1 < (4 : Int)) ∧ (q_kI yX11_doDeeds mX11_doDeeds d [qR 1, qR (q_lay 89 (Int.toNat x1))] M5 (fun v8 M7 => ((v8 ≤ 0) → P v8 M7) ∧ ((¬ (v8 ≤ 0)) → q_kU yX0_keep mX0_keep d [qR 56, qR 53] M7 (fun M9 => P v8 M9)))))) ∧ ((¬ (0 ≤ (M1 (q_lay 89 (Int.toNat x1)) 0))) → P (-6) M1)))) ∧ ((v2 = 0) → P (-2) M1))) : q_v mX11_perform d (qPI P) M 0 [some (qR 1), some (qI x1), none] [] := by
  refine qr_iload_n 0 1 rfl (x := x1) rfl dX11_perform_0 ?_
  refine qs_I 1 4 rfl (av := [qI x1]) ca_X11_hasTray wm_1024 wm_1023 rfl rfl (Nat.le_of_ble_eq_true rfl) dX11_perform_1 h (fun v2 M1 h => ?_)
  refine qr_if_ne 4 7 10 rfl (by decide) dX11_perform_4 (fun c4 => ?_) (fun c4 => ?_)
  · have h := h.1 c4
    refine qr_aload_n 10 11 rfl (x := 1) rfl dX11_perform_10 ?_
    refine qr_getF 11 14 rfl ck11 11 (by decide) (b := 89) (by decide +kernel) rfl (by decide +kernel) (by decide +kernel) wm_388 rfl dX11_perform_11 ?_
    refine qr_iload_n 14 15 rfl (x := x1) rfl dX11_perform_14 ?_
    have hb3 := h.1
    have h := h.2
    refine qa_ld 15 16 rfl (N := 4) (by decide +kernel) (by decide +kernel) hb3.1 hb3.2 dX11_perform_15 ?_
    have hk4 := h.1
    have h := h.2
    refine qg_i 16 19 rfl ck9 0 (kk := 0) (by decide) hk4 (by decide +kernel) rfl wm_336 rfl dX11_perform_16 ?_
    refine qr_if_ge 19 22 25 rfl (by decide) dX11_perform_19 (fun c19 => ?_) (fun c19 => ?_)
    · have h := h.1 c19
      refine qr_aload_n 25 26 rfl (x := 1) rfl dX11_perform_25 ?_
      refine qr_getF 26 29 rfl ck11 8 (by decide) (b := 53) (by decide +kernel) rfl (by decide +kernel) (by decide +kernel) wm_385 rfl dX11_perform_26 ?_
      refine qr_aload_n 29 30 rfl (x := 1) rfl dX11_perform_29 ?_
      refine qr_getF 30 33 rfl ck11 7 (by decide) (b := 50) (by decide +kernel) rfl (by decide +kernel) (by decide +kernel) wm_384 rfl dX11_perform_30 ?_
      refine qw_U 33 36 rfl (av := [qR 50]) ca_X7_takeFrom wm_916 wm_917 wm_1026 ck7 (by decide +kernel) rfl rfl (Nat.le_of_ble_eq_true rfl) dX11_perform_33 h (fun M5 h => ?_)
      refine qr_aload_n 36 37 rfl (x := 1) rfl dX11_perform_36 ?_
      refine qr_aload_n 37 38 rfl (x := 1) rfl dX11_perform_37 ?_
      refine qr_getF 38 41 rfl ck11 11 (by decide) (b := 89) (by decide +kernel) rfl (by decide +kernel) (by decide +kernel) wm_388 rfl dX11_perform_38 ?_
      refine qr_iload_n 41 42 rfl (x := x1) rfl dX11_perform_41 ?_
      have hb6 := h.1
      have h := h.2
      refine qa_ld 42 43 rfl (N := 4) (by decide +kernel) (by decide +kernel) hb6.1 hb6.2 dX11_perform_42 ?_
      refine qw_I 43 46 rfl (av := [qR (q_lay 89 (Int.toNat x1))]) ca_X11_doDeeds wm_1029 wp_57 wm_1027 ck11 (by decide +kernel) rfl rfl (Nat.le_of_ble_eq_true rfl) dX11_perform_43 h (fun v8 M7 h => ?_)
      refine qr_istore_n 46 47 rfl (by decide) rfl rfl dX11_perform_46 ?_
      refine qr_iload_n 47 48 rfl (x := v8) rfl dX11_perform_47 ?_
      refine qr_if_le 48 51 62 rfl (by decide) dX11_perform_48 (fun c48 => ?_) (fun c48 => ?_)
      · have h := h.1 c48
        refine qr_iload_n 62 63 rfl (x := v8) rfl dX11_perform_62 ?_
        exact qe_i 63 rfl dX11_perform_63 h
      · have h := h.2 c48
        refine qr_aload_n 51 52 rfl (x := 1) rfl dX11_perform_51 ?_
        refine qr_getF 52 55 rfl ck11 9 (by decide) (b := 56) (by decide +kernel) rfl (by decide +kernel) (by decide +kernel) wm_386 rfl dX11_perform_52 ?_
        refine qr_aload_n 55 56 rfl (x := 1) rfl dX11_perform_55 ?_
        refine qr_getF 56 59 rfl ck11 8 (by decide) (b := 53) (by decide +kernel) rfl (by decide +kernel) (by decide +kernel) wm_385 rfl dX11_perform_56 ?_
        refine qw_U 59 62 rfl (av := [qR 53]) ca_X0_keep wm_912 wm_913 wm_911 ck0 (by decide +kernel) rfl rfl (Nat.le_of_ble_eq_true rfl) dX11_perform_59 h (fun M9 h => ?_)
        refine qr_iload_n 62 63 rfl (x := v8) rfl dX11_perform_62 ?_
        exact qe_i 63 rfl dX11_perform_63 h
    · have h := h.2 c19
      refine qr_bipush 22 24 rfl (q_l32 _ rfl) (by decide) dX11_perform_22 ?_
      exact qe_i 24 rfl dX11_perform_24 h
  · have h := h.2 c4
    refine qr_bipush 7 9 rfl (q_l32 _ rfl) (by decide) dX11_perform_7 ?_
    exact qe_i 9 rfl dX11_perform_9 h
theorem dX11_doDeeds_0 : decode cX11_doDeeds 0 = .ok (.iconst 0, 1) := by decide +kernel
theorem dX11_doDeeds_1 : decode cX11_doDeeds 1 = .ok (.istore_n 2, 1) := by decide +kernel
theorem dX11_doDeeds_2 : decode cX11_doDeeds 2 = .ok (.iconst 0, 1) := by decide +kernel
theorem dX11_doDeeds_3 : decode cX11_doDeeds 3 = .ok (.istore_n 3, 1) := by decide +kernel
theorem dX11_doDeeds_4 : decode cX11_doDeeds 4 = .ok (.iload_n 3, 1) := by decide +kernel
theorem dX11_doDeeds_5 : decode cX11_doDeeds 5 = .ok (.aload_n 1, 1) := by decide +kernel
theorem dX11_doDeeds_6 : decode cX11_doDeeds 6 = .ok (.getfield 247, 3) := by decide +kernel
theorem dX11_doDeeds_9 : decode cX11_doDeeds 9 = .ok (.if_icmp .ge 28, 3) := by decide +kernel
theorem dX11_doDeeds_12 : decode cX11_doDeeds 12 = .ok (.aload_n 0, 1) := by decide +kernel
theorem dX11_doDeeds_13 : decode cX11_doDeeds 13 = .ok (.aload_n 1, 1) := by decide +kernel
theorem dX11_doDeeds_14 : decode cX11_doDeeds 14 = .ok (.getfield 268, 3) := by decide +kernel
theorem dX11_doDeeds_17 : decode cX11_doDeeds 17 = .ok (.iload_n 3, 1) := by decide +kernel
theorem dX11_doDeeds_18 : decode cX11_doDeeds 18 = .ok (.laload, 1) := by decide +kernel
theorem dX11_doDeeds_19 : decode cX11_doDeeds 19 = .ok (.invokevirtual 272, 3) := by decide +kernel
theorem dX11_doDeeds_22 : decode cX11_doDeeds 22 = .ok (.ifCond .ne 6, 3) := by decide +kernel
theorem dX11_doDeeds_25 : decode cX11_doDeeds 25 = .ok (.goto 12, 3) := by decide +kernel
theorem dX11_doDeeds_28 : decode cX11_doDeeds 28 = .ok (.iinc 2 1, 3) := by decide +kernel
theorem dX11_doDeeds_31 : decode cX11_doDeeds 31 = .ok (.iinc 3 1, 3) := by decide +kernel
theorem dX11_doDeeds_34 : decode cX11_doDeeds 34 = .ok (.goto (-30), 3) := by decide +kernel
theorem dX11_doDeeds_37 : decode cX11_doDeeds 37 = .ok (.iload_n 2, 1) := by decide +kernel
theorem dX11_doDeeds_38 : decode cX11_doDeeds 38 = .ok (.ireturn, 1) := by decide +kernel
theorem bX11_doDeeds_0 {d : Nat} {P : Int → q_Mem → Prop} {M : q_Mem} (x1 : Int) (k1 : q_kd x1 = 9) (h : q_v mX11_doDeeds d (qPI P) M 4 [some (qR 1), some (qR x1), some (qI 0), some (qI 0)] []) : q_v mX11_doDeeds d (qPI P) M 0 [some (qR 1), some (qR x1), none, none] [] := by
  refine qr_iconst 0 1 rfl (q_l32 _ rfl) dX11_doDeeds_0 ?_
  refine qr_istore_n 1 2 rfl (by decide) rfl rfl dX11_doDeeds_1 ?_
  refine qr_iconst 2 3 rfl (q_l32 _ rfl) dX11_doDeeds_2 ?_
  refine qr_istore_n 3 4 rfl (by decide) rfl rfl dX11_doDeeds_3 ?_
  exact h
theorem bX11_doDeeds_4 {d : Nat} {P : Int → q_Mem → Prop} {M : q_Mem} (x1 x2 x3 : Int) (k1 : q_kd x1 = 9) (h : (((M x1 0) ≤ x3) → P x2 M) ∧ ((¬ ((M x1 0) ≤ x3)) → (0 ≤ x3 ∧ x3 < (40 : Int)) ∧ (q_kI yX11_doDeed mX11_doDeed d [qR 1, qL (M (q_lay x1 2) x3)] M (fun v3 M2 => ((¬ v3 = 0) → q_v mX11_doDeeds d (qPI P) M2 4 [some (qR 1), some (qR x1), some (qI (q_add x2 1)), some (qI (q_add x3 1))] []) ∧ ((v3 = 0) → P x2 M2))))) : q_v mX11_doDeeds d (qPI P) M 4 [some (qR 1), some (qR x1), some (qI x2), some (qI x3)] [] := by
  refine qr_iload_n 4 5 rfl (x := x3) rfl dX11_doDeeds_4 ?_
  refine qr_aload_n 5 6 rfl (x := x1) rfl dX11_doDeeds_5 ?_
  refine qg_i 6 9 rfl ck9 0 (kk := 0) (by decide) k1 (by decide +kernel) rfl wm_336 rfl dX11_doDeeds_6 ?_
  refine qr_icmp_ge 9 12 37 rfl (by decide) dX11_doDeeds_9 (fun c9 => ?_) (fun c9 => ?_)
  · have h := h.1 c9
    refine qr_iload_n 37 38 rfl (x := x2) rfl dX11_doDeeds_37 ?_
    exact qe_i 38 rfl dX11_doDeeds_38 h
  · have h := h.2 c9
    refine qr_aload_n 12 13 rfl (x := 1) rfl dX11_doDeeds_12 ?_
    refine qr_aload_n 13 14 rfl (x := x1) rfl dX11_doDeeds_13 ?_
    refine qr_getF 14 17 rfl ck9 2 (by decide) (b := (q_lay x1 2)) k1 rfl (by decide +kernel) rfl wm_339 rfl dX11_doDeeds_14 ?_
    refine qr_iload_n 17 18 rfl (x := x3) rfl dX11_doDeeds_17 ?_
    have hb1 := h.1
    have h := h.2
    refine ql_ld 18 19 rfl (N := 40) (lk9_2 _ k1) (ll9_2 _ k1) hb1.1 hb1.2 dX11_doDeeds_18 ?_
    refine qw_I 19 22 rfl (av := [qL (M (q_lay x1 2) x3)]) ca_X11_doDeed wm_1033 wp_58 wm_1031 ck11 (by decide +kernel) rfl rfl (Nat.le_of_ble_eq_true rfl) dX11_doDeeds_19 h (fun v3 M2 h => ?_)
    refine qr_if_ne 22 25 28 rfl (by decide) dX11_doDeeds_22 (fun c22 => ?_) (fun c22 => ?_)
    · have h := h.1 c22
      refine qr_iinc 28 31 rfl (by decide) (x := x2) rfl rfl rfl dX11_doDeeds_28 ?_
      refine qr_iinc 31 34 rfl (by decide) (x := x3) rfl rfl rfl dX11_doDeeds_31 ?_
      refine qr_goto 34 4 (by decide) dX11_doDeeds_34 ?_
      exact h
    · have h := h.2 c22
      refine qr_goto 25 37 (by decide) dX11_doDeeds_25 ?_
      refine qr_iload_n 37 38 rfl (x := x2) rfl dX11_doDeeds_37 ?_
      exact qe_i 38 rfl dX11_doDeeds_38 h
theorem dX11_day_0 : decode cX11_day 0 = .ok (.iload_n 2, 1) := by decide +kernel
theorem dX11_day_1 : decode cX11_day 1 = .ok (.iconst 1, 1) := by decide +kernel
theorem dX11_day_2 : decode cX11_day 2 = .ok (.if_icmp .lt 9, 3) := by decide +kernel
theorem dX11_day_5 : decode cX11_day 5 = .ok (.iload_n 2, 1) := by decide +kernel
theorem dX11_day_6 : decode cX11_day 6 = .ok (.bipush 40, 2) := by decide +kernel
theorem dX11_day_8 : decode cX11_day 8 = .ok (.if_icmp .le 6, 3) := by decide +kernel
theorem dX11_day_11 : decode cX11_day 11 = .ok (.bipush (-3), 2) := by decide +kernel
theorem dX11_day_13 : decode cX11_day 13 = .ok (.ireturn, 1) := by decide +kernel
theorem dX11_day_14 : decode cX11_day 14 = .ok (.aload_n 0, 1) := by decide +kernel
theorem dX11_day_15 : decode cX11_day 15 = .ok (.getfield 41, 3) := by decide +kernel
theorem dX11_day_18 : decode cX11_day 18 = .ok (.aload_n 0, 1) := by decide +kernel
theorem dX11_day_19 : decode cX11_day 19 = .ok (.getfield 37, 3) := by decide +kernel
theorem dX11_day_22 : decode cX11_day 22 = .ok (.invokevirtual 248, 3) := by decide +kernel
theorem dX11_day_25 : decode cX11_day 25 = .ok (.iload_n 1, 1) := by decide +kernel
theorem dX11_day_26 : decode cX11_day 26 = .ok (.istore_n 3, 1) := by decide +kernel
theorem dX11_day_27 : decode cX11_day 27 = .ok (.iconst 0, 1) := by decide +kernel
theorem dX11_day_28 : decode cX11_day 28 = .ok (.istore 4, 2) := by decide +kernel
theorem dX11_day_30 : decode cX11_day 30 = .ok (.iconst 0, 1) := by decide +kernel
theorem dX11_day_31 : decode cX11_day 31 = .ok (.istore 5, 2) := by decide +kernel
theorem dX11_day_33 : decode cX11_day 33 = .ok (.iload 5, 2) := by decide +kernel
theorem dX11_day_35 : decode cX11_day 35 = .ok (.iload_n 2, 1) := by decide +kernel
theorem dX11_day_36 : decode cX11_day 36 = .ok (.if_icmp .ge 74, 3) := by decide +kernel
theorem dX11_day_39 : decode cX11_day 39 = .ok (.iload_n 3, 1) := by decide +kernel
theorem dX11_day_40 : decode cX11_day 40 = .ok (.invokestatic 276, 3) := by decide +kernel
theorem dX11_day_43 : decode cX11_day 43 = .ok (.istore_n 3, 1) := by decide +kernel
theorem dX11_day_44 : decode cX11_day 44 = .ok (.iload_n 3, 1) := by decide +kernel
theorem dX11_day_45 : decode cX11_day 45 = .ok (.bipush 16, 2) := by decide +kernel
theorem dX11_day_47 : decode cX11_day 47 = .ok (.iushr, 1) := by decide +kernel
theorem dX11_day_48 : decode cX11_day 48 = .ok (.bipush 6, 2) := by decide +kernel
theorem dX11_day_50 : decode cX11_day 50 = .ok (.irem, 1) := by decide +kernel
theorem dX11_day_51 : decode cX11_day 51 = .ok (.istore 6, 2) := by decide +kernel
theorem dX11_day_53 : decode cX11_day 53 = .ok (.iload_n 3, 1) := by decide +kernel
theorem dX11_day_54 : decode cX11_day 54 = .ok (.invokestatic 276, 3) := by decide +kernel
theorem dX11_day_57 : decode cX11_day 57 = .ok (.istore_n 3, 1) := by decide +kernel
theorem dX11_day_58 : decode cX11_day 58 = .ok (.iload_n 3, 1) := by decide +kernel
theorem dX11_day_59 : decode cX11_day 59 = .ok (.bipush 16, 2) := by decide +kernel
theorem dX11_day_61 : decode cX11_day 61 = .ok (.iushr, 1) := by decide +kernel
theorem dX11_day_62 : decode cX11_day 62 = .ok (.istore 7, 2) := by decide +kernel
theorem dX11_day_64 : decode cX11_day 64 = .ok (.iconst 0, 1) := by decide +kernel
theorem dX11_day_65 : decode cX11_day 65 = .ok (.istore 8, 2) := by decide +kernel
theorem dX11_day_67 : decode cX11_day 67 = .ok (.iload 6, 2) := by decide +kernel
theorem dX11_day_69 : decode cX11_day 69 = .ok (.iconst 3, 1) := by decide +kernel
theorem dX11_day_70 : decode cX11_day 70 = .ok (.if_icmp .le 14, 3) := by decide +kernel
theorem dX11_day_73 : decode cX11_day 73 = .ok (.iload_n 3, 1) := by decide +kernel
theorem dX11_day_74 : decode cX11_day 74 = .ok (.invokestatic 276, 3) := by decide +kernel
theorem dX11_day_77 : decode cX11_day 77 = .ok (.istore_n 3, 1) := by decide +kernel
theorem dX11_day_78 : decode cX11_day 78 = .ok (.iload_n 3, 1) := by decide +kernel
theorem dX11_day_79 : decode cX11_day 79 = .ok (.bipush 16, 2) := by decide +kernel
theorem dX11_day_81 : decode cX11_day 81 = .ok (.iushr, 1) := by decide +kernel
theorem dX11_day_82 : decode cX11_day 82 = .ok (.istore 8, 2) := by decide +kernel
theorem dX11_day_84 : decode cX11_day 84 = .ok (.aload_n 0, 1) := by decide +kernel
theorem dX11_day_85 : decode cX11_day 85 = .ok (.iload 6, 2) := by decide +kernel
theorem dX11_day_87 : decode cX11_day 87 = .ok (.iload 7, 2) := by decide +kernel
theorem dX11_day_89 : decode cX11_day 89 = .ok (.iload 8, 2) := by decide +kernel
theorem dX11_day_91 : decode cX11_day 91 = .ok (.invokestatic 279, 3) := by decide +kernel
theorem dX11_day_94 : decode cX11_day 94 = .ok (.i2l, 1) := by decide +kernel
theorem dX11_day_95 : decode cX11_day 95 = .ok (.invokevirtual 272, 3) := by decide +kernel
theorem dX11_day_98 : decode cX11_day 98 = .ok (.ifCond .eq 6, 3) := by decide +kernel
theorem dX11_day_101 : decode cX11_day 101 = .ok (.iinc 4 1, 3) := by decide +kernel
theorem dX11_day_104 : decode cX11_day 104 = .ok (.iinc 5 1, 3) := by decide +kernel
theorem dX11_day_107 : decode cX11_day 107 = .ok (.goto (-74), 3) := by decide +kernel
theorem dX11_day_110 : decode cX11_day 110 = .ok (.iload 4, 2) := by decide +kernel
theorem dX11_day_112 : decode cX11_day 112 = .ok (.ifCond .le 14, 3) := by decide +kernel
theorem dX11_day_115 : decode cX11_day 115 = .ok (.aload_n 0, 1) := by decide +kernel
theorem dX11_day_116 : decode cX11_day 116 = .ok (.getfield 47, 3) := by decide +kernel
theorem dX11_day_119 : decode cX11_day 119 = .ok (.aload_n 0, 1) := by decide +kernel
theorem dX11_day_120 : decode cX11_day 120 = .ok (.getfield 41, 3) := by decide +kernel
theorem dX11_day_123 : decode cX11_day 123 = .ok (.invokevirtual 179, 3) := by decide +kernel
theorem dX11_day_126 : decode cX11_day 126 = .ok (.iload 4, 2) := by decide +kernel
theorem dX11_day_128 : decode cX11_day 128 = .ok (.ireturn, 1) := by decide +kernel
theorem bX11_day_0 {d : Nat} {P : Int → q_Mem → Prop} {M : q_Mem} (x1 x2 : Int) (h : ((x2 < (1 : Int)) → P (-3) M) ∧ ((¬ (x2 < (1 : Int))) → ((x2 ≤ (40 : Int)) → q_kU yX7_takeFrom mX7_takeFrom d [qR 53, qR 50] M (fun M1 => q_v mX11_day d (qPI P) M1 33 [some (qR 1), none, some (qI x2), some (qI x1), some (qI 0), some (qI 0), none, none, none] [])) ∧ ((¬ (x2 ≤ (40 : Int))) → P (-3) M))) : q_v mX11_day d (qPI P) M 0 [some (qR 1), some (qI x1), some (qI x2), none, none, none, none, none, none] [] := by
  refine qr_iload_n 0 1 rfl (x := x2) rfl dX11_day_0 ?_
  refine qr_iconst 1 2 rfl (q_l32 _ rfl) dX11_day_1 ?_
  refine qr_icmp_lt 2 5 11 rfl (by decide) dX11_day_2 (fun c2 => ?_) (fun c2 => ?_)
  · have h := h.1 c2
    refine qr_bipush 11 13 rfl (q_l32 _ rfl) (by decide) dX11_day_11 ?_
    exact qe_i 13 rfl dX11_day_13 h
  · have h := h.2 c2
    refine qr_iload_n 5 6 rfl (x := x2) rfl dX11_day_5 ?_
    refine qr_bipush 6 8 rfl (q_l32 _ rfl) (by decide) dX11_day_6 ?_
    refine qr_icmp_le 8 11 14 rfl (by decide) dX11_day_8 (fun c8 => ?_) (fun c8 => ?_)
    · have h := h.1 c8
      refine qr_aload_n 14 15 rfl (x := 1) rfl dX11_day_14 ?_
      refine qr_getF 15 18 rfl ck11 8 (by decide) (b := 53) (by decide +kernel) rfl (by decide +kernel) (by decide +kernel) wm_385 rfl dX11_day_15 ?_
      refine qr_aload_n 18 19 rfl (x := 1) rfl dX11_day_18 ?_
      refine qr_getF 19 22 rfl ck11 7 (by decide) (b := 50) (by decide +kernel) rfl (by decide +kernel) (by decide +kernel) wm_384 rfl dX11_day_19 ?_
      refine qw_U 22 25 rfl (av := [qR 50]) ca_X7_takeFrom wm_916 wm_917 wm_1026 ck7 (by decide +kernel) rfl rfl (Nat.le_of_ble_eq_true rfl) dX11_day_22 h (fun M1 h => ?_)
      refine qr_iload_n 25 26 rfl (x := x1) rfl dX11_day_25 ?_
      refine qr_istore_n 26 27 rfl (by decide) rfl rfl dX11_day_26 ?_
      refine qr_iconst 27 28 rfl (q_l32 _ rfl) dX11_day_27 ?_
      refine qr_istore 28 30 rfl (by decide) rfl rfl dX11_day_28 ?_
      refine qr_iconst 30 31 rfl (q_l32 _ rfl) dX11_day_30 ?_
      refine qr_istore 31 33 rfl (by decide) rfl rfl dX11_day_31 ?_
      exact qr_cut 33 (ls' := [some (qR 1), none, some (qI x2), some (qI x1), some (qI 0), some (qI 0), none, none, none]) (And.intro rfl (And.intro rfl (And.intro rfl (And.intro rfl (And.intro rfl trivial))))) h
    · have h := h.2 c8
      refine qr_bipush 11 13 rfl (q_l32 _ rfl) (by decide) dX11_day_11 ?_
      exact qe_i 13 rfl dX11_day_13 h
theorem bX11_day_33 {d : Nat} {P : Int → q_Mem → Prop} {M : q_Mem} (x2 x3 x4 x5 : Int) (h : ((x2 ≤ x5) → ((x4 ≤ 0) → P x4 M) ∧ ((¬ (x4 ≤ 0)) → q_kU yX0_keep mX0_keep d [qR 56, qR 53] M (fun M1 => P x4 M1))) ∧ ((¬ (x2 ≤ x5)) → q_kI yX11_drawn mX11_drawn d [qI x3] M (fun v3 M2 => ∀ x6_4 : Int, x6_4 = (q_rem (q_ushr v3 16) 6) → q_kI yX11_drawn mX11_drawn d [qI v3] M2 (fun v6 M5 => ∀ x7_7 : Int, x7_7 = (q_ushr v6 16) → ((x6_4 ≤ (3 : Int)) → q_v mX11_day d (qPI P) M5 84 [some (qR 1), none, some (qI x2), some (qI v6), some (qI x4), some (qI x5), some (qI x6_4), some (qI x7_7), some (qI 0)] []) ∧ ((¬ (x6_4 ≤ (3 : Int))) → q_kI yX11_drawn mX11_drawn d [qI v6] M5 (fun v9 M8 => ∀ x8_10 : Int, x8_10 = (q_ushr v9 16) → q_v mX11_day d (qPI P) M8 84 [some (qR 1), none, some (qI x2), some (qI v9), some (qI x4), some (qI x5), some (qI x6_4), some (qI x7_7), some (qI x8_10)] [])))))) : q_v mX11_day d (qPI P) M 33 [some (qR 1), none, some (qI x2), some (qI x3), some (qI x4), some (qI x5), none, none, none] [] := by
  refine qr_iload 33 35 rfl (x := x5) rfl dX11_day_33 ?_
  refine qr_iload_n 35 36 rfl (x := x2) rfl dX11_day_35 ?_
  refine qr_icmp_ge 36 39 110 rfl (by decide) dX11_day_36 (fun c36 => ?_) (fun c36 => ?_)
  · have h := h.1 c36
    refine qr_iload 110 112 rfl (x := x4) rfl dX11_day_110 ?_
    refine qr_if_le 112 115 126 rfl (by decide) dX11_day_112 (fun c112 => ?_) (fun c112 => ?_)
    · have h := h.1 c112
      refine qr_iload 126 128 rfl (x := x4) rfl dX11_day_126 ?_
      exact qe_i 128 rfl dX11_day_128 h
    · have h := h.2 c112
      refine qr_aload_n 115 116 rfl (x := 1) rfl dX11_day_115 ?_
      refine qr_getF 116 119 rfl ck11 9 (by decide) (b := 56) (by decide +kernel) rfl (by decide +kernel) (by decide +kernel) wm_386 rfl dX11_day_116 ?_
      refine qr_aload_n 119 120 rfl (x := 1) rfl dX11_day_119 ?_
      refine qr_getF 120 123 rfl ck11 8 (by decide) (b := 53) (by decide +kernel) rfl (by decide +kernel) (by decide +kernel) wm_385 rfl dX11_day_120 ?_
      refine qw_U 123 126 rfl (av := [qR 53]) ca_X0_keep wm_912 wm_913 wm_911 ck0 (by decide +kernel) rfl rfl (Nat.le_of_ble_eq_true rfl) dX11_day_123 h (fun M1 h => ?_)
      refine qr_iload 126 128 rfl (x := x4) rfl dX11_day_126 ?_
      exact qe_i 128 rfl dX11_day_128 h
  · have h := h.2 c36
    refine qr_iload_n 39 40 rfl (x := x3) rfl dX11_day_39 ?_
    refine qs_I 40 43 rfl (av := [qI x3]) ca_X11_drawn wm_1061 wm_1060 rfl rfl (Nat.le_of_ble_eq_true rfl) dX11_day_40 h (fun v3 M2 h => ?_)
    refine qr_istore_n 43 44 rfl (by decide) rfl rfl dX11_day_43 ?_
    refine qr_iload_n 44 45 rfl (x := v3) rfl dX11_day_44 ?_
    refine qr_bipush 45 47 rfl (q_l32 _ rfl) (by decide) dX11_day_45 ?_
    refine qr_iushr 47 48 rfl dX11_day_47 ?_
    refine qr_bipush 48 50 rfl (q_l32 _ rfl) (by decide) dX11_day_48 ?_
    refine qr_irem 50 51 rfl (by decide) dX11_day_50 ?_
    refine qn_i 51 (fun x6_4 e_x6_4 => ?_)
    have h := h x6_4 e_x6_4
    refine qr_istore 51 53 rfl (by decide) rfl rfl dX11_day_51 ?_
    refine qr_iload_n 53 54 rfl (x := v3) rfl dX11_day_53 ?_
    refine qs_I 54 57 rfl (av := [qI v3]) ca_X11_drawn wm_1061 wm_1060 rfl rfl (Nat.le_of_ble_eq_true rfl) dX11_day_54 h (fun v6 M5 h => ?_)
    refine qr_istore_n 57 58 rfl (by decide) rfl rfl dX11_day_57 ?_
    refine qr_iload_n 58 59 rfl (x := v6) rfl dX11_day_58 ?_
    refine qr_bipush 59 61 rfl (q_l32 _ rfl) (by decide) dX11_day_59 ?_
    refine qr_iushr 61 62 rfl dX11_day_61 ?_
    refine qn_i 62 (fun x7_7 e_x7_7 => ?_)
    have h := h x7_7 e_x7_7
    refine qr_istore 62 64 rfl (by decide) rfl rfl dX11_day_62 ?_
    refine qr_iconst 64 65 rfl (q_l32 _ rfl) dX11_day_64 ?_
    refine qr_istore 65 67 rfl (by decide) rfl rfl dX11_day_65 ?_
    refine qr_iload 67 69 rfl (x := x6_4) rfl dX11_day_67 ?_
    refine qr_iconst 69 70 rfl (q_l32 _ rfl) dX11_day_69 ?_
    refine qr_icmp_le 70 73 84 rfl (by decide) dX11_day_70 (fun c70 => ?_) (fun c70 => ?_)
    · have h := h.1 c70
      exact h
    · have h := h.2 c70
      refine qr_iload_n 73 74 rfl (x := v6) rfl dX11_day_73 ?_
      refine qs_I 74 77 rfl (av := [qI v6]) ca_X11_drawn wm_1061 wm_1060 rfl rfl (Nat.le_of_ble_eq_true rfl) dX11_day_74 h (fun v9 M8 h => ?_)
      refine qr_istore_n 77 78 rfl (by decide) rfl rfl dX11_day_77 ?_
      refine qr_iload_n 78 79 rfl (x := v9) rfl dX11_day_78 ?_
      refine qr_bipush 79 81 rfl (q_l32 _ rfl) (by decide) dX11_day_79 ?_
      refine qr_iushr 81 82 rfl dX11_day_81 ?_
      refine qn_i 82 (fun x8_10 e_x8_10 => ?_)
      have h := h x8_10 e_x8_10
      refine qr_istore 82 84 rfl (by decide) rfl rfl dX11_day_82 ?_
      exact h
theorem bX11_day_84 {d : Nat} {P : Int → q_Mem → Prop} {M : q_Mem} (x2 x3 x4 x5 x6 x7 x8 : Int) (h : q_kI yX11_deedOf mX11_deedOf d [qI x6, qI x7, qI x8] M (fun v2 M1 => q_kI yX11_doDeed mX11_doDeed d [qR 1, qL v2] M1 (fun v4 M3 => ((v4 = 0) → q_v mX11_day d (qPI P) M3 33 [some (qR 1), none, some (qI x2), some (qI x3), some (qI x4), some (qI (q_add x5 1)), none, none, none] []) ∧ ((¬ (v4 = 0)) → q_v mX11_day d (qPI P) M3 33 [some (qR 1), none, some (qI x2), some (qI x3), some (qI (q_add x4 1)), some (qI (q_add x5 1)), none, none, none] [])))) : q_v mX11_day d (qPI P) M 84 [some (qR 1), none, some (qI x2), some (qI x3), some (qI x4), some (qI x5), some (qI x6), some (qI x7), some (qI x8)] [] := by
  refine qr_aload_n 84 85 rfl (x := 1) rfl dX11_day_84 ?_
  refine qr_iload 85 87 rfl (x := x6) rfl dX11_day_85 ?_
  refine qr_iload 87 89 rfl (x := x7) rfl dX11_day_87 ?_
  refine qr_iload 89 91 rfl (x := x8) rfl dX11_day_89 ?_
  refine qs_I 91 94 rfl (av := [qI x6, qI x7, qI x8]) ca_X11_deedOf wm_1065 wm_1064 rfl rfl (Nat.le_of_ble_eq_true rfl) dX11_day_91 h (fun v2 M1 h => ?_)
  refine qr_i2l 94 95 rfl dX11_day_94 ?_
  refine qw_I 95 98 rfl (av := [qL v2]) ca_X11_doDeed wm_1033 wp_58 wm_1031 ck11 (by decide +kernel) rfl rfl (Nat.le_of_ble_eq_true rfl) dX11_day_95 h (fun v4 M3 h => ?_)
  refine qr_if_eq 98 101 104 rfl (by decide) dX11_day_98 (fun c98 => ?_) (fun c98 => ?_)
  · have h := h.1 c98
    refine qr_iinc 104 107 rfl (by decide) (x := x5) rfl rfl rfl dX11_day_104 ?_
    refine qr_goto 107 33 (by decide) dX11_day_107 ?_
    exact qr_cut 33 (ls' := [some (qR 1), none, some (qI x2), some (qI x3), some (qI x4), some (qI (q_add x5 1)), none, none, none]) (And.intro rfl (And.intro rfl (And.intro rfl (And.intro rfl (And.intro rfl trivial))))) h
  · have h := h.2 c98
    refine qr_iinc 101 104 rfl (by decide) (x := x4) rfl rfl rfl dX11_day_101 ?_
    refine qr_iinc 104 107 rfl (by decide) (x := x5) rfl rfl rfl dX11_day_104 ?_
    refine qr_goto 107 33 (by decide) dX11_day_107 ?_
    exact qr_cut 33 (ls' := [some (qR 1), none, some (qI x2), some (qI x3), some (qI (q_add x4 1)), some (qI (q_add x5 1)), none, none, none]) (And.intro rfl (And.intro rfl (And.intro rfl (And.intro rfl (And.intro rfl trivial))))) h
theorem dX11_drawn_0 : decode cX11_drawn 0 = .ok (.ldc_w 283, 3) := by decide +kernel
theorem dX11_drawn_3 : decode cX11_drawn 3 = .ok (.iload_n 0, 1) := by decide +kernel
theorem dX11_drawn_4 : decode cX11_drawn 4 = .ok (.imul, 1) := by decide +kernel
theorem dX11_drawn_5 : decode cX11_drawn 5 = .ok (.sipush 12345, 3) := by decide +kernel
theorem dX11_drawn_8 : decode cX11_drawn 8 = .ok (.iadd, 1) := by decide +kernel
theorem dX11_drawn_9 : decode cX11_drawn 9 = .ok (.ireturn, 1) := by decide +kernel
theorem bX11_drawn_0 {d : Nat} {P : Int → q_Mem → Prop} {M : q_Mem} (x0 : Int) (h : P (q_add (q_mul 1103515245 x0) 12345) M) : q_v mX11_drawn d (qPI P) M 0 [some (qI x0)] [] := by
  refine qr_ldc_w 0 3 rfl (v := 1103515245) (q_l32 _ rfl) wm_1063 dX11_drawn_0 ?_
  refine qr_iload_n 3 4 rfl (x := x0) rfl dX11_drawn_3 ?_
  refine qr_imul 4 5 rfl dX11_drawn_4 ?_
  refine qr_sipush 5 8 rfl (q_l32 _ rfl) (by decide) dX11_drawn_5 ?_
  refine qr_iadd 8 9 rfl dX11_drawn_8 ?_
  exact qe_i 9 rfl dX11_drawn_9 h
theorem dX11_deedOf_0 : decode cX11_deedOf 0 = .ok (.iload_n 0, 1) := by decide +kernel
theorem dX11_deedOf_1 : decode cX11_deedOf 1 = .ok (.iconst 2, 1) := by decide +kernel
theorem dX11_deedOf_2 : decode cX11_deedOf 2 = .ok (.if_icmp .ge 8, 3) := by decide +kernel
theorem dX11_deedOf_5 : decode cX11_deedOf 5 = .ok (.iload_n 1, 1) := by decide +kernel
theorem dX11_deedOf_6 : decode cX11_deedOf 6 = .ok (.bipush 10, 2) := by decide +kernel
theorem dX11_deedOf_8 : decode cX11_deedOf 8 = .ok (.irem, 1) := by decide +kernel
theorem dX11_deedOf_9 : decode cX11_deedOf 9 = .ok (.ireturn, 1) := by decide +kernel
theorem dX11_deedOf_10 : decode cX11_deedOf 10 = .ok (.iload_n 0, 1) := by decide +kernel
theorem dX11_deedOf_11 : decode cX11_deedOf 11 = .ok (.iconst 2, 1) := by decide +kernel
theorem dX11_deedOf_12 : decode cX11_deedOf 12 = .ok (.if_icmp .ne 11, 3) := by decide +kernel
theorem dX11_deedOf_15 : decode cX11_deedOf 15 = .ok (.bipush 10, 2) := by decide +kernel
theorem dX11_deedOf_17 : decode cX11_deedOf 17 = .ok (.iload_n 1, 1) := by decide +kernel
theorem dX11_deedOf_18 : decode cX11_deedOf 18 = .ok (.bipush 10, 2) := by decide +kernel
theorem dX11_deedOf_20 : decode cX11_deedOf 20 = .ok (.irem, 1) := by decide +kernel
theorem dX11_deedOf_21 : decode cX11_deedOf 21 = .ok (.iadd, 1) := by decide +kernel
theorem dX11_deedOf_22 : decode cX11_deedOf 22 = .ok (.ireturn, 1) := by decide +kernel
theorem dX11_deedOf_23 : decode cX11_deedOf 23 = .ok (.iload_n 0, 1) := by decide +kernel
theorem dX11_deedOf_24 : decode cX11_deedOf 24 = .ok (.iconst 3, 1) := by decide +kernel
theorem dX11_deedOf_25 : decode cX11_deedOf 25 = .ok (.if_icmp .ne 12, 3) := by decide +kernel
theorem dX11_deedOf_28 : decode cX11_deedOf 28 = .ok (.bipush 100, 2) := by decide +kernel
theorem dX11_deedOf_30 : decode cX11_deedOf 30 = .ok (.iload_n 1, 1) := by decide +kernel
theorem dX11_deedOf_31 : decode cX11_deedOf 31 = .ok (.sipush 160, 3) := by decide +kernel
theorem dX11_deedOf_34 : decode cX11_deedOf 34 = .ok (.irem, 1) := by decide +kernel
theorem dX11_deedOf_35 : decode cX11_deedOf 35 = .ok (.iadd, 1) := by decide +kernel
theorem dX11_deedOf_36 : decode cX11_deedOf 36 = .ok (.ireturn, 1) := by decide +kernel
theorem dX11_deedOf_37 : decode cX11_deedOf 37 = .ok (.sipush 1000, 3) := by decide +kernel
theorem dX11_deedOf_40 : decode cX11_deedOf 40 = .ok (.sipush 1000, 3) := by decide +kernel
theorem dX11_deedOf_43 : decode cX11_deedOf 43 = .ok (.iload_n 1, 1) := by decide +kernel
theorem dX11_deedOf_44 : decode cX11_deedOf 44 = .ok (.bipush 16, 2) := by decide +kernel
theorem dX11_deedOf_46 : decode cX11_deedOf 46 = .ok (.irem, 1) := by decide +kernel
theorem dX11_deedOf_47 : decode cX11_deedOf 47 = .ok (.imul, 1) := by decide +kernel
theorem dX11_deedOf_48 : decode cX11_deedOf 48 = .ok (.iadd, 1) := by decide +kernel
theorem dX11_deedOf_49 : decode cX11_deedOf 49 = .ok (.iload_n 2, 1) := by decide +kernel
theorem dX11_deedOf_50 : decode cX11_deedOf 50 = .ok (.sipush 199, 3) := by decide +kernel
theorem dX11_deedOf_53 : decode cX11_deedOf 53 = .ok (.irem, 1) := by decide +kernel
theorem dX11_deedOf_54 : decode cX11_deedOf 54 = .ok (.iadd, 1) := by decide +kernel
theorem dX11_deedOf_55 : decode cX11_deedOf 55 = .ok (.ireturn, 1) := by decide +kernel
theorem bX11_deedOf_0 {d : Nat} {P : Int → q_Mem → Prop} {M : q_Mem} (x0 x1 x2 : Int) (h : (((2 : Int) ≤ x0) → ((¬ x0 = (2 : Int)) → ((¬ x0 = (3 : Int)) → P (q_add (q_add 1000 (q_mul 1000 (q_rem x1 16))) (q_rem x2 199)) M) ∧ ((x0 = (3 : Int)) → P (q_add 100 (q_rem x1 160)) M)) ∧ ((x0 = (2 : Int)) → P (q_add 10 (q_rem x1 10)) M)) ∧ ((¬ ((2 : Int) ≤ x0)) → P (q_rem x1 10) M)) : q_v mX11_deedOf d (qPI P) M 0 [some (qI x0), some (qI x1), some (qI x2)] [] := by
  refine qr_iload_n 0 1 rfl (x := x0) rfl dX11_deedOf_0 ?_
  refine qr_iconst 1 2 rfl (q_l32 _ rfl) dX11_deedOf_1 ?_
  refine qr_icmp_ge 2 5 10 rfl (by decide) dX11_deedOf_2 (fun c2 => ?_) (fun c2 => ?_)
  · have h := h.1 c2
    refine qr_iload_n 10 11 rfl (x := x0) rfl dX11_deedOf_10 ?_
    refine qr_iconst 11 12 rfl (q_l32 _ rfl) dX11_deedOf_11 ?_
    refine qr_icmp_ne 12 15 23 rfl (by decide) dX11_deedOf_12 (fun c12 => ?_) (fun c12 => ?_)
    · have h := h.1 c12
      refine qr_iload_n 23 24 rfl (x := x0) rfl dX11_deedOf_23 ?_
      refine qr_iconst 24 25 rfl (q_l32 _ rfl) dX11_deedOf_24 ?_
      refine qr_icmp_ne 25 28 37 rfl (by decide) dX11_deedOf_25 (fun c25 => ?_) (fun c25 => ?_)
      · have h := h.1 c25
        refine qr_sipush 37 40 rfl (q_l32 _ rfl) (by decide) dX11_deedOf_37 ?_
        refine qr_sipush 40 43 rfl (q_l32 _ rfl) (by decide) dX11_deedOf_40 ?_
        refine qr_iload_n 43 44 rfl (x := x1) rfl dX11_deedOf_43 ?_
        refine qr_bipush 44 46 rfl (q_l32 _ rfl) (by decide) dX11_deedOf_44 ?_
        refine qr_irem 46 47 rfl (by decide) dX11_deedOf_46 ?_
        refine qr_imul 47 48 rfl dX11_deedOf_47 ?_
        refine qr_iadd 48 49 rfl dX11_deedOf_48 ?_
        refine qr_iload_n 49 50 rfl (x := x2) rfl dX11_deedOf_49 ?_
        refine qr_sipush 50 53 rfl (q_l32 _ rfl) (by decide) dX11_deedOf_50 ?_
        refine qr_irem 53 54 rfl (by decide) dX11_deedOf_53 ?_
        refine qr_iadd 54 55 rfl dX11_deedOf_54 ?_
        exact qe_i 55 rfl dX11_deedOf_55 h
      · have h := h.2 c25
        refine qr_bipush 28 30 rfl (q_l32 _ rfl) (by decide) dX11_deedOf_28 ?_
        refine qr_iload_n 30 31 rfl (x := x1) rfl dX11_deedOf_30 ?_
        refine qr_sipush 31 34 rfl (q_l32 _ rfl) (by decide) dX11_deedOf_31 ?_
        refine qr_irem 34 35 rfl (by decide) dX11_deedOf_34 ?_
        refine qr_iadd 35 36 rfl dX11_deedOf_35 ?_
        exact qe_i 36 rfl dX11_deedOf_36 h
    · have h := h.2 c12
      refine qr_bipush 15 17 rfl (q_l32 _ rfl) (by decide) dX11_deedOf_15 ?_
      refine qr_iload_n 17 18 rfl (x := x1) rfl dX11_deedOf_17 ?_
      refine qr_bipush 18 20 rfl (q_l32 _ rfl) (by decide) dX11_deedOf_18 ?_
      refine qr_irem 20 21 rfl (by decide) dX11_deedOf_20 ?_
      refine qr_iadd 21 22 rfl dX11_deedOf_21 ?_
      exact qe_i 22 rfl dX11_deedOf_22 h
  · have h := h.2 c2
    refine qr_iload_n 5 6 rfl (x := x1) rfl dX11_deedOf_5 ?_
    refine qr_bipush 6 8 rfl (q_l32 _ rfl) (by decide) dX11_deedOf_6 ?_
    refine qr_irem 8 9 rfl (by decide) dX11_deedOf_8 ?_
    exact qe_i 9 rfl dX11_deedOf_9 h
theorem dX11_doDeed_0 : decode cX11_doDeed 0 = .ok (.lload_n 1, 1) := by decide +kernel
theorem dX11_doDeed_1 : decode cX11_doDeed 1 = .ok (.lconst 0, 1) := by decide +kernel
theorem dX11_doDeed_2 : decode cX11_doDeed 2 = .ok (.lcmp, 1) := by decide +kernel
theorem dX11_doDeed_3 : decode cX11_doDeed 3 = .ok (.ifCond .lt 11, 3) := by decide +kernel
theorem dX11_doDeed_6 : decode cX11_doDeed 6 = .ok (.lload_n 1, 1) := by decide +kernel
theorem dX11_doDeed_7 : decode cX11_doDeed 7 = .ok (.ldc2_w 284, 3) := by decide +kernel
theorem dX11_doDeed_10 : decode cX11_doDeed 10 = .ok (.lcmp, 1) := by decide +kernel
theorem dX11_doDeed_11 : decode cX11_doDeed 11 = .ok (.ifCond .le 5, 3) := by decide +kernel
theorem dX11_doDeed_14 : decode cX11_doDeed 14 = .ok (.iconst 0, 1) := by decide +kernel
theorem dX11_doDeed_15 : decode cX11_doDeed 15 = .ok (.ireturn, 1) := by decide +kernel
theorem dX11_doDeed_16 : decode cX11_doDeed 16 = .ok (.lload_n 1, 1) := by decide +kernel
theorem dX11_doDeed_17 : decode cX11_doDeed 17 = .ok (.l2i, 1) := by decide +kernel
theorem dX11_doDeed_18 : decode cX11_doDeed 18 = .ok (.istore_n 3, 1) := by decide +kernel
theorem dX11_doDeed_19 : decode cX11_doDeed 19 = .ok (.iload_n 3, 1) := by decide +kernel
theorem dX11_doDeed_20 : decode cX11_doDeed 20 = .ok (.bipush 10, 2) := by decide +kernel
theorem dX11_doDeed_22 : decode cX11_doDeed 22 = .ok (.if_icmp .ge 9, 3) := by decide +kernel
theorem dX11_doDeed_25 : decode cX11_doDeed 25 = .ok (.aload_n 0, 1) := by decide +kernel
theorem dX11_doDeed_26 : decode cX11_doDeed 26 = .ok (.iload_n 3, 1) := by decide +kernel
theorem dX11_doDeed_27 : decode cX11_doDeed 27 = .ok (.invokevirtual 286, 3) := by decide +kernel
theorem dX11_doDeed_30 : decode cX11_doDeed 30 = .ok (.ireturn, 1) := by decide +kernel
theorem dX11_doDeed_31 : decode cX11_doDeed 31 = .ok (.iload_n 3, 1) := by decide +kernel
theorem dX11_doDeed_32 : decode cX11_doDeed 32 = .ok (.bipush 20, 2) := by decide +kernel
theorem dX11_doDeed_34 : decode cX11_doDeed 34 = .ok (.if_icmp .ge 13, 3) := by decide +kernel
theorem dX11_doDeed_37 : decode cX11_doDeed 37 = .ok (.aload_n 0, 1) := by decide +kernel
theorem dX11_doDeed_38 : decode cX11_doDeed 38 = .ok (.iload_n 3, 1) := by decide +kernel
theorem dX11_doDeed_39 : decode cX11_doDeed 39 = .ok (.bipush 10, 2) := by decide +kernel
theorem dX11_doDeed_41 : decode cX11_doDeed 41 = .ok (.isub, 1) := by decide +kernel
theorem dX11_doDeed_42 : decode cX11_doDeed 42 = .ok (.invokevirtual 211, 3) := by decide +kernel
theorem dX11_doDeed_45 : decode cX11_doDeed 45 = .ok (.iconst 1, 1) := by decide +kernel
theorem dX11_doDeed_46 : decode cX11_doDeed 46 = .ok (.ireturn, 1) := by decide +kernel
theorem dX11_doDeed_47 : decode cX11_doDeed 47 = .ok (.iload_n 3, 1) := by decide +kernel
theorem dX11_doDeed_48 : decode cX11_doDeed 48 = .ok (.bipush 100, 2) := by decide +kernel
theorem dX11_doDeed_50 : decode cX11_doDeed 50 = .ok (.if_icmp .lt 29, 3) := by decide +kernel
theorem dX11_doDeed_53 : decode cX11_doDeed 53 = .ok (.iload_n 3, 1) := by decide +kernel
theorem dX11_doDeed_54 : decode cX11_doDeed 54 = .ok (.sipush 260, 3) := by decide +kernel
theorem dX11_doDeed_57 : decode cX11_doDeed 57 = .ok (.if_icmp .ge 22, 3) := by decide +kernel
theorem dX11_doDeed_60 : decode cX11_doDeed 60 = .ok (.aload_n 0, 1) := by decide +kernel
theorem dX11_doDeed_61 : decode cX11_doDeed 61 = .ok (.iload_n 3, 1) := by decide +kernel
theorem dX11_doDeed_62 : decode cX11_doDeed 62 = .ok (.bipush 100, 2) := by decide +kernel
theorem dX11_doDeed_64 : decode cX11_doDeed 64 = .ok (.isub, 1) := by decide +kernel
theorem dX11_doDeed_65 : decode cX11_doDeed 65 = .ok (.bipush 16, 2) := by decide +kernel
theorem dX11_doDeed_67 : decode cX11_doDeed 67 = .ok (.idiv, 1) := by decide +kernel
theorem dX11_doDeed_68 : decode cX11_doDeed 68 = .ok (.iload_n 3, 1) := by decide +kernel
theorem dX11_doDeed_69 : decode cX11_doDeed 69 = .ok (.bipush 100, 2) := by decide +kernel
theorem dX11_doDeed_71 : decode cX11_doDeed 71 = .ok (.isub, 1) := by decide +kernel
theorem dX11_doDeed_72 : decode cX11_doDeed 72 = .ok (.bipush 16, 2) := by decide +kernel
theorem dX11_doDeed_74 : decode cX11_doDeed 74 = .ok (.irem, 1) := by decide +kernel
theorem dX11_doDeed_75 : decode cX11_doDeed 75 = .ok (.invokevirtual 289, 3) := by decide +kernel
theorem dX11_doDeed_78 : decode cX11_doDeed 78 = .ok (.ireturn, 1) := by decide +kernel
theorem dX11_doDeed_79 : decode cX11_doDeed 79 = .ok (.iload_n 3, 1) := by decide +kernel
theorem dX11_doDeed_80 : decode cX11_doDeed 80 = .ok (.sipush 1000, 3) := by decide +kernel
theorem dX11_doDeed_83 : decode cX11_doDeed 83 = .ok (.if_icmp .lt 35, 3) := by decide +kernel
theorem dX11_doDeed_86 : decode cX11_doDeed 86 = .ok (.aload_n 0, 1) := by decide +kernel
theorem dX11_doDeed_87 : decode cX11_doDeed 87 = .ok (.iload_n 3, 1) := by decide +kernel
theorem dX11_doDeed_88 : decode cX11_doDeed 88 = .ok (.sipush 1000, 3) := by decide +kernel
theorem dX11_doDeed_91 : decode cX11_doDeed 91 = .ok (.isub, 1) := by decide +kernel
theorem dX11_doDeed_92 : decode cX11_doDeed 92 = .ok (.sipush 1000, 3) := by decide +kernel
theorem dX11_doDeed_95 : decode cX11_doDeed 95 = .ok (.idiv, 1) := by decide +kernel
theorem dX11_doDeed_96 : decode cX11_doDeed 96 = .ok (.iload_n 3, 1) := by decide +kernel
theorem dX11_doDeed_97 : decode cX11_doDeed 97 = .ok (.sipush 1000, 3) := by decide +kernel
theorem dX11_doDeed_100 : decode cX11_doDeed 100 = .ok (.isub, 1) := by decide +kernel
theorem dX11_doDeed_101 : decode cX11_doDeed 101 = .ok (.sipush 1000, 3) := by decide +kernel
theorem dX11_doDeed_104 : decode cX11_doDeed 104 = .ok (.irem, 1) := by decide +kernel
theorem dX11_doDeed_105 : decode cX11_doDeed 105 = .ok (.bipush 99, 2) := by decide +kernel
theorem dX11_doDeed_107 : decode cX11_doDeed 107 = .ok (.isub, 1) := by decide +kernel
theorem dX11_doDeed_108 : decode cX11_doDeed 108 = .ok (.invokevirtual 292, 3) := by decide +kernel
theorem dX11_doDeed_111 : decode cX11_doDeed 111 = .ok (.ifCond .eq 7, 3) := by decide +kernel
theorem dX11_doDeed_114 : decode cX11_doDeed 114 = .ok (.iconst 1, 1) := by decide +kernel
theorem dX11_doDeed_115 : decode cX11_doDeed 115 = .ok (.goto 4, 3) := by decide +kernel
theorem dX11_doDeed_118 : decode cX11_doDeed 118 = .ok (.iconst 0, 1) := by decide +kernel
theorem dX11_doDeed_119 : decode cX11_doDeed 119 = .ok (.ireturn, 1) := by decide +kernel
theorem bX11_doDeed_0 {d : Nat} {P : Int → q_Mem → Prop} {M : q_Mem} (x1 : Int) (h : (((q_lcmp x1 0) < 0) → P 0 M) ∧ ((¬ ((q_lcmp x1 0) < 0)) → (((q_lcmp x1 17198) ≤ 0) → ∀ x3_1 : Int, x3_1 = (q_l2i x1) → (((10 : Int) ≤ x3_1) → (((20 : Int) ≤ x3_1) → ((x3_1 < (100 : Int)) → q_v mX11_doDeed d (qPI P) M 79 [some (qR 1), none, none, some (qI x3_1)] []) ∧ ((¬ (x3_1 < (100 : Int))) → (((260 : Int) ≤ x3_1) → q_v mX11_doDeed d (qPI P) M 79 [some (qR 1), none, none, some (qI x3_1)] []) ∧ ((¬ ((260 : Int) ≤ x3_1)) → q_kI yX11_doTurn mX11_doTurn d [qR 1, qI (q_div (q_sub x3_1 100) 16), qI (q_rem (q_sub x3_1 100) 16)] M (fun v3 M2 => (v3 = 0 ∨ v3 = 1) ∧ P v3 M2)))) ∧ ((¬ ((20 : Int) ≤ x3_1)) → q_kU yX11_setWarmth mX11_setWarmth d [qR 1, qI (q_sub x3_1 10)] M (fun M4 => P 1 M4))) ∧ ((¬ ((10 : Int) ≤ x3_1)) → q_kI yX11_doFlip mX11_doFlip d [qR 1, qI x3_1] M (fun v6 M5 => (v6 = 0 ∨ v6 = 1) ∧ P v6 M5))) ∧ ((¬ ((q_lcmp x1 17198) ≤ 0)) → P 0 M))) : q_v mX11_doDeed d (qPI P) M 0 [some (qR 1), some (qL x1), none, none] [] := by
  refine qr_lload_n 0 1 rfl (x := x1) rfl dX11_doDeed_0 ?_
  refine qr_lconst 1 2 rfl (w := 0) (q_l64 _ rfl) (by decide) dX11_doDeed_1 ?_
  refine qr_lcmp 2 3 rfl dX11_doDeed_2 ?_
  refine qr_if_lt 3 6 14 rfl (by decide) dX11_doDeed_3 (fun c3 => ?_) (fun c3 => ?_)
  · have h := h.1 c3
    refine qr_iconst 14 15 rfl (q_l32 _ rfl) dX11_doDeed_14 ?_
    exact qe_z 15 rfl (by decide) dX11_doDeed_15 h
  · have h := h.2 c3
    refine qr_lload_n 6 7 rfl (x := x1) rfl dX11_doDeed_6 ?_
    refine qr_ldc2 7 10 rfl (v := 17198) (q_l64 _ rfl) wm_1035 dX11_doDeed_7 ?_
    refine qr_lcmp 10 11 rfl dX11_doDeed_10 ?_
    refine qr_if_le 11 14 16 rfl (by decide) dX11_doDeed_11 (fun c11 => ?_) (fun c11 => ?_)
    · have h := h.1 c11
      refine qr_lload_n 16 17 rfl (x := x1) rfl dX11_doDeed_16 ?_
      refine qr_l2i 17 18 rfl dX11_doDeed_17 ?_
      refine qn_i 18 (fun x3_1 e_x3_1 => ?_)
      have h := h x3_1 e_x3_1
      refine qr_istore_n 18 19 rfl (by decide) rfl rfl dX11_doDeed_18 ?_
      refine qr_iload_n 19 20 rfl (x := x3_1) rfl dX11_doDeed_19 ?_
      refine qr_bipush 20 22 rfl (q_l32 _ rfl) (by decide) dX11_doDeed_20 ?_
      refine qr_icmp_ge 22 25 31 rfl (by decide) dX11_doDeed_22 (fun c22 => ?_) (fun c22 => ?_)
      · have h := h.1 c22
        refine qr_iload_n 31 32 rfl (x := x3_1) rfl dX11_doDeed_31 ?_
        refine qr_bipush 32 34 rfl (q_l32 _ rfl) (by decide) dX11_doDeed_32 ?_
        refine qr_icmp_ge 34 37 47 rfl (by decide) dX11_doDeed_34 (fun c34 => ?_) (fun c34 => ?_)
        · have h := h.1 c34
          refine qr_iload_n 47 48 rfl (x := x3_1) rfl dX11_doDeed_47 ?_
          refine qr_bipush 48 50 rfl (q_l32 _ rfl) (by decide) dX11_doDeed_48 ?_
          refine qr_icmp_lt 50 53 79 rfl (by decide) dX11_doDeed_50 (fun c50 => ?_) (fun c50 => ?_)
          · have h := h.1 c50
            exact qr_cut 79 (ls' := [some (qR 1), none, none, some (qI x3_1)]) (And.intro rfl (And.intro rfl trivial)) h
          · have h := h.2 c50
            refine qr_iload_n 53 54 rfl (x := x3_1) rfl dX11_doDeed_53 ?_
            refine qr_sipush 54 57 rfl (q_l32 _ rfl) (by decide) dX11_doDeed_54 ?_
            refine qr_icmp_ge 57 60 79 rfl (by decide) dX11_doDeed_57 (fun c57 => ?_) (fun c57 => ?_)
            · have h := h.1 c57
              exact qr_cut 79 (ls' := [some (qR 1), none, none, some (qI x3_1)]) (And.intro rfl (And.intro rfl trivial)) h
            · have h := h.2 c57
              refine qr_aload_n 60 61 rfl (x := 1) rfl dX11_doDeed_60 ?_
              refine qr_iload_n 61 62 rfl (x := x3_1) rfl dX11_doDeed_61 ?_
              refine qr_bipush 62 64 rfl (q_l32 _ rfl) (by decide) dX11_doDeed_62 ?_
              refine qr_isub 64 65 rfl dX11_doDeed_64 ?_
              refine qr_bipush 65 67 rfl (q_l32 _ rfl) (by decide) dX11_doDeed_65 ?_
              refine qr_idiv 67 68 rfl (by decide) dX11_doDeed_67 ?_
              refine qr_iload_n 68 69 rfl (x := x3_1) rfl dX11_doDeed_68 ?_
              refine qr_bipush 69 71 rfl (q_l32 _ rfl) (by decide) dX11_doDeed_69 ?_
              refine qr_isub 71 72 rfl dX11_doDeed_71 ?_
              refine qr_bipush 72 74 rfl (q_l32 _ rfl) (by decide) dX11_doDeed_72 ?_
              refine qr_irem 74 75 rfl (by decide) dX11_doDeed_74 ?_
              refine qw_I 75 78 rfl (av := [qI (q_div (q_sub x3_1 100) 16), qI (q_rem (q_sub x3_1 100) 16)]) ca_X11_doTurn wm_1042 wp_60 wm_1040 ck11 (by decide +kernel) rfl rfl (Nat.le_of_ble_eq_true rfl) dX11_doDeed_75 h (fun v3 M2 h => ?_)
              exact qe_z 78 rfl h.1 dX11_doDeed_78 h.2
        · have h := h.2 c34
          refine qr_aload_n 37 38 rfl (x := 1) rfl dX11_doDeed_37 ?_
          refine qr_iload_n 38 39 rfl (x := x3_1) rfl dX11_doDeed_38 ?_
          refine qr_bipush 39 41 rfl (q_l32 _ rfl) (by decide) dX11_doDeed_39 ?_
          refine qr_isub 41 42 rfl dX11_doDeed_41 ?_
          refine qw_U 42 45 rfl (av := [qI (q_sub x3_1 10)]) ca_X11_setWarmth wm_970 wp_52 wm_968 ck11 (by decide +kernel) rfl rfl (Nat.le_of_ble_eq_true rfl) dX11_doDeed_42 h (fun M4 h => ?_)
          refine qr_iconst 45 46 rfl (q_l32 _ rfl) dX11_doDeed_45 ?_
          exact qe_z 46 rfl (by decide) dX11_doDeed_46 h
      · have h := h.2 c22
        refine qr_aload_n 25 26 rfl (x := 1) rfl dX11_doDeed_25 ?_
        refine qr_iload_n 26 27 rfl (x := x3_1) rfl dX11_doDeed_26 ?_
        refine qw_I 27 30 rfl (av := [qI x3_1]) ca_X11_doFlip wm_1038 wp_59 wm_1036 ck11 (by decide +kernel) rfl rfl (Nat.le_of_ble_eq_true rfl) dX11_doDeed_27 h (fun v6 M5 h => ?_)
        exact qe_z 30 rfl h.1 dX11_doDeed_30 h.2
    · have h := h.2 c11
      refine qr_iconst 14 15 rfl (q_l32 _ rfl) dX11_doDeed_14 ?_
      exact qe_z 15 rfl (by decide) dX11_doDeed_15 h
theorem bX11_doDeed_79 {d : Nat} {P : Int → q_Mem → Prop} {M : q_Mem} (x3 : Int) (h : ((x3 < (1000 : Int)) → P 0 M) ∧ ((¬ (x3 < (1000 : Int))) → q_kI yX11_doWeigh mX11_doWeigh d [qR 1, qI (q_div (q_sub x3 1000) 1000), qI (q_sub (q_rem (q_sub x3 1000) 1000) 99)] M (fun v2 M1 => ((v2 = 0) → P 0 M1) ∧ ((¬ (v2 = 0)) → P 1 M1)))) : q_v mX11_doDeed d (qPI P) M 79 [some (qR 1), none, none, some (qI x3)] [] := by
  refine qr_iload_n 79 80 rfl (x := x3) rfl dX11_doDeed_79 ?_
  refine qr_sipush 80 83 rfl (q_l32 _ rfl) (by decide) dX11_doDeed_80 ?_
  refine qr_icmp_lt 83 86 118 rfl (by decide) dX11_doDeed_83 (fun c83 => ?_) (fun c83 => ?_)
  · have h := h.1 c83
    refine qr_iconst 118 119 rfl (q_l32 _ rfl) dX11_doDeed_118 ?_
    exact qe_z 119 rfl (by decide) dX11_doDeed_119 h
  · have h := h.2 c83
    refine qr_aload_n 86 87 rfl (x := 1) rfl dX11_doDeed_86 ?_
    refine qr_iload_n 87 88 rfl (x := x3) rfl dX11_doDeed_87 ?_
    refine qr_sipush 88 91 rfl (q_l32 _ rfl) (by decide) dX11_doDeed_88 ?_
    refine qr_isub 91 92 rfl dX11_doDeed_91 ?_
    refine qr_sipush 92 95 rfl (q_l32 _ rfl) (by decide) dX11_doDeed_92 ?_
    refine qr_idiv 95 96 rfl (by decide) dX11_doDeed_95 ?_
    refine qr_iload_n 96 97 rfl (x := x3) rfl dX11_doDeed_96 ?_
    refine qr_sipush 97 100 rfl (q_l32 _ rfl) (by decide) dX11_doDeed_97 ?_
    refine qr_isub 100 101 rfl dX11_doDeed_100 ?_
    refine qr_sipush 101 104 rfl (q_l32 _ rfl) (by decide) dX11_doDeed_101 ?_
    refine qr_irem 104 105 rfl (by decide) dX11_doDeed_104 ?_
    refine qr_bipush 105 107 rfl (q_l32 _ rfl) (by decide) dX11_doDeed_105 ?_
    refine qr_isub 107 108 rfl dX11_doDeed_107 ?_
    refine qw_I 108 111 rfl (av := [qI (q_div (q_sub x3 1000) 1000), qI (q_sub (q_rem (q_sub x3 1000) 1000) 99)]) ca_X11_doWeigh wm_1046 wp_61 wm_1044 ck11 (by decide +kernel) rfl rfl (Nat.le_of_ble_eq_true rfl) dX11_doDeed_108 h (fun v2 M1 h => ?_)
    refine qr_if_eq 111 114 118 rfl (by decide) dX11_doDeed_111 (fun c111 => ?_) (fun c111 => ?_)
    · have h := h.1 c111
      refine qr_iconst 118 119 rfl (q_l32 _ rfl) dX11_doDeed_118 ?_
      exact qe_z 119 rfl (by decide) dX11_doDeed_119 h
    · have h := h.2 c111
      refine qr_iconst 114 115 rfl (q_l32 _ rfl) dX11_doDeed_114 ?_
      refine qr_goto 115 119 (by decide) dX11_doDeed_115 ?_
      exact qe_z 119 rfl (by decide) dX11_doDeed_119 h
theorem dX11_doFlip_0 : decode cX11_doFlip 0 = .ok (.aload_n 0, 1) := by decide +kernel
theorem dX11_doFlip_1 : decode cX11_doFlip 1 = .ok (.iload_n 1, 1) := by decide +kernel
theorem dX11_doFlip_2 : decode cX11_doFlip 2 = .ok (.invokevirtual 156, 3) := by decide +kernel
theorem dX11_doFlip_5 : decode cX11_doFlip 5 = .ok (.ifCond .ne 5, 3) := by decide +kernel
theorem dX11_doFlip_8 : decode cX11_doFlip 8 = .ok (.iconst 0, 1) := by decide +kernel
theorem dX11_doFlip_9 : decode cX11_doFlip 9 = .ok (.ireturn, 1) := by decide +kernel
theorem dX11_doFlip_10 : decode cX11_doFlip 10 = .ok (.aload_n 0, 1) := by decide +kernel
theorem dX11_doFlip_11 : decode cX11_doFlip 11 = .ok (.getfield 37, 3) := by decide +kernel
theorem dX11_doFlip_14 : decode cX11_doFlip 14 = .ok (.dup, 1) := by decide +kernel
theorem dX11_doFlip_15 : decode cX11_doFlip 15 = .ok (.getfield 189, 3) := by decide +kernel
theorem dX11_doFlip_18 : decode cX11_doFlip 18 = .ok (.iconst 1, 1) := by decide +kernel
theorem dX11_doFlip_19 : decode cX11_doFlip 19 = .ok (.iload_n 1, 1) := by decide +kernel
theorem dX11_doFlip_20 : decode cX11_doFlip 20 = .ok (.ishl, 1) := by decide +kernel
theorem dX11_doFlip_21 : decode cX11_doFlip 21 = .ok (.ixor, 1) := by decide +kernel
theorem dX11_doFlip_22 : decode cX11_doFlip 22 = .ok (.putfield 189, 3) := by decide +kernel
theorem dX11_doFlip_25 : decode cX11_doFlip 25 = .ok (.iconst 1, 1) := by decide +kernel
theorem dX11_doFlip_26 : decode cX11_doFlip 26 = .ok (.ireturn, 1) := by decide +kernel
theorem bX11_doFlip_0 {d : Nat} {P : Int → q_Mem → Prop} {M : q_Mem} (x1 : Int) (h : q_kI yX11_hasNode mX11_hasNode d [qR 1, qI x1] M (fun v2 M1 => ((¬ v2 = 0) → (∀ M3 : q_Mem, M3 = q_up M1 50 1 (q_xor (M1 50 1) (q_shl 1 x1)) → P 1 M3)) ∧ ((v2 = 0) → P 0 M1))) : q_v mX11_doFlip d (qPI P) M 0 [some (qR 1), some (qI x1)] [] := by
  refine qr_aload_n 0 1 rfl (x := 1) rfl dX11_doFlip_0 ?_
  refine qr_iload_n 1 2 rfl (x := x1) rfl dX11_doFlip_1 ?_
  refine qw_I 2 5 rfl (av := [qI x1]) ca_X11_hasNode wm_896 wp_44 wm_894 ck11 (by decide +kernel) rfl rfl (Nat.le_of_ble_eq_true rfl) dX11_doFlip_2 h (fun v2 M1 h => ?_)
  refine qr_if_ne 5 8 10 rfl (by decide) dX11_doFlip_5 (fun c5 => ?_) (fun c5 => ?_)
  · have h := h.1 c5
    refine qr_aload_n 10 11 rfl (x := 1) rfl dX11_doFlip_10 ?_
    refine qr_getF 11 14 rfl ck11 7 (by decide) (b := 50) (by decide +kernel) rfl (by decide +kernel) (by decide +kernel) wm_384 rfl dX11_doFlip_11 ?_
    refine qr_dup 14 15 rfl rfl dX11_doFlip_14 ?_
    refine qg_i 15 18 rfl ck7 1 (kk := 1) (by decide) (by decide +kernel) (by decide +kernel) rfl wm_170 rfl dX11_doFlip_15 ?_
    refine qr_iconst 18 19 rfl (q_l32 _ rfl) dX11_doFlip_18 ?_
    refine qr_iload_n 19 20 rfl (x := x1) rfl dX11_doFlip_19 ?_
    refine qr_ishl 20 21 rfl dX11_doFlip_20 ?_
    refine qr_ixor 21 22 rfl dX11_doFlip_21 ?_
    refine qp_i 22 25 rfl ck7 1 (kk := 1) (by decide) (by decide +kernel) (by decide) rfl rfl wm_170 rfl dX11_doFlip_22 (fun M3 e_M3 => ?_)
    have h := h M3 e_M3
    refine qr_iconst 25 26 rfl (q_l32 _ rfl) dX11_doFlip_25 ?_
    exact qe_z 26 rfl (by decide) dX11_doFlip_26 h
  · have h := h.2 c5
    refine qr_iconst 8 9 rfl (q_l32 _ rfl) dX11_doFlip_8 ?_
    exact qe_z 9 rfl (by decide) dX11_doFlip_9 h
theorem dX11_doTurn_0 : decode cX11_doTurn 0 = .ok (.aload_n 0, 1) := by decide +kernel
theorem dX11_doTurn_1 : decode cX11_doTurn 1 = .ok (.iload_n 1, 1) := by decide +kernel
theorem dX11_doTurn_2 : decode cX11_doTurn 2 = .ok (.iload_n 2, 1) := by decide +kernel
theorem dX11_doTurn_3 : decode cX11_doTurn 3 = .ok (.invokevirtual 196, 3) := by decide +kernel
theorem dX11_doTurn_6 : decode cX11_doTurn 6 = .ok (.ifCond .ne 5, 3) := by decide +kernel
theorem dX11_doTurn_9 : decode cX11_doTurn 9 = .ok (.iconst 0, 1) := by decide +kernel
theorem dX11_doTurn_10 : decode cX11_doTurn 10 = .ok (.ireturn, 1) := by decide +kernel
theorem dX11_doTurn_11 : decode cX11_doTurn 11 = .ok (.aload_n 0, 1) := by decide +kernel
theorem dX11_doTurn_12 : decode cX11_doTurn 12 = .ok (.iload_n 1, 1) := by decide +kernel
theorem dX11_doTurn_13 : decode cX11_doTurn 13 = .ok (.iload_n 2, 1) := by decide +kernel
theorem dX11_doTurn_14 : decode cX11_doTurn 14 = .ok (.invokevirtual 199, 3) := by decide +kernel
theorem dX11_doTurn_17 : decode cX11_doTurn 17 = .ok (.iconst 1, 1) := by decide +kernel
theorem dX11_doTurn_18 : decode cX11_doTurn 18 = .ok (.ireturn, 1) := by decide +kernel
theorem bX11_doTurn_0 {d : Nat} {P : Int → q_Mem → Prop} {M : q_Mem} (x1 x2 : Int) (h : q_kI yX11_canTurn mX11_canTurn d [qR 1, qI x1, qI x2] M (fun v2 M1 => ((¬ v2 = 0) → q_kU yX11_swapPlaces mX11_swapPlaces d [qR 1, qI x1, qI x2] M1 (fun M3 => P 1 M3)) ∧ ((v2 = 0) → P 0 M1))) : q_v mX11_doTurn d (qPI P) M 0 [some (qR 1), some (qI x1), some (qI x2)] [] := by
  refine qr_aload_n 0 1 rfl (x := 1) rfl dX11_doTurn_0 ?_
  refine qr_iload_n 1 2 rfl (x := x1) rfl dX11_doTurn_1 ?_
  refine qr_iload_n 2 3 rfl (x := x2) rfl dX11_doTurn_2 ?_
  refine qw_I 3 6 rfl (av := [qI x1, qI x2]) ca_X11_canTurn wm_951 wp_50 wm_949 ck11 (by decide +kernel) rfl rfl (Nat.le_of_ble_eq_true rfl) dX11_doTurn_3 h (fun v2 M1 h => ?_)
  refine qr_if_ne 6 9 11 rfl (by decide) dX11_doTurn_6 (fun c6 => ?_) (fun c6 => ?_)
  · have h := h.1 c6
    refine qr_aload_n 11 12 rfl (x := 1) rfl dX11_doTurn_11 ?_
    refine qr_iload_n 12 13 rfl (x := x1) rfl dX11_doTurn_12 ?_
    refine qr_iload_n 13 14 rfl (x := x2) rfl dX11_doTurn_13 ?_
    refine qw_U 14 17 rfl (av := [qI x1, qI x2]) ca_X11_swapPlaces wm_955 wp_51 wm_953 ck11 (by decide +kernel) rfl rfl (Nat.le_of_ble_eq_true rfl) dX11_doTurn_14 h (fun M3 h => ?_)
    refine qr_iconst 17 18 rfl (q_l32 _ rfl) dX11_doTurn_17 ?_
    exact qe_z 18 rfl (by decide) dX11_doTurn_18 h
  · have h := h.2 c6
    refine qr_iconst 9 10 rfl (q_l32 _ rfl) dX11_doTurn_9 ?_
    exact qe_z 10 rfl (by decide) dX11_doTurn_10 h
theorem dX11_doWeigh_0 : decode cX11_doWeigh 0 = .ok (.aload_n 0, 1) := by decide +kernel
theorem dX11_doWeigh_1 : decode cX11_doWeigh 1 = .ok (.iload_n 1, 1) := by decide +kernel
theorem dX11_doWeigh_2 : decode cX11_doWeigh 2 = .ok (.iload_n 2, 1) := by decide +kernel
theorem dX11_doWeigh_3 : decode cX11_doWeigh 3 = .ok (.invokevirtual 174, 3) := by decide +kernel
theorem dX11_doWeigh_6 : decode cX11_doWeigh 6 = .ok (.ifCond .ne 5, 3) := by decide +kernel
theorem dX11_doWeigh_9 : decode cX11_doWeigh 9 = .ok (.iconst 0, 1) := by decide +kernel
theorem dX11_doWeigh_10 : decode cX11_doWeigh 10 = .ok (.ireturn, 1) := by decide +kernel
theorem dX11_doWeigh_11 : decode cX11_doWeigh 11 = .ok (.aload_n 0, 1) := by decide +kernel
theorem dX11_doWeigh_12 : decode cX11_doWeigh 12 = .ok (.iload_n 1, 1) := by decide +kernel
theorem dX11_doWeigh_13 : decode cX11_doWeigh 13 = .ok (.iload_n 2, 1) := by decide +kernel
theorem dX11_doWeigh_14 : decode cX11_doWeigh 14 = .ok (.invokevirtual 185, 3) := by decide +kernel
theorem dX11_doWeigh_17 : decode cX11_doWeigh 17 = .ok (.iconst 1, 1) := by decide +kernel
theorem dX11_doWeigh_18 : decode cX11_doWeigh 18 = .ok (.ireturn, 1) := by decide +kernel
theorem bX11_doWeigh_0 {d : Nat} {P : Int → q_Mem → Prop} {M : q_Mem} (x1 x2 : Int) (h : q_kI yX11_canWeigh mX11_canWeigh d [qR 1, qI x1, qI x2] M (fun v2 M1 => ((¬ v2 = 0) → q_kU yX11_setGain mX11_setGain d [qR 1, qI x1, qI x2] M1 (fun M3 => P 1 M3)) ∧ ((v2 = 0) → P 0 M1))) : q_v mX11_doWeigh d (qPI P) M 0 [some (qR 1), some (qI x1), some (qI x2)] [] := by
  refine qr_aload_n 0 1 rfl (x := 1) rfl dX11_doWeigh_0 ?_
  refine qr_iload_n 1 2 rfl (x := x1) rfl dX11_doWeigh_1 ?_
  refine qr_iload_n 2 3 rfl (x := x2) rfl dX11_doWeigh_2 ?_
  refine qw_I 3 6 rfl (av := [qI x1, qI x2]) ca_X11_canWeigh wm_908 wp_45 wm_906 ck11 (by decide +kernel) rfl rfl (Nat.le_of_ble_eq_true rfl) dX11_doWeigh_3 h (fun v2 M1 h => ?_)
  refine qr_if_ne 6 9 11 rfl (by decide) dX11_doWeigh_6 (fun c6 => ?_) (fun c6 => ?_)
  · have h := h.1 c6
    refine qr_aload_n 11 12 rfl (x := 1) rfl dX11_doWeigh_11 ?_
    refine qr_iload_n 12 13 rfl (x := x1) rfl dX11_doWeigh_12 ?_
    refine qr_iload_n 13 14 rfl (x := x2) rfl dX11_doWeigh_13 ?_
    refine qw_U 14 17 rfl (av := [qI x1, qI x2]) ca_X11_setGain wm_923 wp_46 wm_921 ck11 (by decide +kernel) rfl rfl (Nat.le_of_ble_eq_true rfl) dX11_doWeigh_14 h (fun M3 h => ?_)
    refine qr_iconst 17 18 rfl (q_l32 _ rfl) dX11_doWeigh_17 ?_
    exact qe_z 18 rfl (by decide) dX11_doWeigh_18 h
  · have h := h.2 c6
    refine qr_iconst 9 10 rfl (q_l32 _ rfl) dX11_doWeigh_9 ?_
    exact qe_z 10 rfl (by decide) dX11_doWeigh_10 h
theorem dX11_canWeigh_0 : decode cX11_canWeigh 0 = .ok (.aload_n 0, 1) := by decide +kernel
theorem dX11_canWeigh_1 : decode cX11_canWeigh 1 = .ok (.iload_n 1, 1) := by decide +kernel
theorem dX11_canWeigh_2 : decode cX11_canWeigh 2 = .ok (.invokevirtual 136, 3) := by decide +kernel
theorem dX11_canWeigh_5 : decode cX11_canWeigh 5 = .ok (.ifCond .eq 19, 3) := by decide +kernel
theorem dX11_canWeigh_8 : decode cX11_canWeigh 8 = .ok (.iload_n 2, 1) := by decide +kernel
theorem dX11_canWeigh_9 : decode cX11_canWeigh 9 = .ok (.bipush (-99), 2) := by decide +kernel
theorem dX11_canWeigh_11 : decode cX11_canWeigh 11 = .ok (.if_icmp .lt 13, 3) := by decide +kernel
theorem dX11_canWeigh_14 : decode cX11_canWeigh 14 = .ok (.iload_n 2, 1) := by decide +kernel
theorem dX11_canWeigh_15 : decode cX11_canWeigh 15 = .ok (.bipush 99, 2) := by decide +kernel
theorem dX11_canWeigh_17 : decode cX11_canWeigh 17 = .ok (.if_icmp .gt 7, 3) := by decide +kernel
theorem dX11_canWeigh_20 : decode cX11_canWeigh 20 = .ok (.iconst 1, 1) := by decide +kernel
theorem dX11_canWeigh_21 : decode cX11_canWeigh 21 = .ok (.goto 4, 3) := by decide +kernel
theorem dX11_canWeigh_24 : decode cX11_canWeigh 24 = .ok (.iconst 0, 1) := by decide +kernel
theorem dX11_canWeigh_25 : decode cX11_canWeigh 25 = .ok (.ireturn, 1) := by decide +kernel
theorem bX11_canWeigh_0 {d : Nat} {P : Int → q_Mem → Prop} {M : q_Mem} (x1 x2 : Int) (h : q_kI yX11_hasLink mX11_hasLink d [qR 1, qI x1] M (fun v2 M1 => ((v2 = 0) → P 0 M1) ∧ ((¬ (v2 = 0)) → ((x2 < ((-99) : Int)) → P 0 M1) ∧ ((¬ (x2 < ((-99) : Int))) → (((99 : Int) < x2) → P 0 M1) ∧ ((¬ ((99 : Int) < x2)) → P 1 M1))))) : q_v mX11_canWeigh d (qPI P) M 0 [some (qR 1), some (qI x1), some (qI x2)] [] := by
  refine qr_aload_n 0 1 rfl (x := 1) rfl dX11_canWeigh_0 ?_
  refine qr_iload_n 1 2 rfl (x := x1) rfl dX11_canWeigh_1 ?_
  refine qw_I 2 5 rfl (av := [qI x1]) ca_X11_hasLink wm_751 wp_28 wm_749 ck11 (by decide +kernel) rfl rfl (Nat.le_of_ble_eq_true rfl) dX11_canWeigh_2 h (fun v2 M1 h => ?_)
  refine qr_if_eq 5 8 24 rfl (by decide) dX11_canWeigh_5 (fun c5 => ?_) (fun c5 => ?_)
  · have h := h.1 c5
    refine qr_iconst 24 25 rfl (q_l32 _ rfl) dX11_canWeigh_24 ?_
    exact qe_z 25 rfl (by decide) dX11_canWeigh_25 h
  · have h := h.2 c5
    refine qr_iload_n 8 9 rfl (x := x2) rfl dX11_canWeigh_8 ?_
    refine qr_bipush 9 11 rfl (q_l32 _ rfl) (by decide) dX11_canWeigh_9 ?_
    refine qr_icmp_lt 11 14 24 rfl (by decide) dX11_canWeigh_11 (fun c11 => ?_) (fun c11 => ?_)
    · have h := h.1 c11
      refine qr_iconst 24 25 rfl (q_l32 _ rfl) dX11_canWeigh_24 ?_
      exact qe_z 25 rfl (by decide) dX11_canWeigh_25 h
    · have h := h.2 c11
      refine qr_iload_n 14 15 rfl (x := x2) rfl dX11_canWeigh_14 ?_
      refine qr_bipush 15 17 rfl (q_l32 _ rfl) (by decide) dX11_canWeigh_15 ?_
      refine qr_icmp_gt 17 20 24 rfl (by decide) dX11_canWeigh_17 (fun c17 => ?_) (fun c17 => ?_)
      · have h := h.1 c17
        refine qr_iconst 24 25 rfl (q_l32 _ rfl) dX11_canWeigh_24 ?_
        exact qe_z 25 rfl (by decide) dX11_canWeigh_25 h
      · have h := h.2 c17
        refine qr_iconst 20 21 rfl (q_l32 _ rfl) dX11_canWeigh_20 ?_
        refine qr_goto 21 25 (by decide) dX11_canWeigh_21 ?_
        exact qe_z 25 rfl (by decide) dX11_canWeigh_25 h
theorem dX11_canTurn_0 : decode cX11_canTurn 0 = .ok (.aload_n 0, 1) := by decide +kernel
theorem dX11_canTurn_1 : decode cX11_canTurn 1 = .ok (.iload_n 1, 1) := by decide +kernel
theorem dX11_canTurn_2 : decode cX11_canTurn 2 = .ok (.invokevirtual 156, 3) := by decide +kernel
theorem dX11_canTurn_5 : decode cX11_canTurn 5 = .ok (.ifCond .eq 26, 3) := by decide +kernel
theorem dX11_canTurn_8 : decode cX11_canTurn 8 = .ok (.iload_n 2, 1) := by decide +kernel
theorem dX11_canTurn_9 : decode cX11_canTurn 9 = .ok (.ifCond .lt 22, 3) := by decide +kernel
theorem dX11_canTurn_12 : decode cX11_canTurn 12 = .ok (.iload_n 2, 1) := by decide +kernel
theorem dX11_canTurn_13 : decode cX11_canTurn 13 = .ok (.aload_n 0, 1) := by decide +kernel
theorem dX11_canTurn_14 : decode cX11_canTurn 14 = .ok (.getfield 20, 3) := by decide +kernel
theorem dX11_canTurn_17 : decode cX11_canTurn 17 = .ok (.getfield 159, 3) := by decide +kernel
theorem dX11_canTurn_20 : decode cX11_canTurn 20 = .ok (.iload_n 1, 1) := by decide +kernel
theorem dX11_canTurn_21 : decode cX11_canTurn 21 = .ok (.iaload, 1) := by decide +kernel
theorem dX11_canTurn_22 : decode cX11_canTurn 22 = .ok (.iconst 1, 1) := by decide +kernel
theorem dX11_canTurn_23 : decode cX11_canTurn 23 = .ok (.isub, 1) := by decide +kernel
theorem dX11_canTurn_24 : decode cX11_canTurn 24 = .ok (.if_icmp .ge 7, 3) := by decide +kernel
theorem dX11_canTurn_27 : decode cX11_canTurn 27 = .ok (.iconst 1, 1) := by decide +kernel
theorem dX11_canTurn_28 : decode cX11_canTurn 28 = .ok (.goto 4, 3) := by decide +kernel
theorem dX11_canTurn_31 : decode cX11_canTurn 31 = .ok (.iconst 0, 1) := by decide +kernel
theorem dX11_canTurn_32 : decode cX11_canTurn 32 = .ok (.ireturn, 1) := by decide +kernel
theorem bX11_canTurn_0 {d : Nat} {P : Int → q_Mem → Prop} {M : q_Mem} (x1 x2 : Int) (h : q_kI yX11_hasNode mX11_hasNode d [qR 1, qI x1] M (fun v2 M1 => ((v2 = 0) → P 0 M1) ∧ ((¬ (v2 = 0)) → ((x2 < 0) → P 0 M1) ∧ ((¬ (x2 < 0)) → q_kd (M1 1 4) = 4 ∧ ((0 ≤ x1 ∧ x1 < (10 : Int)) ∧ ((((q_sub (M1 (q_lay (M1 1 4) 7) x1) 1) ≤ x2) → P 0 M1) ∧ ((¬ ((q_sub (M1 (q_lay (M1 1 4) 7) x1) 1) ≤ x2)) → P 1 M1))))))) : q_v mX11_canTurn d (qPI P) M 0 [some (qR 1), some (qI x1), some (qI x2)] [] := by
  refine qr_aload_n 0 1 rfl (x := 1) rfl dX11_canTurn_0 ?_
  refine qr_iload_n 1 2 rfl (x := x1) rfl dX11_canTurn_1 ?_
  refine qw_I 2 5 rfl (av := [qI x1]) ca_X11_hasNode wm_896 wp_44 wm_894 ck11 (by decide +kernel) rfl rfl (Nat.le_of_ble_eq_true rfl) dX11_canTurn_2 h (fun v2 M1 h => ?_)
  refine qr_if_eq 5 8 31 rfl (by decide) dX11_canTurn_5 (fun c5 => ?_) (fun c5 => ?_)
  · have h := h.1 c5
    refine qr_iconst 31 32 rfl (q_l32 _ rfl) dX11_canTurn_31 ?_
    exact qe_z 32 rfl (by decide) dX11_canTurn_32 h
  · have h := h.2 c5
    refine qr_iload_n 8 9 rfl (x := x2) rfl dX11_canTurn_8 ?_
    refine qr_if_lt 9 12 31 rfl (by decide) dX11_canTurn_9 (fun c9 => ?_) (fun c9 => ?_)
    · have h := h.1 c9
      refine qr_iconst 31 32 rfl (q_l32 _ rfl) dX11_canTurn_31 ?_
      exact qe_z 32 rfl (by decide) dX11_canTurn_32 h
    · have h := h.2 c9
      refine qr_iload_n 12 13 rfl (x := x2) rfl dX11_canTurn_12 ?_
      refine qr_aload_n 13 14 rfl (x := 1) rfl dX11_canTurn_13 ?_
      refine qg_r 14 17 rfl ck11 4 (kk := 4) (by decide) (by decide +kernel) (by decide +kernel) rfl wm_381 rfl dX11_canTurn_14 ?_
      have hk3 := h.1
      have h := h.2
      refine qr_getF 17 20 rfl ck4 7 (by decide) (b := (q_lay (M1 1 4) 7)) hk3 rfl (by decide +kernel) rfl wm_85 rfl dX11_canTurn_17 ?_
      refine qr_iload_n 20 21 rfl (x := x1) rfl dX11_canTurn_20 ?_
      have hb4 := h.1
      have h := h.2
      refine qi_ld 21 22 rfl (N := 10) (lk4_7 _ hk3) (ll4_7 _ hk3) hb4.1 hb4.2 dX11_canTurn_21 ?_
      refine qr_iconst 22 23 rfl (q_l32 _ rfl) dX11_canTurn_22 ?_
      refine qr_isub 23 24 rfl dX11_canTurn_23 ?_
      refine qr_icmp_ge 24 27 31 rfl (by decide) dX11_canTurn_24 (fun c24 => ?_) (fun c24 => ?_)
      · have h := h.1 c24
        refine qr_iconst 31 32 rfl (q_l32 _ rfl) dX11_canTurn_31 ?_
        exact qe_z 32 rfl (by decide) dX11_canTurn_32 h
      · have h := h.2 c24
        refine qr_iconst 27 28 rfl (q_l32 _ rfl) dX11_canTurn_27 ?_
        refine qr_goto 28 32 (by decide) dX11_canTurn_28 ?_
        exact qe_z 32 rfl (by decide) dX11_canTurn_32 h
theorem dX11_canWarm_0 : decode cX11_canWarm 0 = .ok (.iload_n 0, 1) := by decide +kernel
theorem dX11_canWarm_1 : decode cX11_canWarm 1 = .ok (.ifCond .lt 13, 3) := by decide +kernel
theorem dX11_canWarm_4 : decode cX11_canWarm 4 = .ok (.iload_n 0, 1) := by decide +kernel
theorem dX11_canWarm_5 : decode cX11_canWarm 5 = .ok (.bipush 10, 2) := by decide +kernel
theorem dX11_canWarm_7 : decode cX11_canWarm 7 = .ok (.if_icmp .ge 7, 3) := by decide +kernel
theorem dX11_canWarm_10 : decode cX11_canWarm 10 = .ok (.iconst 1, 1) := by decide +kernel
theorem dX11_canWarm_11 : decode cX11_canWarm 11 = .ok (.goto 4, 3) := by decide +kernel
theorem dX11_canWarm_14 : decode cX11_canWarm 14 = .ok (.iconst 0, 1) := by decide +kernel
theorem dX11_canWarm_15 : decode cX11_canWarm 15 = .ok (.ireturn, 1) := by decide +kernel
theorem bX11_canWarm_0 {d : Nat} {P : Int → q_Mem → Prop} {M : q_Mem} (x0 : Int) (h : ((x0 < 0) → P 0 M) ∧ ((¬ (x0 < 0)) → (((10 : Int) ≤ x0) → P 0 M) ∧ ((¬ ((10 : Int) ≤ x0)) → P 1 M))) : q_v mX11_canWarm d (qPI P) M 0 [some (qI x0)] [] := by
  refine qr_iload_n 0 1 rfl (x := x0) rfl dX11_canWarm_0 ?_
  refine qr_if_lt 1 4 14 rfl (by decide) dX11_canWarm_1 (fun c1 => ?_) (fun c1 => ?_)
  · have h := h.1 c1
    refine qr_iconst 14 15 rfl (q_l32 _ rfl) dX11_canWarm_14 ?_
    exact qe_z 15 rfl (by decide) dX11_canWarm_15 h
  · have h := h.2 c1
    refine qr_iload_n 4 5 rfl (x := x0) rfl dX11_canWarm_4 ?_
    refine qr_bipush 5 7 rfl (q_l32 _ rfl) (by decide) dX11_canWarm_5 ?_
    refine qr_icmp_ge 7 10 14 rfl (by decide) dX11_canWarm_7 (fun c7 => ?_) (fun c7 => ?_)
    · have h := h.1 c7
      refine qr_iconst 14 15 rfl (q_l32 _ rfl) dX11_canWarm_14 ?_
      exact qe_z 15 rfl (by decide) dX11_canWarm_15 h
    · have h := h.2 c7
      refine qr_iconst 10 11 rfl (q_l32 _ rfl) dX11_canWarm_10 ?_
      refine qr_goto 11 15 (by decide) dX11_canWarm_11 ?_
      exact qe_z 15 rfl (by decide) dX11_canWarm_15 h
theorem dX11_setGain_0 : decode cX11_setGain 0 = .ok (.aload_n 0, 1) := by decide +kernel
theorem dX11_setGain_1 : decode cX11_setGain 1 = .ok (.getfield 37, 3) := by decide +kernel
theorem dX11_setGain_4 : decode cX11_setGain 4 = .ok (.getfield 182, 3) := by decide +kernel
theorem dX11_setGain_7 : decode cX11_setGain 7 = .ok (.iload_n 1, 1) := by decide +kernel
theorem dX11_setGain_8 : decode cX11_setGain 8 = .ok (.iload_n 2, 1) := by decide +kernel
theorem dX11_setGain_9 : decode cX11_setGain 9 = .ok (.iastore, 1) := by decide +kernel
theorem dX11_setGain_10 : decode cX11_setGain 10 = .ok (.aload_n 0, 1) := by decide +kernel
theorem dX11_setGain_11 : decode cX11_setGain 11 = .ok (.dup, 1) := by decide +kernel
theorem dX11_setGain_12 : decode cX11_setGain 12 = .ok (.getfield 130, 3) := by decide +kernel
theorem dX11_setGain_15 : decode cX11_setGain 15 = .ok (.bipush (-63), 2) := by decide +kernel
theorem dX11_setGain_17 : decode cX11_setGain 17 = .ok (.iand, 1) := by decide +kernel
theorem dX11_setGain_18 : decode cX11_setGain 18 = .ok (.putfield 130, 3) := by decide +kernel
theorem dX11_setGain_21 : decode cX11_setGain 21 = .ok (.return_, 1) := by decide +kernel
theorem bX11_setGain_0 {d : Nat} {P : q_Mem → Prop} {M : q_Mem} (x1 x2 : Int) (h : (0 ≤ x1 ∧ x1 < (16 : Int)) ∧ (∀ M2 : q_Mem, M2 = q_up M 51 x1 x2 → (∀ M3 : q_Mem, M3 = q_up M2 1 18 (q_and (M2 1 18) (-63)) → P M3))) : q_v mX11_setGain d (qPU P) M 0 [some (qR 1), some (qI x1), some (qI x2)] [] := by
  refine qr_aload_n 0 1 rfl (x := 1) rfl dX11_setGain_0 ?_
  refine qr_getF 1 4 rfl ck11 7 (by decide) (b := 50) (by decide +kernel) rfl (by decide +kernel) (by decide +kernel) wm_384 rfl dX11_setGain_1 ?_
  refine qr_getF 4 7 rfl ck7 2 (by decide) (b := 51) (by decide +kernel) rfl (by decide +kernel) (by decide +kernel) wm_173 rfl dX11_setGain_4 ?_
  refine qr_iload_n 7 8 rfl (x := x1) rfl dX11_setGain_7 ?_
  refine qr_iload_n 8 9 rfl (x := x2) rfl dX11_setGain_8 ?_
  have hb1 := h.1
  have h := h.2
  refine qi_st 9 10 rfl (N := 16) (by decide +kernel) (by decide +kernel) hb1.1 hb1.2 dX11_setGain_9 (fun M2 e_M2 => ?_)
  have h := h M2 e_M2
  refine qr_aload_n 10 11 rfl (x := 1) rfl dX11_setGain_10 ?_
  refine qr_dup 11 12 rfl rfl dX11_setGain_11 ?_
  refine qg_i 12 15 rfl ck11 18 (kk := 18) (by decide) (by decide +kernel) (by decide +kernel) rfl wm_395 rfl dX11_setGain_12 ?_
  refine qr_bipush 15 17 rfl (q_l32 _ rfl) (by decide) dX11_setGain_15 ?_
  refine qr_iand 17 18 rfl dX11_setGain_17 ?_
  refine qp_i 18 21 rfl ck11 18 (kk := 18) (by decide) (by decide +kernel) (by decide) rfl rfl wm_395 rfl dX11_setGain_18 (fun M3 e_M3 => ?_)
  have h := h M3 e_M3
  exact qe_u 21 rfl dX11_setGain_21 h
theorem dX11_setWarmth_0 : decode cX11_setWarmth 0 = .ok (.aload_n 0, 1) := by decide +kernel
theorem dX11_setWarmth_1 : decode cX11_setWarmth 1 = .ok (.getfield 37, 3) := by decide +kernel
theorem dX11_setWarmth_4 : decode cX11_setWarmth 4 = .ok (.iload_n 1, 1) := by decide +kernel
theorem dX11_setWarmth_5 : decode cX11_setWarmth 5 = .ok (.putfield 208, 3) := by decide +kernel
theorem dX11_setWarmth_8 : decode cX11_setWarmth 8 = .ok (.aload_n 0, 1) := by decide +kernel
theorem dX11_setWarmth_9 : decode cX11_setWarmth 9 = .ok (.dup, 1) := by decide +kernel
theorem dX11_setWarmth_10 : decode cX11_setWarmth 10 = .ok (.getfield 130, 3) := by decide +kernel
theorem dX11_setWarmth_13 : decode cX11_setWarmth 13 = .ok (.bipush (-63), 2) := by decide +kernel
theorem dX11_setWarmth_15 : decode cX11_setWarmth 15 = .ok (.iand, 1) := by decide +kernel
theorem dX11_setWarmth_16 : decode cX11_setWarmth 16 = .ok (.putfield 130, 3) := by decide +kernel
theorem dX11_setWarmth_19 : decode cX11_setWarmth 19 = .ok (.return_, 1) := by decide +kernel
theorem bX11_setWarmth_0 {d : Nat} {P : q_Mem → Prop} {M : q_Mem} (x1 : Int) (h : (∀ M1 : q_Mem, M1 = q_up M 50 0 x1 → (∀ M2 : q_Mem, M2 = q_up M1 1 18 (q_and (M1 1 18) (-63)) → P M2))) : q_v mX11_setWarmth d (qPU P) M 0 [some (qR 1), some (qI x1)] [] := by
  refine qr_aload_n 0 1 rfl (x := 1) rfl dX11_setWarmth_0 ?_
  refine qr_getF 1 4 rfl ck11 7 (by decide) (b := 50) (by decide +kernel) rfl (by decide +kernel) (by decide +kernel) wm_384 rfl dX11_setWarmth_1 ?_
  refine qr_iload_n 4 5 rfl (x := x1) rfl dX11_setWarmth_4 ?_
  refine qp_i 5 8 rfl ck7 0 (kk := 0) (by decide) (by decide +kernel) (by decide) rfl rfl wm_167 rfl dX11_setWarmth_5 (fun M1 e_M1 => ?_)
  have h := h M1 e_M1
  refine qr_aload_n 8 9 rfl (x := 1) rfl dX11_setWarmth_8 ?_
  refine qr_dup 9 10 rfl rfl dX11_setWarmth_9 ?_
  refine qg_i 10 13 rfl ck11 18 (kk := 18) (by decide) (by decide +kernel) (by decide +kernel) rfl wm_395 rfl dX11_setWarmth_10 ?_
  refine qr_bipush 13 15 rfl (q_l32 _ rfl) (by decide) dX11_setWarmth_13 ?_
  refine qr_iand 15 16 rfl dX11_setWarmth_15 ?_
  refine qp_i 16 19 rfl ck11 18 (kk := 18) (by decide) (by decide +kernel) (by decide) rfl rfl wm_395 rfl dX11_setWarmth_16 (fun M2 e_M2 => ?_)
  have h := h M2 e_M2
  exact qe_u 19 rfl dX11_setWarmth_19 h
theorem dX11_swapPlaces_0 : decode cX11_swapPlaces 0 = .ok (.iload_n 1, 1) := by decide +kernel
theorem dX11_swapPlaces_1 : decode cX11_swapPlaces 1 = .ok (.bipush 16, 2) := by decide +kernel
theorem dX11_swapPlaces_3 : decode cX11_swapPlaces 3 = .ok (.imul, 1) := by decide +kernel
theorem dX11_swapPlaces_4 : decode cX11_swapPlaces 4 = .ok (.iload_n 2, 1) := by decide +kernel
theorem dX11_swapPlaces_5 : decode cX11_swapPlaces 5 = .ok (.iadd, 1) := by decide +kernel
theorem dX11_swapPlaces_6 : decode cX11_swapPlaces 6 = .ok (.istore_n 3, 1) := by decide +kernel
theorem dX11_swapPlaces_7 : decode cX11_swapPlaces 7 = .ok (.aload_n 0, 1) := by decide +kernel
theorem dX11_swapPlaces_8 : decode cX11_swapPlaces 8 = .ok (.getfield 37, 3) := by decide +kernel
theorem dX11_swapPlaces_11 : decode cX11_swapPlaces 11 = .ok (.getfield 162, 3) := by decide +kernel
theorem dX11_swapPlaces_14 : decode cX11_swapPlaces 14 = .ok (.iload_n 3, 1) := by decide +kernel
theorem dX11_swapPlaces_15 : decode cX11_swapPlaces 15 = .ok (.iaload, 1) := by decide +kernel
theorem dX11_swapPlaces_16 : decode cX11_swapPlaces 16 = .ok (.istore 4, 2) := by decide +kernel
theorem dX11_swapPlaces_18 : decode cX11_swapPlaces 18 = .ok (.aload_n 0, 1) := by decide +kernel
theorem dX11_swapPlaces_19 : decode cX11_swapPlaces 19 = .ok (.getfield 37, 3) := by decide +kernel
theorem dX11_swapPlaces_22 : decode cX11_swapPlaces 22 = .ok (.getfield 162, 3) := by decide +kernel
theorem dX11_swapPlaces_25 : decode cX11_swapPlaces 25 = .ok (.iload_n 3, 1) := by decide +kernel
theorem dX11_swapPlaces_26 : decode cX11_swapPlaces 26 = .ok (.aload_n 0, 1) := by decide +kernel
theorem dX11_swapPlaces_27 : decode cX11_swapPlaces 27 = .ok (.getfield 37, 3) := by decide +kernel
theorem dX11_swapPlaces_30 : decode cX11_swapPlaces 30 = .ok (.getfield 162, 3) := by decide +kernel
theorem dX11_swapPlaces_33 : decode cX11_swapPlaces 33 = .ok (.iload_n 3, 1) := by decide +kernel
theorem dX11_swapPlaces_34 : decode cX11_swapPlaces 34 = .ok (.iconst 1, 1) := by decide +kernel
theorem dX11_swapPlaces_35 : decode cX11_swapPlaces 35 = .ok (.iadd, 1) := by decide +kernel
theorem dX11_swapPlaces_36 : decode cX11_swapPlaces 36 = .ok (.iaload, 1) := by decide +kernel
theorem dX11_swapPlaces_37 : decode cX11_swapPlaces 37 = .ok (.iastore, 1) := by decide +kernel
theorem dX11_swapPlaces_38 : decode cX11_swapPlaces 38 = .ok (.aload_n 0, 1) := by decide +kernel
theorem dX11_swapPlaces_39 : decode cX11_swapPlaces 39 = .ok (.getfield 37, 3) := by decide +kernel
theorem dX11_swapPlaces_42 : decode cX11_swapPlaces 42 = .ok (.getfield 162, 3) := by decide +kernel
theorem dX11_swapPlaces_45 : decode cX11_swapPlaces 45 = .ok (.iload_n 3, 1) := by decide +kernel
theorem dX11_swapPlaces_46 : decode cX11_swapPlaces 46 = .ok (.iconst 1, 1) := by decide +kernel
theorem dX11_swapPlaces_47 : decode cX11_swapPlaces 47 = .ok (.iadd, 1) := by decide +kernel
theorem dX11_swapPlaces_48 : decode cX11_swapPlaces 48 = .ok (.iload 4, 2) := by decide +kernel
theorem dX11_swapPlaces_50 : decode cX11_swapPlaces 50 = .ok (.iastore, 1) := by decide +kernel
theorem dX11_swapPlaces_51 : decode cX11_swapPlaces 51 = .ok (.aload_n 0, 1) := by decide +kernel
theorem dX11_swapPlaces_52 : decode cX11_swapPlaces 52 = .ok (.dup, 1) := by decide +kernel
theorem dX11_swapPlaces_53 : decode cX11_swapPlaces 53 = .ok (.getfield 130, 3) := by decide +kernel
theorem dX11_swapPlaces_56 : decode cX11_swapPlaces 56 = .ok (.bipush (-58), 2) := by decide +kernel
theorem dX11_swapPlaces_58 : decode cX11_swapPlaces 58 = .ok (.iand, 1) := by decide +kernel
theorem dX11_swapPlaces_59 : decode cX11_swapPlaces 59 = .ok (.putfield 130, 3) := by decide +kernel
theorem dX11_swapPlaces_62 : decode cX11_swapPlaces 62 = .ok (.return_, 1) := by decide +kernel
theorem bX11_swapPlaces_0 {d : Nat} {P : q_Mem → Prop} {M : q_Mem} (x1 x2 : Int) (h : ∀ x3_1 : Int, x3_1 = (q_add (q_mul x1 16) x2) → (0 ≤ x3_1 ∧ x3_1 < (160 : Int)) ∧ (∀ x4_3 : Int, x4_3 = (M 52 x3_1) → (0 ≤ (q_add x3_1 1) ∧ (q_add x3_1 1) < (160 : Int)) ∧ ((0 ≤ x3_1 ∧ x3_1 < (160 : Int)) ∧ (∀ M6 : q_Mem, M6 = q_up M 52 x3_1 (M 52 (q_add x3_1 1)) → (0 ≤ (q_add x3_1 1) ∧ (q_add x3_1 1) < (160 : Int)) ∧ (∀ M8 : q_Mem, M8 = q_up M6 52 (q_add x3_1 1) x4_3 → (∀ M9 : q_Mem, M9 = q_up M8 1 18 (q_and (M8 1 18) (-58)) → P M9)))))) : q_v mX11_swapPlaces d (qPU P) M 0 [some (qR 1), some (qI x1), some (qI x2), none, none] [] := by
  refine qr_iload_n 0 1 rfl (x := x1) rfl dX11_swapPlaces_0 ?_
  refine qr_bipush 1 3 rfl (q_l32 _ rfl) (by decide) dX11_swapPlaces_1 ?_
  refine qr_imul 3 4 rfl dX11_swapPlaces_3 ?_
  refine qr_iload_n 4 5 rfl (x := x2) rfl dX11_swapPlaces_4 ?_
  refine qr_iadd 5 6 rfl dX11_swapPlaces_5 ?_
  refine qn_i 6 (fun x3_1 e_x3_1 => ?_)
  have h := h x3_1 e_x3_1
  refine qr_istore_n 6 7 rfl (by decide) rfl rfl dX11_swapPlaces_6 ?_
  refine qr_aload_n 7 8 rfl (x := 1) rfl dX11_swapPlaces_7 ?_
  refine qr_getF 8 11 rfl ck11 7 (by decide) (b := 50) (by decide +kernel) rfl (by decide +kernel) (by decide +kernel) wm_384 rfl dX11_swapPlaces_8 ?_
  refine qr_getF 11 14 rfl ck7 3 (by decide) (b := 52) (by decide +kernel) rfl (by decide +kernel) (by decide +kernel) wm_175 rfl dX11_swapPlaces_11 ?_
  refine qr_iload_n 14 15 rfl (x := x3_1) rfl dX11_swapPlaces_14 ?_
  have hb2 := h.1
  have h := h.2
  refine qi_ld 15 16 rfl (N := 160) (by decide +kernel) (by decide +kernel) hb2.1 hb2.2 dX11_swapPlaces_15 ?_
  refine qn_i 16 (fun x4_3 e_x4_3 => ?_)
  have h := h x4_3 e_x4_3
  refine qr_istore 16 18 rfl (by decide) rfl rfl dX11_swapPlaces_16 ?_
  refine qr_aload_n 18 19 rfl (x := 1) rfl dX11_swapPlaces_18 ?_
  refine qr_getF 19 22 rfl ck11 7 (by decide) (b := 50) (by decide +kernel) rfl (by decide +kernel) (by decide +kernel) wm_384 rfl dX11_swapPlaces_19 ?_
  refine qr_getF 22 25 rfl ck7 3 (by decide) (b := 52) (by decide +kernel) rfl (by decide +kernel) (by decide +kernel) wm_175 rfl dX11_swapPlaces_22 ?_
  refine qr_iload_n 25 26 rfl (x := x3_1) rfl dX11_swapPlaces_25 ?_
  refine qr_aload_n 26 27 rfl (x := 1) rfl dX11_swapPlaces_26 ?_
  refine qr_getF 27 30 rfl ck11 7 (by decide) (b := 50) (by decide +kernel) rfl (by decide +kernel) (by decide +kernel) wm_384 rfl dX11_swapPlaces_27 ?_
  refine qr_getF 30 33 rfl ck7 3 (by decide) (b := 52) (by decide +kernel) rfl (by decide +kernel) (by decide +kernel) wm_175 rfl dX11_swapPlaces_30 ?_
  refine qr_iload_n 33 34 rfl (x := x3_1) rfl dX11_swapPlaces_33 ?_
  refine qr_iconst 34 35 rfl (q_l32 _ rfl) dX11_swapPlaces_34 ?_
  refine qr_iadd 35 36 rfl dX11_swapPlaces_35 ?_
  have hb4 := h.1
  have h := h.2
  refine qi_ld 36 37 rfl (N := 160) (by decide +kernel) (by decide +kernel) hb4.1 hb4.2 dX11_swapPlaces_36 ?_
  have hb5 := h.1
  have h := h.2
  refine qi_st 37 38 rfl (N := 160) (by decide +kernel) (by decide +kernel) hb5.1 hb5.2 dX11_swapPlaces_37 (fun M6 e_M6 => ?_)
  have h := h M6 e_M6
  refine qr_aload_n 38 39 rfl (x := 1) rfl dX11_swapPlaces_38 ?_
  refine qr_getF 39 42 rfl ck11 7 (by decide) (b := 50) (by decide +kernel) rfl (by decide +kernel) (by decide +kernel) wm_384 rfl dX11_swapPlaces_39 ?_
  refine qr_getF 42 45 rfl ck7 3 (by decide) (b := 52) (by decide +kernel) rfl (by decide +kernel) (by decide +kernel) wm_175 rfl dX11_swapPlaces_42 ?_
  refine qr_iload_n 45 46 rfl (x := x3_1) rfl dX11_swapPlaces_45 ?_
  refine qr_iconst 46 47 rfl (q_l32 _ rfl) dX11_swapPlaces_46 ?_
  refine qr_iadd 47 48 rfl dX11_swapPlaces_47 ?_
  refine qr_iload 48 50 rfl (x := x4_3) rfl dX11_swapPlaces_48 ?_
  have hb7 := h.1
  have h := h.2
  refine qi_st 50 51 rfl (N := 160) (by decide +kernel) (by decide +kernel) hb7.1 hb7.2 dX11_swapPlaces_50 (fun M8 e_M8 => ?_)
  have h := h M8 e_M8
  refine qr_aload_n 51 52 rfl (x := 1) rfl dX11_swapPlaces_51 ?_
  refine qr_dup 52 53 rfl rfl dX11_swapPlaces_52 ?_
  refine qg_i 53 56 rfl ck11 18 (kk := 18) (by decide) (by decide +kernel) (by decide +kernel) rfl wm_395 rfl dX11_swapPlaces_53 ?_
  refine qr_bipush 56 58 rfl (q_l32 _ rfl) (by decide) dX11_swapPlaces_56 ?_
  refine qr_iand 58 59 rfl dX11_swapPlaces_58 ?_
  refine qp_i 59 62 rfl ck11 18 (kk := 18) (by decide) (by decide +kernel) (by decide) rfl rfl wm_395 rfl dX11_swapPlaces_59 (fun M9 e_M9 => ?_)
  have h := h M9 e_M9
  exact qe_u 62 rfl dX11_swapPlaces_62 h
theorem dX11_faces_0 : decode cX11_faces 0 = .ok (.aload_n 0, 1) := by decide +kernel
theorem dX11_faces_1 : decode cX11_faces 1 = .ok (.invokevirtual 146, 3) := by decide +kernel
theorem dX11_faces_4 : decode cX11_faces 4 = .ok (.aload_n 0, 1) := by decide +kernel
theorem dX11_faces_5 : decode cX11_faces 5 = .ok (.getfield 70, 3) := by decide +kernel
theorem dX11_faces_8 : decode cX11_faces 8 = .ok (.getfield 295, 3) := by decide +kernel
theorem dX11_faces_11 : decode cX11_faces 11 = .ok (.ireturn, 1) := by decide +kernel
theorem bX11_faces_0 {d : Nat} {P : Int → q_Mem → Prop} {M : q_Mem} (h : q_kU yX11_needShape mX11_needShape d [qR 1] M (fun M1 => P (M1 91 0) M1)) : q_v mX11_faces d (qPI P) M 0 [some (qR 1)] [] := by
  refine qr_aload_n 0 1 rfl (x := 1) rfl dX11_faces_0 ?_
  refine qw_U 1 4 rfl (av := []) ca_X11_needShape wm_755 wp_29 wm_753 ck11 (by decide +kernel) rfl rfl (Nat.le_of_ble_eq_true rfl) dX11_faces_1 h (fun M1 h => ?_)
  refine qr_aload_n 4 5 rfl (x := 1) rfl dX11_faces_4 ?_
  refine qr_getF 5 8 rfl ck11 13 (by decide) (b := 91) (by decide +kernel) rfl (by decide +kernel) (by decide +kernel) wm_390 rfl dX11_faces_5 ?_
  refine qg_i 8 11 rfl ck6 0 (kk := 0) (by decide) (by decide +kernel) (by decide +kernel) rfl wm_218 rfl dX11_faces_8 ?_
  exact qe_i 11 rfl dX11_faces_11 h
theorem dX11_face_0 : decode cX11_face 0 = .ok (.aload_n 0, 1) := by decide +kernel
theorem dX11_face_1 : decode cX11_face 1 = .ok (.iload_n 1, 1) := by decide +kernel
theorem dX11_face_2 : decode cX11_face 2 = .ok (.invokevirtual 298, 3) := by decide +kernel
theorem dX11_face_5 : decode cX11_face 5 = .ok (.ifCond .eq 12, 3) := by decide +kernel
theorem dX11_face_8 : decode cX11_face 8 = .ok (.iload_n 2, 1) := by decide +kernel
theorem dX11_face_9 : decode cX11_face 9 = .ok (.ifCond .lt 8, 3) := by decide +kernel
theorem dX11_face_12 : decode cX11_face 12 = .ok (.iload_n 2, 1) := by decide +kernel
theorem dX11_face_13 : decode cX11_face 13 = .ok (.iconst 3, 1) := by decide +kernel
theorem dX11_face_14 : decode cX11_face 14 = .ok (.if_icmp .le 6, 3) := by decide +kernel
theorem dX11_face_17 : decode cX11_face 17 = .ok (.bipush (-2), 2) := by decide +kernel
theorem dX11_face_19 : decode cX11_face 19 = .ok (.ireturn, 1) := by decide +kernel
theorem dX11_face_20 : decode cX11_face 20 = .ok (.iload_n 2, 1) := by decide +kernel
theorem dX11_face_21 : decode cX11_face 21 = .ok (.ifCond .ne 13, 3) := by decide +kernel
theorem dX11_face_24 : decode cX11_face 24 = .ok (.aload_n 0, 1) := by decide +kernel
theorem dX11_face_25 : decode cX11_face 25 = .ok (.getfield 70, 3) := by decide +kernel
theorem dX11_face_28 : decode cX11_face 28 = .ok (.getfield 301, 3) := by decide +kernel
theorem dX11_face_31 : decode cX11_face 31 = .ok (.iload_n 1, 1) := by decide +kernel
theorem dX11_face_32 : decode cX11_face 32 = .ok (.iaload, 1) := by decide +kernel
theorem dX11_face_33 : decode cX11_face 33 = .ok (.ireturn, 1) := by decide +kernel
theorem dX11_face_34 : decode cX11_face 34 = .ok (.iload_n 2, 1) := by decide +kernel
theorem dX11_face_35 : decode cX11_face 35 = .ok (.iconst 1, 1) := by decide +kernel
theorem dX11_face_36 : decode cX11_face 36 = .ok (.if_icmp .ne 13, 3) := by decide +kernel
theorem dX11_face_39 : decode cX11_face 39 = .ok (.aload_n 0, 1) := by decide +kernel
theorem dX11_face_40 : decode cX11_face 40 = .ok (.getfield 70, 3) := by decide +kernel
theorem dX11_face_43 : decode cX11_face 43 = .ok (.getfield 304, 3) := by decide +kernel
theorem dX11_face_46 : decode cX11_face 46 = .ok (.iload_n 1, 1) := by decide +kernel
theorem dX11_face_47 : decode cX11_face 47 = .ok (.iaload, 1) := by decide +kernel
theorem dX11_face_48 : decode cX11_face 48 = .ok (.ireturn, 1) := by decide +kernel
theorem dX11_face_49 : decode cX11_face 49 = .ok (.iload_n 2, 1) := by decide +kernel
theorem dX11_face_50 : decode cX11_face 50 = .ok (.iconst 2, 1) := by decide +kernel
theorem dX11_face_51 : decode cX11_face 51 = .ok (.if_icmp .ne 25, 3) := by decide +kernel
theorem dX11_face_54 : decode cX11_face 54 = .ok (.aload_n 0, 1) := by decide +kernel
theorem dX11_face_55 : decode cX11_face 55 = .ok (.iconst 2, 1) := by decide +kernel
theorem dX11_face_56 : decode cX11_face 56 = .ok (.invokevirtual 153, 3) := by decide +kernel
theorem dX11_face_59 : decode cX11_face 59 = .ok (.aload_n 0, 1) := by decide +kernel
theorem dX11_face_60 : decode cX11_face 60 = .ok (.getfield 70, 3) := by decide +kernel
theorem dX11_face_63 : decode cX11_face 63 = .ok (.aload_n 0, 1) := by decide +kernel
theorem dX11_face_64 : decode cX11_face 64 = .ok (.iconst 1, 1) := by decide +kernel
theorem dX11_face_65 : decode cX11_face 65 = .ok (.invokevirtual 307, 3) := by decide +kernel
theorem dX11_face_68 : decode cX11_face 68 = .ok (.invokevirtual 310, 3) := by decide +kernel
theorem dX11_face_71 : decode cX11_face 71 = .ok (.iload_n 1, 1) := by decide +kernel
theorem dX11_face_72 : decode cX11_face 72 = .ok (.ishr, 1) := by decide +kernel
theorem dX11_face_73 : decode cX11_face 73 = .ok (.iconst 1, 1) := by decide +kernel
theorem dX11_face_74 : decode cX11_face 74 = .ok (.iand, 1) := by decide +kernel
theorem dX11_face_75 : decode cX11_face 75 = .ok (.ireturn, 1) := by decide +kernel
theorem dX11_face_76 : decode cX11_face 76 = .ok (.aload_n 0, 1) := by decide +kernel
theorem dX11_face_77 : decode cX11_face 77 = .ok (.getfield 70, 3) := by decide +kernel
theorem dX11_face_80 : decode cX11_face 80 = .ok (.getfield 313, 3) := by decide +kernel
theorem dX11_face_83 : decode cX11_face 83 = .ok (.iload_n 1, 1) := by decide +kernel
theorem dX11_face_84 : decode cX11_face 84 = .ok (.iaload, 1) := by decide +kernel
theorem dX11_face_85 : decode cX11_face 85 = .ok (.invokestatic 232, 3) := by decide +kernel
theorem dX11_face_88 : decode cX11_face 88 = .ok (.ireturn, 1) := by decide +kernel
theorem bX11_face_0 {d : Nat} {P : Int → q_Mem → Prop} {M : q_Mem} (x1 x2 : Int) (h : q_kI yX11_hasFace mX11_hasFace d [qR 1, qI x1] M (fun v2 M1 => ((v2 = 0) → P (-2) M1) ∧ ((¬ (v2 = 0)) → ((x2 < 0) → P (-2) M1) ∧ ((¬ (x2 < 0)) → ((x2 ≤ (3 : Int)) → ((¬ x2 = 0) → ((¬ x2 = (1 : Int)) → ((¬ x2 = (2 : Int)) → (0 ≤ x1 ∧ x1 < (16 : Int)) ∧ (q_kI yJ6_bitCount_0f7a4 mJ6_bitCount_0f7a4 d [qI (M1 96 x1)] M1 (fun v5 M4 => P v5 M4))) ∧ ((x2 = (2 : Int)) → q_kU yX11_need mX11_need d [qR 1, qI 2] M1 (fun M6 => q_kI yX11_goodLinks mX11_goodLinks d [qR 1, qI 1] M6 (fun v8 M7 => q_kI yX6_oddFaces mX6_oddFaces d [qR 91, qI v8] M7 (fun v10 M9 => P (q_and (q_shr v10 x1) 1) M9))))) ∧ ((x2 = (1 : Int)) → (0 ≤ x1 ∧ x1 < (16 : Int)) ∧ (P (M1 94 x1) M1))) ∧ ((x2 = 0) → (0 ≤ x1 ∧ x1 < (16 : Int)) ∧ (P (M1 95 x1) M1))) ∧ ((¬ (x2 ≤ (3 : Int))) → P (-2) M1))))) : q_v mX11_face d (qPI P) M 0 [some (qR 1), some (qI x1), some (qI x2)] [] := by
  refine qr_aload_n 0 1 rfl (x := 1) rfl dX11_face_0 ?_
  refine qr_iload_n 1 2 rfl (x := x1) rfl dX11_face_1 ?_
  refine qw_I 2 5 rfl (av := [qI x1]) ca_X11_hasFace wm_1077 wp_63 wm_1075 ck11 (by decide +kernel) rfl rfl (Nat.le_of_ble_eq_true rfl) dX11_face_2 h (fun v2 M1 h => ?_)
  refine qr_if_eq 5 8 17 rfl (by decide) dX11_face_5 (fun c5 => ?_) (fun c5 => ?_)
  · have h := h.1 c5
    refine qr_bipush 17 19 rfl (q_l32 _ rfl) (by decide) dX11_face_17 ?_
    exact qe_i 19 rfl dX11_face_19 h
  · have h := h.2 c5
    refine qr_iload_n 8 9 rfl (x := x2) rfl dX11_face_8 ?_
    refine qr_if_lt 9 12 17 rfl (by decide) dX11_face_9 (fun c9 => ?_) (fun c9 => ?_)
    · have h := h.1 c9
      refine qr_bipush 17 19 rfl (q_l32 _ rfl) (by decide) dX11_face_17 ?_
      exact qe_i 19 rfl dX11_face_19 h
    · have h := h.2 c9
      refine qr_iload_n 12 13 rfl (x := x2) rfl dX11_face_12 ?_
      refine qr_iconst 13 14 rfl (q_l32 _ rfl) dX11_face_13 ?_
      refine qr_icmp_le 14 17 20 rfl (by decide) dX11_face_14 (fun c14 => ?_) (fun c14 => ?_)
      · have h := h.1 c14
        refine qr_iload_n 20 21 rfl (x := x2) rfl dX11_face_20 ?_
        refine qr_if_ne 21 24 34 rfl (by decide) dX11_face_21 (fun c21 => ?_) (fun c21 => ?_)
        · have h := h.1 c21
          refine qr_iload_n 34 35 rfl (x := x2) rfl dX11_face_34 ?_
          refine qr_iconst 35 36 rfl (q_l32 _ rfl) dX11_face_35 ?_
          refine qr_icmp_ne 36 39 49 rfl (by decide) dX11_face_36 (fun c36 => ?_) (fun c36 => ?_)
          · have h := h.1 c36
            refine qr_iload_n 49 50 rfl (x := x2) rfl dX11_face_49 ?_
            refine qr_iconst 50 51 rfl (q_l32 _ rfl) dX11_face_50 ?_
            refine qr_icmp_ne 51 54 76 rfl (by decide) dX11_face_51 (fun c51 => ?_) (fun c51 => ?_)
            · have h := h.1 c51
              refine qr_aload_n 76 77 rfl (x := 1) rfl dX11_face_76 ?_
              refine qr_getF 77 80 rfl ck11 13 (by decide) (b := 91) (by decide +kernel) rfl (by decide +kernel) (by decide +kernel) wm_390 rfl dX11_face_77 ?_
              refine qr_getF 80 83 rfl ck6 7 (by decide) (b := 96) (by decide +kernel) rfl (by decide +kernel) (by decide +kernel) wm_233 rfl dX11_face_80 ?_
              refine qr_iload_n 83 84 rfl (x := x1) rfl dX11_face_83 ?_
              have hb3 := h.1
              have h := h.2
              refine qi_ld 84 85 rfl (N := 16) (by decide +kernel) (by decide +kernel) hb3.1 hb3.2 dX11_face_84 ?_
              refine qs_I 85 88 rfl (av := [qI (M1 96 x1)]) ca_J6_bitCount_0f7a4 wm_1002 wm_1001 rfl rfl (Nat.le_of_ble_eq_true rfl) dX11_face_85 h (fun v5 M4 h => ?_)
              exact qe_i 88 rfl dX11_face_88 h
            · have h := h.2 c51
              refine qr_aload_n 54 55 rfl (x := 1) rfl dX11_face_54 ?_
              refine qr_iconst 55 56 rfl (q_l32 _ rfl) dX11_face_55 ?_
              refine qw_U 56 59 rfl (av := [qI 2]) ca_X11_need wm_791 wp_35 wm_789 ck11 (by decide +kernel) rfl rfl (Nat.le_of_ble_eq_true rfl) dX11_face_56 h (fun M6 h => ?_)
              refine qr_aload_n 59 60 rfl (x := 1) rfl dX11_face_59 ?_
              refine qr_getF 60 63 rfl ck11 13 (by decide) (b := 91) (by decide +kernel) rfl (by decide +kernel) (by decide +kernel) wm_390 rfl dX11_face_60 ?_
              refine qr_aload_n 63 64 rfl (x := 1) rfl dX11_face_63 ?_
              refine qr_iconst 64 65 rfl (q_l32 _ rfl) dX11_face_64 ?_
              refine qw_I 65 68 rfl (av := [qI 1]) ca_X11_goodLinks wm_844 wp_39 wm_842 ck11 (by decide +kernel) rfl rfl (Nat.le_of_ble_eq_true rfl) dX11_face_65 h (fun v8 M7 h => ?_)
              refine qw_I 68 71 rfl (av := [qI v8]) ca_X6_oddFaces wm_847 wm_848 wm_846 ck6 (by decide +kernel) rfl rfl (Nat.le_of_ble_eq_true rfl) dX11_face_68 h (fun v10 M9 h => ?_)
              refine qr_iload_n 71 72 rfl (x := x1) rfl dX11_face_71 ?_
              refine qr_ishr 72 73 rfl dX11_face_72 ?_
              refine qr_iconst 73 74 rfl (q_l32 _ rfl) dX11_face_73 ?_
              refine qr_iand 74 75 rfl dX11_face_74 ?_
              exact qe_i 75 rfl dX11_face_75 h
          · have h := h.2 c36
            refine qr_aload_n 39 40 rfl (x := 1) rfl dX11_face_39 ?_
            refine qr_getF 40 43 rfl ck11 13 (by decide) (b := 91) (by decide +kernel) rfl (by decide +kernel) (by decide +kernel) wm_390 rfl dX11_face_40 ?_
            refine qr_getF 43 46 rfl ck6 5 (by decide) (b := 94) (by decide +kernel) rfl (by decide +kernel) (by decide +kernel) wm_229 rfl dX11_face_43 ?_
            refine qr_iload_n 46 47 rfl (x := x1) rfl dX11_face_46 ?_
            have hb11 := h.1
            have h := h.2
            refine qi_ld 47 48 rfl (N := 16) (by decide +kernel) (by decide +kernel) hb11.1 hb11.2 dX11_face_47 ?_
            exact qe_i 48 rfl dX11_face_48 h
        · have h := h.2 c21
          refine qr_aload_n 24 25 rfl (x := 1) rfl dX11_face_24 ?_
          refine qr_getF 25 28 rfl ck11 13 (by decide) (b := 91) (by decide +kernel) rfl (by decide +kernel) (by decide +kernel) wm_390 rfl dX11_face_25 ?_
          refine qr_getF 28 31 rfl ck6 6 (by decide) (b := 95) (by decide +kernel) rfl (by decide +kernel) (by decide +kernel) wm_231 rfl dX11_face_28 ?_
          refine qr_iload_n 31 32 rfl (x := x1) rfl dX11_face_31 ?_
          have hb12 := h.1
          have h := h.2
          refine qi_ld 32 33 rfl (N := 16) (by decide +kernel) (by decide +kernel) hb12.1 hb12.2 dX11_face_32 ?_
          exact qe_i 33 rfl dX11_face_33 h
      · have h := h.2 c14
        refine qr_bipush 17 19 rfl (q_l32 _ rfl) (by decide) dX11_face_17 ?_
        exact qe_i 19 rfl dX11_face_19 h
theorem dX11_dart_0 : decode cX11_dart 0 = .ok (.aload_n 0, 1) := by decide +kernel
theorem dX11_dart_1 : decode cX11_dart 1 = .ok (.iload_n 1, 1) := by decide +kernel
theorem dX11_dart_2 : decode cX11_dart 2 = .ok (.invokevirtual 298, 3) := by decide +kernel
theorem dX11_dart_5 : decode cX11_dart 5 = .ok (.ifCond .ne 6, 3) := by decide +kernel
theorem dX11_dart_8 : decode cX11_dart 8 = .ok (.bipush (-2), 2) := by decide +kernel
theorem dX11_dart_10 : decode cX11_dart 10 = .ok (.ireturn, 1) := by decide +kernel
theorem dX11_dart_11 : decode cX11_dart 11 = .ok (.iload_n 2, 1) := by decide +kernel
theorem dX11_dart_12 : decode cX11_dart 12 = .ok (.ifCond .ge 6, 3) := by decide +kernel
theorem dX11_dart_15 : decode cX11_dart 15 = .ok (.bipush (-3), 2) := by decide +kernel
theorem dX11_dart_17 : decode cX11_dart 17 = .ok (.ireturn, 1) := by decide +kernel
theorem dX11_dart_18 : decode cX11_dart 18 = .ok (.aload_n 0, 1) := by decide +kernel
theorem dX11_dart_19 : decode cX11_dart 19 = .ok (.getfield 70, 3) := by decide +kernel
theorem dX11_dart_22 : decode cX11_dart 22 = .ok (.iload_n 1, 1) := by decide +kernel
theorem dX11_dart_23 : decode cX11_dart 23 = .ok (.iload_n 2, 1) := by decide +kernel
theorem dX11_dart_24 : decode cX11_dart 24 = .ok (.invokevirtual 316, 3) := by decide +kernel
theorem dX11_dart_27 : decode cX11_dart 27 = .ok (.ireturn, 1) := by decide +kernel
theorem bX11_dart_0 {d : Nat} {P : Int → q_Mem → Prop} {M : q_Mem} (x1 x2 : Int) (h : q_kI yX11_hasFace mX11_hasFace d [qR 1, qI x1] M (fun v2 M1 => ((¬ v2 = 0) → ((0 ≤ x2) → q_kI yX6_dartAt mX6_dartAt d [qR 91, qI x1, qI x2] M1 (fun v4 M3 => P v4 M3)) ∧ ((¬ (0 ≤ x2)) → P (-3) M1)) ∧ ((v2 = 0) → P (-2) M1))) : q_v mX11_dart d (qPI P) M 0 [some (qR 1), some (qI x1), some (qI x2)] [] := by
  refine qr_aload_n 0 1 rfl (x := 1) rfl dX11_dart_0 ?_
  refine qr_iload_n 1 2 rfl (x := x1) rfl dX11_dart_1 ?_
  refine qw_I 2 5 rfl (av := [qI x1]) ca_X11_hasFace wm_1077 wp_63 wm_1075 ck11 (by decide +kernel) rfl rfl (Nat.le_of_ble_eq_true rfl) dX11_dart_2 h (fun v2 M1 h => ?_)
  refine qr_if_ne 5 8 11 rfl (by decide) dX11_dart_5 (fun c5 => ?_) (fun c5 => ?_)
  · have h := h.1 c5
    refine qr_iload_n 11 12 rfl (x := x2) rfl dX11_dart_11 ?_
    refine qr_if_ge 12 15 18 rfl (by decide) dX11_dart_12 (fun c12 => ?_) (fun c12 => ?_)
    · have h := h.1 c12
      refine qr_aload_n 18 19 rfl (x := 1) rfl dX11_dart_18 ?_
      refine qr_getF 19 22 rfl ck11 13 (by decide) (b := 91) (by decide +kernel) rfl (by decide +kernel) (by decide +kernel) wm_390 rfl dX11_dart_19 ?_
      refine qr_iload_n 22 23 rfl (x := x1) rfl dX11_dart_22 ?_
      refine qr_iload_n 23 24 rfl (x := x2) rfl dX11_dart_23 ?_
      refine qw_I 24 27 rfl (av := [qI x1, qI x2]) ca_X6_dartAt wm_1084 wm_1085 wm_1083 ck6 (by decide +kernel) rfl rfl (Nat.le_of_ble_eq_true rfl) dX11_dart_24 h (fun v4 M3 h => ?_)
      exact qe_i 27 rfl dX11_dart_27 h
    · have h := h.2 c12
      refine qr_bipush 15 17 rfl (q_l32 _ rfl) (by decide) dX11_dart_15 ?_
      exact qe_i 17 rfl dX11_dart_17 h
  · have h := h.2 c5
    refine qr_bipush 8 10 rfl (q_l32 _ rfl) (by decide) dX11_dart_8 ?_
    exact qe_i 10 rfl dX11_dart_10 h
theorem dX11_parts_0 : decode cX11_parts 0 = .ok (.aload_n 0, 1) := by decide +kernel
theorem dX11_parts_1 : decode cX11_parts 1 = .ok (.invokevirtual 146, 3) := by decide +kernel
theorem dX11_parts_4 : decode cX11_parts 4 = .ok (.aload_n 0, 1) := by decide +kernel
theorem dX11_parts_5 : decode cX11_parts 5 = .ok (.getfield 70, 3) := by decide +kernel
theorem dX11_parts_8 : decode cX11_parts 8 = .ok (.getfield 320, 3) := by decide +kernel
theorem dX11_parts_11 : decode cX11_parts 11 = .ok (.ireturn, 1) := by decide +kernel
theorem bX11_parts_0 {d : Nat} {P : Int → q_Mem → Prop} {M : q_Mem} (h : q_kU yX11_needShape mX11_needShape d [qR 1] M (fun M1 => P (M1 91 1) M1)) : q_v mX11_parts d (qPI P) M 0 [some (qR 1)] [] := by
  refine qr_aload_n 0 1 rfl (x := 1) rfl dX11_parts_0 ?_
  refine qw_U 1 4 rfl (av := []) ca_X11_needShape wm_755 wp_29 wm_753 ck11 (by decide +kernel) rfl rfl (Nat.le_of_ble_eq_true rfl) dX11_parts_1 h (fun M1 h => ?_)
  refine qr_aload_n 4 5 rfl (x := 1) rfl dX11_parts_4 ?_
  refine qr_getF 5 8 rfl ck11 13 (by decide) (b := 91) (by decide +kernel) rfl (by decide +kernel) (by decide +kernel) wm_390 rfl dX11_parts_5 ?_
  refine qg_i 8 11 rfl ck6 1 (kk := 1) (by decide) (by decide +kernel) (by decide +kernel) rfl wm_220 rfl dX11_parts_8 ?_
  exact qe_i 11 rfl dX11_parts_11 h
theorem dX11_twists_0 : decode cX11_twists 0 = .ok (.aload_n 0, 1) := by decide +kernel
theorem dX11_twists_1 : decode cX11_twists 1 = .ok (.invokevirtual 146, 3) := by decide +kernel
theorem dX11_twists_4 : decode cX11_twists 4 = .ok (.aload_n 0, 1) := by decide +kernel
theorem dX11_twists_5 : decode cX11_twists 5 = .ok (.getfield 70, 3) := by decide +kernel
theorem dX11_twists_8 : decode cX11_twists 8 = .ok (.getfield 265, 3) := by decide +kernel
theorem dX11_twists_11 : decode cX11_twists 11 = .ok (.ireturn, 1) := by decide +kernel
theorem bX11_twists_0 {d : Nat} {P : Int → q_Mem → Prop} {M : q_Mem} (h : q_kU yX11_needShape mX11_needShape d [qR 1] M (fun M1 => P (M1 91 2) M1)) : q_v mX11_twists d (qPI P) M 0 [some (qR 1)] [] := by
  refine qr_aload_n 0 1 rfl (x := 1) rfl dX11_twists_0 ?_
  refine qw_U 1 4 rfl (av := []) ca_X11_needShape wm_755 wp_29 wm_753 ck11 (by decide +kernel) rfl rfl (Nat.le_of_ble_eq_true rfl) dX11_twists_1 h (fun M1 h => ?_)
  refine qr_aload_n 4 5 rfl (x := 1) rfl dX11_twists_4 ?_
  refine qr_getF 5 8 rfl ck11 13 (by decide) (b := 91) (by decide +kernel) rfl (by decide +kernel) (by decide +kernel) wm_390 rfl dX11_twists_5 ?_
  refine qg_i 8 11 rfl ck6 2 (kk := 2) (by decide) (by decide +kernel) (by decide +kernel) rfl wm_222 rfl dX11_twists_8 ?_
  exact qe_i 11 rfl dX11_twists_11 h
theorem dX11_odd_0 : decode cX11_odd 0 = .ok (.aload_n 0, 1) := by decide +kernel
theorem dX11_odd_1 : decode cX11_odd 1 = .ok (.iconst 3, 1) := by decide +kernel
theorem dX11_odd_2 : decode cX11_odd 2 = .ok (.invokevirtual 153, 3) := by decide +kernel
theorem dX11_odd_5 : decode cX11_odd 5 = .ok (.aload_n 0, 1) := by decide +kernel
theorem dX11_odd_6 : decode cX11_odd 6 = .ok (.getfield 70, 3) := by decide +kernel
theorem dX11_odd_9 : decode cX11_odd 9 = .ok (.aload_n 0, 1) := by decide +kernel
theorem dX11_odd_10 : decode cX11_odd 10 = .ok (.iconst 1, 1) := by decide +kernel
theorem dX11_odd_11 : decode cX11_odd 11 = .ok (.invokevirtual 307, 3) := by decide +kernel
theorem dX11_odd_14 : decode cX11_odd 14 = .ok (.invokevirtual 310, 3) := by decide +kernel
theorem dX11_odd_17 : decode cX11_odd 17 = .ok (.ireturn, 1) := by decide +kernel
theorem bX11_odd_0 {d : Nat} {P : Int → q_Mem → Prop} {M : q_Mem} (h : q_kU yX11_need mX11_need d [qR 1, qI 3] M (fun M1 => q_kI yX11_goodLinks mX11_goodLinks d [qR 1, qI 1] M1 (fun v3 M2 => q_kI yX6_oddFaces mX6_oddFaces d [qR 91, qI v3] M2 (fun v5 M4 => P v5 M4)))) : q_v mX11_odd d (qPI P) M 0 [some (qR 1)] [] := by
  refine qr_aload_n 0 1 rfl (x := 1) rfl dX11_odd_0 ?_
  refine qr_iconst 1 2 rfl (q_l32 _ rfl) dX11_odd_1 ?_
  refine qw_U 2 5 rfl (av := [qI 3]) ca_X11_need wm_791 wp_35 wm_789 ck11 (by decide +kernel) rfl rfl (Nat.le_of_ble_eq_true rfl) dX11_odd_2 h (fun M1 h => ?_)
  refine qr_aload_n 5 6 rfl (x := 1) rfl dX11_odd_5 ?_
  refine qr_getF 6 9 rfl ck11 13 (by decide) (b := 91) (by decide +kernel) rfl (by decide +kernel) (by decide +kernel) wm_390 rfl dX11_odd_6 ?_
  refine qr_aload_n 9 10 rfl (x := 1) rfl dX11_odd_9 ?_
  refine qr_iconst 10 11 rfl (q_l32 _ rfl) dX11_odd_10 ?_
  refine qw_I 11 14 rfl (av := [qI 1]) ca_X11_goodLinks wm_844 wp_39 wm_842 ck11 (by decide +kernel) rfl rfl (Nat.le_of_ble_eq_true rfl) dX11_odd_11 h (fun v3 M2 h => ?_)
  refine qw_I 14 17 rfl (av := [qI v3]) ca_X6_oddFaces wm_847 wm_848 wm_846 ck6 (by decide +kernel) rfl rfl (Nat.le_of_ble_eq_true rfl) dX11_odd_14 h (fun v5 M4 h => ?_)
  exact qe_i 17 rfl dX11_odd_17 h
theorem dX11_far_0 : decode cX11_far 0 = .ok (.aload_n 0, 1) := by decide +kernel
theorem dX11_far_1 : decode cX11_far 1 = .ok (.iload_n 1, 1) := by decide +kernel
theorem dX11_far_2 : decode cX11_far 2 = .ok (.invokevirtual 298, 3) := by decide +kernel
theorem dX11_far_5 : decode cX11_far 5 = .ok (.ifCond .eq 11, 3) := by decide +kernel
theorem dX11_far_8 : decode cX11_far 8 = .ok (.aload_n 0, 1) := by decide +kernel
theorem dX11_far_9 : decode cX11_far 9 = .ok (.iload_n 2, 1) := by decide +kernel
theorem dX11_far_10 : decode cX11_far 10 = .ok (.invokevirtual 298, 3) := by decide +kernel
theorem dX11_far_13 : decode cX11_far 13 = .ok (.ifCond .ne 6, 3) := by decide +kernel
theorem dX11_far_16 : decode cX11_far 16 = .ok (.bipush (-2), 2) := by decide +kernel
theorem dX11_far_18 : decode cX11_far 18 = .ok (.ireturn, 1) := by decide +kernel
theorem dX11_far_19 : decode cX11_far 19 = .ok (.aload_n 0, 1) := by decide +kernel
theorem dX11_far_20 : decode cX11_far 20 = .ok (.bipush 11, 2) := by decide +kernel
theorem dX11_far_22 : decode cX11_far 22 = .ok (.invokevirtual 153, 3) := by decide +kernel
theorem dX11_far_25 : decode cX11_far 25 = .ok (.aload_n 0, 1) := by decide +kernel
theorem dX11_far_26 : decode cX11_far 26 = .ok (.getfield 77, 3) := by decide +kernel
theorem dX11_far_29 : decode cX11_far 29 = .ok (.iload_n 1, 1) := by decide +kernel
theorem dX11_far_30 : decode cX11_far 30 = .ok (.iload_n 2, 1) := by decide +kernel
theorem dX11_far_31 : decode cX11_far 31 = .ok (.invokevirtual 323, 3) := by decide +kernel
theorem dX11_far_34 : decode cX11_far 34 = .ok (.ireturn, 1) := by decide +kernel
theorem bX11_far_0 {d : Nat} {P : Int → q_Mem → Prop} {M : q_Mem} (x1 x2 : Int) (h : q_kI yX11_hasFace mX11_hasFace d [qR 1, qI x1] M (fun v2 M1 => ((v2 = 0) → P (-2) M1) ∧ ((¬ (v2 = 0)) → q_kI yX11_hasFace mX11_hasFace d [qR 1, qI x2] M1 (fun v4 M3 => ((¬ v4 = 0) → q_kU yX11_need mX11_need d [qR 1, qI 11] M3 (fun M5 => q_kI yX10_heaviness mX10_heaviness d [qR 98, qI x1, qI x2] M5 (fun v7 M6 => P v7 M6))) ∧ ((v4 = 0) → P (-2) M3))))) : q_v mX11_far d (qPI P) M 0 [some (qR 1), some (qI x1), some (qI x2)] [] := by
  refine qr_aload_n 0 1 rfl (x := 1) rfl dX11_far_0 ?_
  refine qr_iload_n 1 2 rfl (x := x1) rfl dX11_far_1 ?_
  refine qw_I 2 5 rfl (av := [qI x1]) ca_X11_hasFace wm_1077 wp_63 wm_1075 ck11 (by decide +kernel) rfl rfl (Nat.le_of_ble_eq_true rfl) dX11_far_2 h (fun v2 M1 h => ?_)
  refine qr_if_eq 5 8 16 rfl (by decide) dX11_far_5 (fun c5 => ?_) (fun c5 => ?_)
  · have h := h.1 c5
    refine qr_bipush 16 18 rfl (q_l32 _ rfl) (by decide) dX11_far_16 ?_
    exact qe_i 18 rfl dX11_far_18 h
  · have h := h.2 c5
    refine qr_aload_n 8 9 rfl (x := 1) rfl dX11_far_8 ?_
    refine qr_iload_n 9 10 rfl (x := x2) rfl dX11_far_9 ?_
    refine qw_I 10 13 rfl (av := [qI x2]) ca_X11_hasFace wm_1077 wp_63 wm_1075 ck11 (by decide +kernel) rfl rfl (Nat.le_of_ble_eq_true rfl) dX11_far_10 h (fun v4 M3 h => ?_)
    refine qr_if_ne 13 16 19 rfl (by decide) dX11_far_13 (fun c13 => ?_) (fun c13 => ?_)
    · have h := h.1 c13
      refine qr_aload_n 19 20 rfl (x := 1) rfl dX11_far_19 ?_
      refine qr_bipush 20 22 rfl (q_l32 _ rfl) (by decide) dX11_far_20 ?_
      refine qw_U 22 25 rfl (av := [qI 11]) ca_X11_need wm_791 wp_35 wm_789 ck11 (by decide +kernel) rfl rfl (Nat.le_of_ble_eq_true rfl) dX11_far_22 h (fun M5 h => ?_)
      refine qr_aload_n 25 26 rfl (x := 1) rfl dX11_far_25 ?_
      refine qr_getF 26 29 rfl ck11 14 (by decide) (b := 98) (by decide +kernel) rfl (by decide +kernel) (by decide +kernel) wm_391 rfl dX11_far_26 ?_
      refine qr_iload_n 29 30 rfl (x := x1) rfl dX11_far_29 ?_
      refine qr_iload_n 30 31 rfl (x := x2) rfl dX11_far_30 ?_
      refine qw_I 31 34 rfl (av := [qI x1, qI x2]) ca_X10_heaviness wm_1101 wm_1102 wm_1100 ck10 (by decide +kernel) rfl rfl (Nat.le_of_ble_eq_true rfl) dX11_far_31 h (fun v7 M6 h => ?_)
      exact qe_i 34 rfl dX11_far_34 h
    · have h := h.2 c13
      refine qr_bipush 16 18 rfl (q_l32 _ rfl) (by decide) dX11_far_16 ?_
      exact qe_i 18 rfl dX11_far_18 h
theorem dX11_across_0 : decode cX11_across 0 = .ok (.aload_n 0, 1) := by decide +kernel
theorem dX11_across_1 : decode cX11_across 1 = .ok (.iload_n 1, 1) := by decide +kernel
theorem dX11_across_2 : decode cX11_across 2 = .ok (.invokevirtual 298, 3) := by decide +kernel
theorem dX11_across_5 : decode cX11_across 5 = .ok (.ifCond .eq 11, 3) := by decide +kernel
theorem dX11_across_8 : decode cX11_across 8 = .ok (.aload_n 0, 1) := by decide +kernel
theorem dX11_across_9 : decode cX11_across 9 = .ok (.iload_n 2, 1) := by decide +kernel
theorem dX11_across_10 : decode cX11_across 10 = .ok (.invokevirtual 298, 3) := by decide +kernel
theorem dX11_across_13 : decode cX11_across 13 = .ok (.ifCond .ne 6, 3) := by decide +kernel
theorem dX11_across_16 : decode cX11_across 16 = .ok (.bipush (-2), 2) := by decide +kernel
theorem dX11_across_18 : decode cX11_across 18 = .ok (.ireturn, 1) := by decide +kernel
theorem dX11_across_19 : decode cX11_across 19 = .ok (.iload_n 3, 1) := by decide +kernel
theorem dX11_across_20 : decode cX11_across 20 = .ok (.ifCond .ge 6, 3) := by decide +kernel
theorem dX11_across_23 : decode cX11_across 23 = .ok (.bipush (-3), 2) := by decide +kernel
theorem dX11_across_25 : decode cX11_across 25 = .ok (.ireturn, 1) := by decide +kernel
theorem dX11_across_26 : decode cX11_across 26 = .ok (.aload_n 0, 1) := by decide +kernel
theorem dX11_across_27 : decode cX11_across 27 = .ok (.bipush 11, 2) := by decide +kernel
theorem dX11_across_29 : decode cX11_across 29 = .ok (.invokevirtual 153, 3) := by decide +kernel
theorem dX11_across_32 : decode cX11_across 32 = .ok (.aload_n 0, 1) := by decide +kernel
theorem dX11_across_33 : decode cX11_across 33 = .ok (.getfield 77, 3) := by decide +kernel
theorem dX11_across_36 : decode cX11_across 36 = .ok (.aload_n 0, 1) := by decide +kernel
theorem dX11_across_37 : decode cX11_across 37 = .ok (.getfield 70, 3) := by decide +kernel
theorem dX11_across_40 : decode cX11_across 40 = .ok (.iload_n 1, 1) := by decide +kernel
theorem dX11_across_41 : decode cX11_across 41 = .ok (.iload_n 2, 1) := by decide +kernel
theorem dX11_across_42 : decode cX11_across 42 = .ok (.iload_n 3, 1) := by decide +kernel
theorem dX11_across_43 : decode cX11_across 43 = .ok (.invokevirtual 326, 3) := by decide +kernel
theorem dX11_across_46 : decode cX11_across 46 = .ok (.ireturn, 1) := by decide +kernel
theorem bX11_across_0 {d : Nat} {P : Int → q_Mem → Prop} {M : q_Mem} (x1 x2 x3 : Int) (h : q_kI yX11_hasFace mX11_hasFace d [qR 1, qI x1] M (fun v2 M1 => ((v2 = 0) → P (-2) M1) ∧ ((¬ (v2 = 0)) → q_kI yX11_hasFace mX11_hasFace d [qR 1, qI x2] M1 (fun v4 M3 => ((¬ v4 = 0) → ((0 ≤ x3) → q_kU yX11_need mX11_need d [qR 1, qI 11] M3 (fun M5 => q_kI yX10_crossed mX10_crossed d [qR 98, qR 91, qI x1, qI x2, qI x3] M5 (fun v7 M6 => P v7 M6))) ∧ ((¬ (0 ≤ x3)) → P (-3) M3)) ∧ ((v4 = 0) → P (-2) M3))))) : q_v mX11_across d (qPI P) M 0 [some (qR 1), some (qI x1), some (qI x2), some (qI x3)] [] := by
  refine qr_aload_n 0 1 rfl (x := 1) rfl dX11_across_0 ?_
  refine qr_iload_n 1 2 rfl (x := x1) rfl dX11_across_1 ?_
  refine qw_I 2 5 rfl (av := [qI x1]) ca_X11_hasFace wm_1077 wp_63 wm_1075 ck11 (by decide +kernel) rfl rfl (Nat.le_of_ble_eq_true rfl) dX11_across_2 h (fun v2 M1 h => ?_)
  refine qr_if_eq 5 8 16 rfl (by decide) dX11_across_5 (fun c5 => ?_) (fun c5 => ?_)
  · have h := h.1 c5
    refine qr_bipush 16 18 rfl (q_l32 _ rfl) (by decide) dX11_across_16 ?_
    exact qe_i 18 rfl dX11_across_18 h
  · have h := h.2 c5
    refine qr_aload_n 8 9 rfl (x := 1) rfl dX11_across_8 ?_
    refine qr_iload_n 9 10 rfl (x := x2) rfl dX11_across_9 ?_
    refine qw_I 10 13 rfl (av := [qI x2]) ca_X11_hasFace wm_1077 wp_63 wm_1075 ck11 (by decide +kernel) rfl rfl (Nat.le_of_ble_eq_true rfl) dX11_across_10 h (fun v4 M3 h => ?_)
    refine qr_if_ne 13 16 19 rfl (by decide) dX11_across_13 (fun c13 => ?_) (fun c13 => ?_)
    · have h := h.1 c13
      refine qr_iload_n 19 20 rfl (x := x3) rfl dX11_across_19 ?_
      refine qr_if_ge 20 23 26 rfl (by decide) dX11_across_20 (fun c20 => ?_) (fun c20 => ?_)
      · have h := h.1 c20
        refine qr_aload_n 26 27 rfl (x := 1) rfl dX11_across_26 ?_
        refine qr_bipush 27 29 rfl (q_l32 _ rfl) (by decide) dX11_across_27 ?_
        refine qw_U 29 32 rfl (av := [qI 11]) ca_X11_need wm_791 wp_35 wm_789 ck11 (by decide +kernel) rfl rfl (Nat.le_of_ble_eq_true rfl) dX11_across_29 h (fun M5 h => ?_)
        refine qr_aload_n 32 33 rfl (x := 1) rfl dX11_across_32 ?_
        refine qr_getF 33 36 rfl ck11 14 (by decide) (b := 98) (by decide +kernel) rfl (by decide +kernel) (by decide +kernel) wm_391 rfl dX11_across_33 ?_
        refine qr_aload_n 36 37 rfl (x := 1) rfl dX11_across_36 ?_
        refine qr_getF 37 40 rfl ck11 13 (by decide) (b := 91) (by decide +kernel) rfl (by decide +kernel) (by decide +kernel) wm_390 rfl dX11_across_37 ?_
        refine qr_iload_n 40 41 rfl (x := x1) rfl dX11_across_40 ?_
        refine qr_iload_n 41 42 rfl (x := x2) rfl dX11_across_41 ?_
        refine qr_iload_n 42 43 rfl (x := x3) rfl dX11_across_42 ?_
        refine qw_I 43 46 rfl (av := [qR 91, qI x1, qI x2, qI x3]) ca_X10_crossed wm_1109 wm_1110 wm_1108 ck10 (by decide +kernel) rfl rfl (Nat.le_of_ble_eq_true rfl) dX11_across_43 h (fun v7 M6 h => ?_)
        exact qe_i 46 rfl dX11_across_46 h
      · have h := h.2 c20
        refine qr_bipush 23 25 rfl (q_l32 _ rfl) (by decide) dX11_across_23 ?_
        exact qe_i 25 rfl dX11_across_25 h
    · have h := h.2 c13
      refine qr_bipush 16 18 rfl (q_l32 _ rfl) (by decide) dX11_across_16 ?_
      exact qe_i 18 rfl dX11_across_18 h
theorem dX11_hasFace_0 : decode cX11_hasFace 0 = .ok (.aload_n 0, 1) := by decide +kernel
theorem dX11_hasFace_1 : decode cX11_hasFace 1 = .ok (.invokevirtual 146, 3) := by decide +kernel
theorem dX11_hasFace_4 : decode cX11_hasFace 4 = .ok (.iload_n 1, 1) := by decide +kernel
theorem dX11_hasFace_5 : decode cX11_hasFace 5 = .ok (.ifCond .lt 18, 3) := by decide +kernel
theorem dX11_hasFace_8 : decode cX11_hasFace 8 = .ok (.iload_n 1, 1) := by decide +kernel
theorem dX11_hasFace_9 : decode cX11_hasFace 9 = .ok (.aload_n 0, 1) := by decide +kernel
theorem dX11_hasFace_10 : decode cX11_hasFace 10 = .ok (.getfield 70, 3) := by decide +kernel
theorem dX11_hasFace_13 : decode cX11_hasFace 13 = .ok (.getfield 295, 3) := by decide +kernel
theorem dX11_hasFace_16 : decode cX11_hasFace 16 = .ok (.if_icmp .ge 7, 3) := by decide +kernel
theorem dX11_hasFace_19 : decode cX11_hasFace 19 = .ok (.iconst 1, 1) := by decide +kernel
theorem dX11_hasFace_20 : decode cX11_hasFace 20 = .ok (.goto 4, 3) := by decide +kernel
theorem dX11_hasFace_23 : decode cX11_hasFace 23 = .ok (.iconst 0, 1) := by decide +kernel
theorem dX11_hasFace_24 : decode cX11_hasFace 24 = .ok (.ireturn, 1) := by decide +kernel
theorem bX11_hasFace_0 {d : Nat} {P : Int → q_Mem → Prop} {M : q_Mem} (x1 : Int) (h : q_kU yX11_needShape mX11_needShape d [qR 1] M (fun M1 => ((x1 < 0) → P 0 M1) ∧ ((¬ (x1 < 0)) → (((M1 91 0) ≤ x1) → P 0 M1) ∧ ((¬ ((M1 91 0) ≤ x1)) → P 1 M1)))) : q_v mX11_hasFace d (qPI P) M 0 [some (qR 1), some (qI x1)] [] := by
  refine qr_aload_n 0 1 rfl (x := 1) rfl dX11_hasFace_0 ?_
  refine qw_U 1 4 rfl (av := []) ca_X11_needShape wm_755 wp_29 wm_753 ck11 (by decide +kernel) rfl rfl (Nat.le_of_ble_eq_true rfl) dX11_hasFace_1 h (fun M1 h => ?_)
  refine qr_iload_n 4 5 rfl (x := x1) rfl dX11_hasFace_4 ?_
  refine qr_if_lt 5 8 23 rfl (by decide) dX11_hasFace_5 (fun c5 => ?_) (fun c5 => ?_)
  · have h := h.1 c5
    refine qr_iconst 23 24 rfl (q_l32 _ rfl) dX11_hasFace_23 ?_
    exact qe_z 24 rfl (by decide) dX11_hasFace_24 h
  · have h := h.2 c5
    refine qr_iload_n 8 9 rfl (x := x1) rfl dX11_hasFace_8 ?_
    refine qr_aload_n 9 10 rfl (x := 1) rfl dX11_hasFace_9 ?_
    refine qr_getF 10 13 rfl ck11 13 (by decide) (b := 91) (by decide +kernel) rfl (by decide +kernel) (by decide +kernel) wm_390 rfl dX11_hasFace_10 ?_
    refine qg_i 13 16 rfl ck6 0 (kk := 0) (by decide) (by decide +kernel) (by decide +kernel) rfl wm_218 rfl dX11_hasFace_13 ?_
    refine qr_icmp_ge 16 19 23 rfl (by decide) dX11_hasFace_16 (fun c16 => ?_) (fun c16 => ?_)
    · have h := h.1 c16
      refine qr_iconst 23 24 rfl (q_l32 _ rfl) dX11_hasFace_23 ?_
      exact qe_z 24 rfl (by decide) dX11_hasFace_24 h
    · have h := h.2 c16
      refine qr_iconst 19 20 rfl (q_l32 _ rfl) dX11_hasFace_19 ?_
      refine qr_goto 20 24 (by decide) dX11_hasFace_20 ?_
      exact qe_z 24 rfl (by decide) dX11_hasFace_24 h
theorem dX11_isFlat_0 : decode cX11_isFlat 0 = .ok (.aload_n 0, 1) := by decide +kernel
theorem dX11_isFlat_1 : decode cX11_isFlat 1 = .ok (.invokevirtual 146, 3) := by decide +kernel
theorem dX11_isFlat_4 : decode cX11_isFlat 4 = .ok (.aload_n 0, 1) := by decide +kernel
theorem dX11_isFlat_5 : decode cX11_isFlat 5 = .ok (.getfield 70, 3) := by decide +kernel
theorem dX11_isFlat_8 : decode cX11_isFlat 8 = .ok (.getfield 265, 3) := by decide +kernel
theorem dX11_isFlat_11 : decode cX11_isFlat 11 = .ok (.ifCond .ne 7, 3) := by decide +kernel
theorem dX11_isFlat_14 : decode cX11_isFlat 14 = .ok (.iconst 1, 1) := by decide +kernel
theorem dX11_isFlat_15 : decode cX11_isFlat 15 = .ok (.goto 4, 3) := by decide +kernel
theorem dX11_isFlat_18 : decode cX11_isFlat 18 = .ok (.iconst 0, 1) := by decide +kernel
theorem dX11_isFlat_19 : decode cX11_isFlat 19 = .ok (.ireturn, 1) := by decide +kernel
theorem bX11_isFlat_0 {d : Nat} {P : Int → q_Mem → Prop} {M : q_Mem} (h : q_kU yX11_needShape mX11_needShape d [qR 1] M (fun M1 => ((¬ (M1 91 2) = 0) → P 0 M1) ∧ (((M1 91 2) = 0) → P 1 M1))) : q_v mX11_isFlat d (qPI P) M 0 [some (qR 1)] [] := by
  refine qr_aload_n 0 1 rfl (x := 1) rfl dX11_isFlat_0 ?_
  refine qw_U 1 4 rfl (av := []) ca_X11_needShape wm_755 wp_29 wm_753 ck11 (by decide +kernel) rfl rfl (Nat.le_of_ble_eq_true rfl) dX11_isFlat_1 h (fun M1 h => ?_)
  refine qr_aload_n 4 5 rfl (x := 1) rfl dX11_isFlat_4 ?_
  refine qr_getF 5 8 rfl ck11 13 (by decide) (b := 91) (by decide +kernel) rfl (by decide +kernel) (by decide +kernel) wm_390 rfl dX11_isFlat_5 ?_
  refine qg_i 8 11 rfl ck6 2 (kk := 2) (by decide) (by decide +kernel) (by decide +kernel) rfl wm_222 rfl dX11_isFlat_8 ?_
  refine qr_if_ne 11 14 18 rfl (by decide) dX11_isFlat_11 (fun c11 => ?_) (fun c11 => ?_)
  · have h := h.1 c11
    refine qr_iconst 18 19 rfl (q_l32 _ rfl) dX11_isFlat_18 ?_
    exact qe_z 19 rfl (by decide) dX11_isFlat_19 h
  · have h := h.2 c11
    refine qr_iconst 14 15 rfl (q_l32 _ rfl) dX11_isFlat_14 ?_
    refine qr_goto 15 19 (by decide) dX11_isFlat_15 ?_
    exact qe_z 19 rfl (by decide) dX11_isFlat_19 h
theorem dX11_need_0 : decode cX11_need 0 = .ok (.iload_n 1, 1) := by decide +kernel
theorem dX11_need_1 : decode cX11_need 1 = .ok (.aload_n 0, 1) := by decide +kernel
theorem dX11_need_2 : decode cX11_need 2 = .ok (.getfield 130, 3) := by decide +kernel
theorem dX11_need_5 : decode cX11_need 5 = .ok (.iconst (-1), 1) := by decide +kernel
theorem dX11_need_6 : decode cX11_need 6 = .ok (.ixor, 1) := by decide +kernel
theorem dX11_need_7 : decode cX11_need 7 = .ok (.iand, 1) := by decide +kernel
theorem dX11_need_8 : decode cX11_need 8 = .ok (.istore_n 2, 1) := by decide +kernel
theorem dX11_need_9 : decode cX11_need 9 = .ok (.iload_n 2, 1) := by decide +kernel
theorem dX11_need_10 : decode cX11_need 10 = .ok (.iconst 1, 1) := by decide +kernel
theorem dX11_need_11 : decode cX11_need 11 = .ok (.iand, 1) := by decide +kernel
theorem dX11_need_12 : decode cX11_need 12 = .ok (.ifCond .eq 7, 3) := by decide +kernel
theorem dX11_need_15 : decode cX11_need 15 = .ok (.aload_n 0, 1) := by decide +kernel
theorem dX11_need_16 : decode cX11_need 16 = .ok (.invokevirtual 146, 3) := by decide +kernel
theorem dX11_need_19 : decode cX11_need 19 = .ok (.iload_n 2, 1) := by decide +kernel
theorem dX11_need_20 : decode cX11_need 20 = .ok (.iconst 2, 1) := by decide +kernel
theorem dX11_need_21 : decode cX11_need 21 = .ok (.iand, 1) := by decide +kernel
theorem dX11_need_22 : decode cX11_need 22 = .ok (.ifCond .eq 7, 3) := by decide +kernel
theorem dX11_need_25 : decode cX11_need 25 = .ok (.aload_n 0, 1) := by decide +kernel
theorem dX11_need_26 : decode cX11_need 26 = .ok (.invokevirtual 330, 3) := by decide +kernel
theorem dX11_need_29 : decode cX11_need 29 = .ok (.iload_n 2, 1) := by decide +kernel
theorem dX11_need_30 : decode cX11_need 30 = .ok (.iconst 4, 1) := by decide +kernel
theorem dX11_need_31 : decode cX11_need 31 = .ok (.iand, 1) := by decide +kernel
theorem dX11_need_32 : decode cX11_need 32 = .ok (.ifCond .eq 18, 3) := by decide +kernel
theorem dX11_need_35 : decode cX11_need 35 = .ok (.aload_n 0, 1) := by decide +kernel
theorem dX11_need_36 : decode cX11_need 36 = .ok (.getfield 84, 3) := by decide +kernel
theorem dX11_need_39 : decode cX11_need 39 = .ok (.aload_n 0, 1) := by decide +kernel
theorem dX11_need_40 : decode cX11_need 40 = .ok (.getfield 20, 3) := by decide +kernel
theorem dX11_need_43 : decode cX11_need 43 = .ok (.aload_n 0, 1) := by decide +kernel
theorem dX11_need_44 : decode cX11_need 44 = .ok (.getfield 63, 3) := by decide +kernel
theorem dX11_need_47 : decode cX11_need 47 = .ok (.invokevirtual 333, 3) := by decide +kernel
theorem dX11_need_50 : decode cX11_need 50 = .ok (.iload_n 2, 1) := by decide +kernel
theorem dX11_need_51 : decode cX11_need 51 = .ok (.bipush 8, 2) := by decide +kernel
theorem dX11_need_53 : decode cX11_need 53 = .ok (.iand, 1) := by decide +kernel
theorem dX11_need_54 : decode cX11_need 54 = .ok (.ifCond .eq 25, 3) := by decide +kernel
theorem dX11_need_57 : decode cX11_need 57 = .ok (.aload_n 0, 1) := by decide +kernel
theorem dX11_need_58 : decode cX11_need 58 = .ok (.getfield 77, 3) := by decide +kernel
theorem dX11_need_61 : decode cX11_need 61 = .ok (.aload_n 0, 1) := by decide +kernel
theorem dX11_need_62 : decode cX11_need 62 = .ok (.getfield 70, 3) := by decide +kernel
theorem dX11_need_65 : decode cX11_need 65 = .ok (.aload_n 0, 1) := by decide +kernel
theorem dX11_need_66 : decode cX11_need 66 = .ok (.getfield 20, 3) := by decide +kernel
theorem dX11_need_69 : decode cX11_need 69 = .ok (.getfield 165, 3) := by decide +kernel
theorem dX11_need_72 : decode cX11_need 72 = .ok (.aload_n 0, 1) := by decide +kernel
theorem dX11_need_73 : decode cX11_need 73 = .ok (.getfield 63, 3) := by decide +kernel
theorem dX11_need_76 : decode cX11_need 76 = .ok (.invokevirtual 337, 3) := by decide +kernel
theorem dX11_need_79 : decode cX11_need 79 = .ok (.iload_n 2, 1) := by decide +kernel
theorem dX11_need_80 : decode cX11_need 80 = .ok (.bipush 16, 2) := by decide +kernel
theorem dX11_need_82 : decode cX11_need 82 = .ok (.iand, 1) := by decide +kernel
theorem dX11_need_83 : decode cX11_need 83 = .ok (.ifCond .eq 30, 3) := by decide +kernel
theorem dX11_need_86 : decode cX11_need 86 = .ok (.aload_n 0, 1) := by decide +kernel
theorem dX11_need_87 : decode cX11_need 87 = .ok (.getfield 96, 3) := by decide +kernel
theorem dX11_need_90 : decode cX11_need 90 = .ok (.aload_n 0, 1) := by decide +kernel
theorem dX11_need_91 : decode cX11_need 91 = .ok (.getfield 70, 3) := by decide +kernel
theorem dX11_need_94 : decode cX11_need 94 = .ok (.aload_n 0, 1) := by decide +kernel
theorem dX11_need_95 : decode cX11_need 95 = .ok (.getfield 77, 3) := by decide +kernel
theorem dX11_need_98 : decode cX11_need 98 = .ok (.aload_n 0, 1) := by decide +kernel
theorem dX11_need_99 : decode cX11_need 99 = .ok (.getfield 70, 3) := by decide +kernel
theorem dX11_need_102 : decode cX11_need 102 = .ok (.aload_n 0, 1) := by decide +kernel
theorem dX11_need_103 : decode cX11_need 103 = .ok (.iconst 1, 1) := by decide +kernel
theorem dX11_need_104 : decode cX11_need 104 = .ok (.invokevirtual 307, 3) := by decide +kernel
theorem dX11_need_107 : decode cX11_need 107 = .ok (.invokevirtual 310, 3) := by decide +kernel
theorem dX11_need_110 : decode cX11_need 110 = .ok (.invokevirtual 340, 3) := by decide +kernel
theorem dX11_need_113 : decode cX11_need 113 = .ok (.iload_n 2, 1) := by decide +kernel
theorem dX11_need_114 : decode cX11_need 114 = .ok (.bipush 32, 2) := by decide +kernel
theorem dX11_need_116 : decode cX11_need 116 = .ok (.iand, 1) := by decide +kernel
theorem dX11_need_117 : decode cX11_need 117 = .ok (.ifCond .eq 30, 3) := by decide +kernel
theorem dX11_need_120 : decode cX11_need 120 = .ok (.aload_n 0, 1) := by decide +kernel
theorem dX11_need_121 : decode cX11_need 121 = .ok (.getfield 100, 3) := by decide +kernel
theorem dX11_need_124 : decode cX11_need 124 = .ok (.aload_n 0, 1) := by decide +kernel
theorem dX11_need_125 : decode cX11_need 125 = .ok (.getfield 70, 3) := by decide +kernel
theorem dX11_need_128 : decode cX11_need 128 = .ok (.aload_n 0, 1) := by decide +kernel
theorem dX11_need_129 : decode cX11_need 129 = .ok (.getfield 77, 3) := by decide +kernel
theorem dX11_need_132 : decode cX11_need 132 = .ok (.aload_n 0, 1) := by decide +kernel
theorem dX11_need_133 : decode cX11_need 133 = .ok (.getfield 70, 3) := by decide +kernel
theorem dX11_need_136 : decode cX11_need 136 = .ok (.aload_n 0, 1) := by decide +kernel
theorem dX11_need_137 : decode cX11_need 137 = .ok (.iconst (-1), 1) := by decide +kernel
theorem dX11_need_138 : decode cX11_need 138 = .ok (.invokevirtual 307, 3) := by decide +kernel
theorem dX11_need_141 : decode cX11_need 141 = .ok (.invokevirtual 310, 3) := by decide +kernel
theorem dX11_need_144 : decode cX11_need 144 = .ok (.invokevirtual 340, 3) := by decide +kernel
theorem dX11_need_147 : decode cX11_need 147 = .ok (.aload_n 0, 1) := by decide +kernel
theorem dX11_need_148 : decode cX11_need 148 = .ok (.dup, 1) := by decide +kernel
theorem dX11_need_149 : decode cX11_need 149 = .ok (.getfield 130, 3) := by decide +kernel
theorem dX11_need_152 : decode cX11_need 152 = .ok (.iload_n 1, 1) := by decide +kernel
theorem dX11_need_153 : decode cX11_need 153 = .ok (.ior, 1) := by decide +kernel
theorem dX11_need_154 : decode cX11_need 154 = .ok (.putfield 130, 3) := by decide +kernel
theorem dX11_need_157 : decode cX11_need 157 = .ok (.return_, 1) := by decide +kernel
theorem bX11_need_0 {d : Nat} {P : q_Mem → Prop} {M : q_Mem} (x1 : Int) (h : ∀ x2_1 : Int, x2_1 = (q_and x1 (q_xor (M 1 18) (-1))) → (((q_and x2_1 1) = 0) → q_v mX11_need d (qPU P) M 19 [some (qR 1), some (qI x1), some (qI x2_1)] []) ∧ ((¬ ((q_and x2_1 1) = 0)) → q_kU yX11_needShape mX11_needShape d [qR 1] M (fun M2 => q_v mX11_need d (qPU P) M2 19 [some (qR 1), some (qI x1), some (qI x2_1)] []))) : q_v mX11_need d (qPU P) M 0 [some (qR 1), some (qI x1), none] [] := by
  refine qr_iload_n 0 1 rfl (x := x1) rfl dX11_need_0 ?_
  refine qr_aload_n 1 2 rfl (x := 1) rfl dX11_need_1 ?_
  refine qg_i 2 5 rfl ck11 18 (kk := 18) (by decide) (by decide +kernel) (by decide +kernel) rfl wm_395 rfl dX11_need_2 ?_
  refine qr_iconst 5 6 rfl (q_l32 _ rfl) dX11_need_5 ?_
  refine qr_ixor 6 7 rfl dX11_need_6 ?_
  refine qr_iand 7 8 rfl dX11_need_7 ?_
  refine qn_i 8 (fun x2_1 e_x2_1 => ?_)
  have h := h x2_1 e_x2_1
  refine qr_istore_n 8 9 rfl (by decide) rfl rfl dX11_need_8 ?_
  refine qr_iload_n 9 10 rfl (x := x2_1) rfl dX11_need_9 ?_
  refine qr_iconst 10 11 rfl (q_l32 _ rfl) dX11_need_10 ?_
  refine qr_iand 11 12 rfl dX11_need_11 ?_
  refine qr_if_eq 12 15 19 rfl (by decide) dX11_need_12 (fun c12 => ?_) (fun c12 => ?_)
  · have h := h.1 c12
    exact h
  · have h := h.2 c12
    refine qr_aload_n 15 16 rfl (x := 1) rfl dX11_need_15 ?_
    refine qw_U 16 19 rfl (av := []) ca_X11_needShape wm_755 wp_29 wm_753 ck11 (by decide +kernel) rfl rfl (Nat.le_of_ble_eq_true rfl) dX11_need_16 h (fun M2 h => ?_)
    exact h
theorem bX11_need_19 {d : Nat} {P : q_Mem → Prop} {M : q_Mem} (x1 x2 : Int) (h : (((q_and x2 2) = 0) → q_v mX11_need d (qPU P) M 29 [some (qR 1), some (qI x1), some (qI x2)] []) ∧ ((¬ ((q_and x2 2) = 0)) → q_kU yX11_weighAll mX11_weighAll d [qR 1] M (fun M1 => q_v mX11_need d (qPU P) M1 29 [some (qR 1), some (qI x1), some (qI x2)] []))) : q_v mX11_need d (qPU P) M 19 [some (qR 1), some (qI x1), some (qI x2)] [] := by
  refine qr_iload_n 19 20 rfl (x := x2) rfl dX11_need_19 ?_
  refine qr_iconst 20 21 rfl (q_l32 _ rfl) dX11_need_20 ?_
  refine qr_iand 21 22 rfl dX11_need_21 ?_
  refine qr_if_eq 22 25 29 rfl (by decide) dX11_need_22 (fun c22 => ?_) (fun c22 => ?_)
  · have h := h.1 c22
    exact h
  · have h := h.2 c22
    refine qr_aload_n 25 26 rfl (x := 1) rfl dX11_need_25 ?_
    refine qw_U 26 29 rfl (av := []) ca_X11_weighAll wm_795 wp_36 wm_793 ck11 (by decide +kernel) rfl rfl (Nat.le_of_ble_eq_true rfl) dX11_need_26 h (fun M1 h => ?_)
    exact h
theorem bX11_need_29 {d : Nat} {P : q_Mem → Prop} {M : q_Mem} (x1 x2 : Int) (h : (((q_and x2 4) = 0) → q_v mX11_need d (qPU P) M 50 [some (qR 1), some (qI x1), some (qI x2)] []) ∧ ((¬ ((q_and x2 4) = 0)) → q_kU yX8_workOut mX8_workOut d [qR 117, qR (M 1 4), qR 90] M (fun M1 => q_v mX11_need d (qPU P) M1 50 [some (qR 1), some (qI x1), some (qI x2)] []))) : q_v mX11_need d (qPU P) M 29 [some (qR 1), some (qI x1), some (qI x2)] [] := by
  refine qr_iload_n 29 30 rfl (x := x2) rfl dX11_need_29 ?_
  refine qr_iconst 30 31 rfl (q_l32 _ rfl) dX11_need_30 ?_
  refine qr_iand 31 32 rfl dX11_need_31 ?_
  refine qr_if_eq 32 35 50 rfl (by decide) dX11_need_32 (fun c32 => ?_) (fun c32 => ?_)
  · have h := h.1 c32
    exact h
  · have h := h.2 c32
    refine qr_aload_n 35 36 rfl (x := 1) rfl dX11_need_35 ?_
    refine qr_getF 36 39 rfl ck11 17 (by decide) (b := 117) (by decide +kernel) rfl (by decide +kernel) (by decide +kernel) wm_394 rfl dX11_need_36 ?_
    refine qr_aload_n 39 40 rfl (x := 1) rfl dX11_need_39 ?_
    refine qg_r 40 43 rfl ck11 4 (kk := 4) (by decide) (by decide +kernel) (by decide +kernel) rfl wm_381 rfl dX11_need_40 ?_
    refine qr_aload_n 43 44 rfl (x := 1) rfl dX11_need_43 ?_
    refine qr_getF 44 47 rfl ck11 12 (by decide) (b := 90) (by decide +kernel) rfl (by decide +kernel) (by decide +kernel) wm_389 rfl dX11_need_44 ?_
    refine qw_U 47 50 rfl (av := [qR (M 1 4), qR 90]) ca_X8_workOut wm_823 wm_824 wm_822 ck8 (by decide +kernel) rfl rfl (Nat.le_of_ble_eq_true rfl) dX11_need_47 h (fun M1 h => ?_)
    exact h
theorem bX11_need_50 {d : Nat} {P : q_Mem → Prop} {M : q_Mem} (x1 x2 : Int) (h : (((q_and x2 8) = 0) → q_v mX11_need d (qPU P) M 79 [some (qR 1), some (qI x1), some (qI x2)] []) ∧ ((¬ ((q_and x2 8) = 0)) → q_kd (M 1 4) = 4 ∧ (q_kU yX10_workOut mX10_workOut d [qR 98, qR 91, qI (M (M 1 4) 1), qR 90] M (fun M2 => q_v mX11_need d (qPU P) M2 79 [some (qR 1), some (qI x1), some (qI x2)] [])))) : q_v mX11_need d (qPU P) M 50 [some (qR 1), some (qI x1), some (qI x2)] [] := by
  refine qr_iload_n 50 51 rfl (x := x2) rfl dX11_need_50 ?_
  refine qr_bipush 51 53 rfl (q_l32 _ rfl) (by decide) dX11_need_51 ?_
  refine qr_iand 53 54 rfl dX11_need_53 ?_
  refine qr_if_eq 54 57 79 rfl (by decide) dX11_need_54 (fun c54 => ?_) (fun c54 => ?_)
  · have h := h.1 c54
    exact h
  · have h := h.2 c54
    refine qr_aload_n 57 58 rfl (x := 1) rfl dX11_need_57 ?_
    refine qr_getF 58 61 rfl ck11 14 (by decide) (b := 98) (by decide +kernel) rfl (by decide +kernel) (by decide +kernel) wm_391 rfl dX11_need_58 ?_
    refine qr_aload_n 61 62 rfl (x := 1) rfl dX11_need_61 ?_
    refine qr_getF 62 65 rfl ck11 13 (by decide) (b := 91) (by decide +kernel) rfl (by decide +kernel) (by decide +kernel) wm_390 rfl dX11_need_62 ?_
    refine qr_aload_n 65 66 rfl (x := 1) rfl dX11_need_65 ?_
    refine qg_r 66 69 rfl ck11 4 (kk := 4) (by decide) (by decide +kernel) (by decide +kernel) rfl wm_381 rfl dX11_need_66 ?_
    have hk1 := h.1
    have h := h.2
    refine qg_i 69 72 rfl ck4 1 (kk := 1) (by decide) hk1 (by decide +kernel) rfl wm_68 rfl dX11_need_69 ?_
    refine qr_aload_n 72 73 rfl (x := 1) rfl dX11_need_72 ?_
    refine qr_getF 73 76 rfl ck11 12 (by decide) (b := 90) (by decide +kernel) rfl (by decide +kernel) (by decide +kernel) wm_389 rfl dX11_need_73 ?_
    refine qw_U 76 79 rfl (av := [qR 91, qI (M (M 1 4) 1), qR 90]) ca_X10_workOut wm_829 wm_830 wm_828 ck10 (by decide +kernel) rfl rfl (Nat.le_of_ble_eq_true rfl) dX11_need_76 h (fun M2 h => ?_)
    exact h
theorem bX11_need_79 {d : Nat} {P : q_Mem → Prop} {M : q_Mem} (x1 x2 : Int) (h : (((q_and x2 16) = 0) → q_v mX11_need d (qPU P) M 113 [some (qR 1), some (qI x1), some (qI x2)] []) ∧ ((¬ ((q_and x2 16) = 0)) → q_kI yX11_goodLinks mX11_goodLinks d [qR 1, qI 1] M (fun v2 M1 => q_kI yX6_oddFaces mX6_oddFaces d [qR 91, qI v2] M1 (fun v4 M3 => q_kU yX3_workOut mX3_workOut d [qR 170, qR 91, qR 98, qI v4] M3 (fun M5 => q_v mX11_need d (qPU P) M5 113 [some (qR 1), some (qI x1), some (qI x2)] []))))) : q_v mX11_need d (qPU P) M 79 [some (qR 1), some (qI x1), some (qI x2)] [] := by
  refine qr_iload_n 79 80 rfl (x := x2) rfl dX11_need_79 ?_
  refine qr_bipush 80 82 rfl (q_l32 _ rfl) (by decide) dX11_need_80 ?_
  refine qr_iand 82 83 rfl dX11_need_82 ?_
  refine qr_if_eq 83 86 113 rfl (by decide) dX11_need_83 (fun c83 => ?_) (fun c83 => ?_)
  · have h := h.1 c83
    exact h
  · have h := h.2 c83
    refine qr_aload_n 86 87 rfl (x := 1) rfl dX11_need_86 ?_
    refine qr_getF 87 90 rfl ck11 15 (by decide) (b := 170) (by decide +kernel) rfl (by decide +kernel) (by decide +kernel) wm_392 rfl dX11_need_87 ?_
    refine qr_aload_n 90 91 rfl (x := 1) rfl dX11_need_90 ?_
    refine qr_getF 91 94 rfl ck11 13 (by decide) (b := 91) (by decide +kernel) rfl (by decide +kernel) (by decide +kernel) wm_390 rfl dX11_need_91 ?_
    refine qr_aload_n 94 95 rfl (x := 1) rfl dX11_need_94 ?_
    refine qr_getF 95 98 rfl ck11 14 (by decide) (b := 98) (by decide +kernel) rfl (by decide +kernel) (by decide +kernel) wm_391 rfl dX11_need_95 ?_
    refine qr_aload_n 98 99 rfl (x := 1) rfl dX11_need_98 ?_
    refine qr_getF 99 102 rfl ck11 13 (by decide) (b := 91) (by decide +kernel) rfl (by decide +kernel) (by decide +kernel) wm_390 rfl dX11_need_99 ?_
    refine qr_aload_n 102 103 rfl (x := 1) rfl dX11_need_102 ?_
    refine qr_iconst 103 104 rfl (q_l32 _ rfl) dX11_need_103 ?_
    refine qw_I 104 107 rfl (av := [qI 1]) ca_X11_goodLinks wm_844 wp_39 wm_842 ck11 (by decide +kernel) rfl rfl (Nat.le_of_ble_eq_true rfl) dX11_need_104 h (fun v2 M1 h => ?_)
    refine qw_I 107 110 rfl (av := [qI v2]) ca_X6_oddFaces wm_847 wm_848 wm_846 ck6 (by decide +kernel) rfl rfl (Nat.le_of_ble_eq_true rfl) dX11_need_107 h (fun v4 M3 h => ?_)
    refine qw_U 110 113 rfl (av := [qR 91, qR 98, qI v4]) ca_X3_workOut wm_851 wm_852 wm_850 ck3 (by decide +kernel) rfl rfl (Nat.le_of_ble_eq_true rfl) dX11_need_110 h (fun M5 h => ?_)
    exact h
theorem bX11_need_113 {d : Nat} {P : q_Mem → Prop} {M : q_Mem} (x1 x2 : Int) (h : (((q_and x2 32) = 0) → (∀ M1 : q_Mem, M1 = q_up M 1 18 (q_or (M 1 18) x1) → P M1)) ∧ ((¬ ((q_and x2 32) = 0)) → q_kI yX11_goodLinks mX11_goodLinks d [qR 1, qI (-1)] M (fun v3 M2 => q_kI yX6_oddFaces mX6_oddFaces d [qR 91, qI v3] M2 (fun v5 M4 => q_kU yX3_workOut mX3_workOut d [qR 174, qR 91, qR 98, qI v5] M4 (fun M6 => (∀ M7 : q_Mem, M7 = q_up M6 1 18 (q_or (M6 1 18) x1) → P M7)))))) : q_v mX11_need d (qPU P) M 113 [some (qR 1), some (qI x1), some (qI x2)] [] := by
  refine qr_iload_n 113 114 rfl (x := x2) rfl dX11_need_113 ?_
  refine qr_bipush 114 116 rfl (q_l32 _ rfl) (by decide) dX11_need_114 ?_
  refine qr_iand 116 117 rfl dX11_need_116 ?_
  refine qr_if_eq 117 120 147 rfl (by decide) dX11_need_117 (fun c117 => ?_) (fun c117 => ?_)
  · have h := h.1 c117
    refine qr_aload_n 147 148 rfl (x := 1) rfl dX11_need_147 ?_
    refine qr_dup 148 149 rfl rfl dX11_need_148 ?_
    refine qg_i 149 152 rfl ck11 18 (kk := 18) (by decide) (by decide +kernel) (by decide +kernel) rfl wm_395 rfl dX11_need_149 ?_
    refine qr_iload_n 152 153 rfl (x := x1) rfl dX11_need_152 ?_
    refine qr_ior 153 154 rfl dX11_need_153 ?_
    refine qp_i 154 157 rfl ck11 18 (kk := 18) (by decide) (by decide +kernel) (by decide) rfl rfl wm_395 rfl dX11_need_154 (fun M1 e_M1 => ?_)
    have h := h M1 e_M1
    exact qe_u 157 rfl dX11_need_157 h
  · have h := h.2 c117
    refine qr_aload_n 120 121 rfl (x := 1) rfl dX11_need_120 ?_
    refine qr_getF 121 124 rfl ck11 16 (by decide) (b := 174) (by decide +kernel) rfl (by decide +kernel) (by decide +kernel) wm_393 rfl dX11_need_121 ?_
    refine qr_aload_n 124 125 rfl (x := 1) rfl dX11_need_124 ?_
    refine qr_getF 125 128 rfl ck11 13 (by decide) (b := 91) (by decide +kernel) rfl (by decide +kernel) (by decide +kernel) wm_390 rfl dX11_need_125 ?_
    refine qr_aload_n 128 129 rfl (x := 1) rfl dX11_need_128 ?_
    refine qr_getF 129 132 rfl ck11 14 (by decide) (b := 98) (by decide +kernel) rfl (by decide +kernel) (by decide +kernel) wm_391 rfl dX11_need_129 ?_
    refine qr_aload_n 132 133 rfl (x := 1) rfl dX11_need_132 ?_
    refine qr_getF 133 136 rfl ck11 13 (by decide) (b := 91) (by decide +kernel) rfl (by decide +kernel) (by decide +kernel) wm_390 rfl dX11_need_133 ?_
    refine qr_aload_n 136 137 rfl (x := 1) rfl dX11_need_136 ?_
    refine qr_iconst 137 138 rfl (q_l32 _ rfl) dX11_need_137 ?_
    refine qw_I 138 141 rfl (av := [qI (-1)]) ca_X11_goodLinks wm_844 wp_39 wm_842 ck11 (by decide +kernel) rfl rfl (Nat.le_of_ble_eq_true rfl) dX11_need_138 h (fun v3 M2 h => ?_)
    refine qw_I 141 144 rfl (av := [qI v3]) ca_X6_oddFaces wm_847 wm_848 wm_846 ck6 (by decide +kernel) rfl rfl (Nat.le_of_ble_eq_true rfl) dX11_need_141 h (fun v5 M4 h => ?_)
    refine qw_U 144 147 rfl (av := [qR 91, qR 98, qI v5]) ca_X3_workOut wm_851 wm_852 wm_850 ck3 (by decide +kernel) rfl rfl (Nat.le_of_ble_eq_true rfl) dX11_need_144 h (fun M6 h => ?_)
    refine qr_aload_n 147 148 rfl (x := 1) rfl dX11_need_147 ?_
    refine qr_dup 148 149 rfl rfl dX11_need_148 ?_
    refine qg_i 149 152 rfl ck11 18 (kk := 18) (by decide) (by decide +kernel) (by decide +kernel) rfl wm_395 rfl dX11_need_149 ?_
    refine qr_iload_n 152 153 rfl (x := x1) rfl dX11_need_152 ?_
    refine qr_ior 153 154 rfl dX11_need_153 ?_
    refine qp_i 154 157 rfl ck11 18 (kk := 18) (by decide) (by decide +kernel) (by decide) rfl rfl wm_395 rfl dX11_need_154 (fun M7 e_M7 => ?_)
    have h := h M7 e_M7
    exact qe_u 157 rfl dX11_need_157 h
theorem dX11_needShape_0 : decode cX11_needShape 0 = .ok (.aload_n 0, 1) := by decide +kernel
theorem dX11_needShape_1 : decode cX11_needShape 1 = .ok (.getfield 130, 3) := by decide +kernel
theorem dX11_needShape_4 : decode cX11_needShape 4 = .ok (.iconst 1, 1) := by decide +kernel
theorem dX11_needShape_5 : decode cX11_needShape 5 = .ok (.iand, 1) := by decide +kernel
theorem dX11_needShape_6 : decode cX11_needShape 6 = .ok (.ifCond .ne 31, 3) := by decide +kernel
theorem dX11_needShape_9 : decode cX11_needShape 9 = .ok (.aload_n 0, 1) := by decide +kernel
theorem dX11_needShape_10 : decode cX11_needShape 10 = .ok (.getfield 70, 3) := by decide +kernel
theorem dX11_needShape_13 : decode cX11_needShape 13 = .ok (.aload_n 0, 1) := by decide +kernel
theorem dX11_needShape_14 : decode cX11_needShape 14 = .ok (.getfield 20, 3) := by decide +kernel
theorem dX11_needShape_17 : decode cX11_needShape 17 = .ok (.aload_n 0, 1) := by decide +kernel
theorem dX11_needShape_18 : decode cX11_needShape 18 = .ok (.getfield 37, 3) := by decide +kernel
theorem dX11_needShape_21 : decode cX11_needShape 21 = .ok (.getfield 162, 3) := by decide +kernel
theorem dX11_needShape_24 : decode cX11_needShape 24 = .ok (.invokevirtual 343, 3) := by decide +kernel
theorem dX11_needShape_27 : decode cX11_needShape 27 = .ok (.aload_n 0, 1) := by decide +kernel
theorem dX11_needShape_28 : decode cX11_needShape 28 = .ok (.dup, 1) := by decide +kernel
theorem dX11_needShape_29 : decode cX11_needShape 29 = .ok (.getfield 130, 3) := by decide +kernel
theorem dX11_needShape_32 : decode cX11_needShape 32 = .ok (.iconst 1, 1) := by decide +kernel
theorem dX11_needShape_33 : decode cX11_needShape 33 = .ok (.ior, 1) := by decide +kernel
theorem dX11_needShape_34 : decode cX11_needShape 34 = .ok (.putfield 130, 3) := by decide +kernel
theorem dX11_needShape_37 : decode cX11_needShape 37 = .ok (.return_, 1) := by decide +kernel
theorem bX11_needShape_0 {d : Nat} {P : q_Mem → Prop} {M : q_Mem} (h : ((¬ (q_and (M 1 18) 1) = 0) → P M) ∧ (((q_and (M 1 18) 1) = 0) → q_kU yX6_workOut mX6_workOut d [qR 91, qR (M 1 4), qR 52] M (fun M1 => (∀ M2 : q_Mem, M2 = q_up M1 1 18 (q_or (M1 1 18) 1) → P M2)))) : q_v mX11_needShape d (qPU P) M 0 [some (qR 1)] [] := by
  refine qr_aload_n 0 1 rfl (x := 1) rfl dX11_needShape_0 ?_
  refine qg_i 1 4 rfl ck11 18 (kk := 18) (by decide) (by decide +kernel) (by decide +kernel) rfl wm_395 rfl dX11_needShape_1 ?_
  refine qr_iconst 4 5 rfl (q_l32 _ rfl) dX11_needShape_4 ?_
  refine qr_iand 5 6 rfl dX11_needShape_5 ?_
  refine qr_if_ne 6 9 37 rfl (by decide) dX11_needShape_6 (fun c6 => ?_) (fun c6 => ?_)
  · have h := h.1 c6
    exact qe_u 37 rfl dX11_needShape_37 h
  · have h := h.2 c6
    refine qr_aload_n 9 10 rfl (x := 1) rfl dX11_needShape_9 ?_
    refine qr_getF 10 13 rfl ck11 13 (by decide) (b := 91) (by decide +kernel) rfl (by decide +kernel) (by decide +kernel) wm_390 rfl dX11_needShape_10 ?_
    refine qr_aload_n 13 14 rfl (x := 1) rfl dX11_needShape_13 ?_
    refine qg_r 14 17 rfl ck11 4 (kk := 4) (by decide) (by decide +kernel) (by decide +kernel) rfl wm_381 rfl dX11_needShape_14 ?_
    refine qr_aload_n 17 18 rfl (x := 1) rfl dX11_needShape_17 ?_
    refine qr_getF 18 21 rfl ck11 7 (by decide) (b := 50) (by decide +kernel) rfl (by decide +kernel) (by decide +kernel) wm_384 rfl dX11_needShape_18 ?_
    refine qr_getF 21 24 rfl ck7 3 (by decide) (b := 52) (by decide +kernel) rfl (by decide +kernel) (by decide +kernel) wm_175 rfl dX11_needShape_21 ?_
    refine qw_U 24 27 rfl (av := [qR (M 1 4), qR 52]) ca_X6_workOut wm_758 wm_759 wm_757 ck6 (by decide +kernel) rfl rfl (Nat.le_of_ble_eq_true rfl) dX11_needShape_24 h (fun M1 h => ?_)
    refine qr_aload_n 27 28 rfl (x := 1) rfl dX11_needShape_27 ?_
    refine qr_dup 28 29 rfl rfl dX11_needShape_28 ?_
    refine qg_i 29 32 rfl ck11 18 (kk := 18) (by decide) (by decide +kernel) (by decide +kernel) rfl wm_395 rfl dX11_needShape_29 ?_
    refine qr_iconst 32 33 rfl (q_l32 _ rfl) dX11_needShape_32 ?_
    refine qr_ior 33 34 rfl dX11_needShape_33 ?_
    refine qp_i 34 37 rfl ck11 18 (kk := 18) (by decide) (by decide +kernel) (by decide) rfl rfl wm_395 rfl dX11_needShape_34 (fun M2 e_M2 => ?_)
    have h := h M2 e_M2
    exact qe_u 37 rfl dX11_needShape_37 h
theorem dX11_weighAll_0 : decode cX11_weighAll 0 = .ok (.iconst 0, 1) := by decide +kernel
theorem dX11_weighAll_1 : decode cX11_weighAll 1 = .ok (.istore_n 1, 1) := by decide +kernel
theorem dX11_weighAll_2 : decode cX11_weighAll 2 = .ok (.iload_n 1, 1) := by decide +kernel
theorem dX11_weighAll_3 : decode cX11_weighAll 3 = .ok (.aload_n 0, 1) := by decide +kernel
theorem dX11_weighAll_4 : decode cX11_weighAll 4 = .ok (.getfield 20, 3) := by decide +kernel
theorem dX11_weighAll_7 : decode cX11_weighAll 7 = .ok (.getfield 165, 3) := by decide +kernel
theorem dX11_weighAll_10 : decode cX11_weighAll 10 = .ok (.if_icmp .ge 39, 3) := by decide +kernel
theorem dX11_weighAll_13 : decode cX11_weighAll 13 = .ok (.aload_n 0, 1) := by decide +kernel
theorem dX11_weighAll_14 : decode cX11_weighAll 14 = .ok (.getfield 63, 3) := by decide +kernel
theorem dX11_weighAll_17 : decode cX11_weighAll 17 = .ok (.iload_n 1, 1) := by decide +kernel
theorem dX11_weighAll_18 : decode cX11_weighAll 18 = .ok (.aload_n 0, 1) := by decide +kernel
theorem dX11_weighAll_19 : decode cX11_weighAll 19 = .ok (.getfield 20, 3) := by decide +kernel
theorem dX11_weighAll_22 : decode cX11_weighAll 22 = .ok (.iload_n 1, 1) := by decide +kernel
theorem dX11_weighAll_23 : decode cX11_weighAll 23 = .ok (.aload_n 0, 1) := by decide +kernel
theorem dX11_weighAll_24 : decode cX11_weighAll 24 = .ok (.getfield 37, 3) := by decide +kernel
theorem dX11_weighAll_27 : decode cX11_weighAll 27 = .ok (.getfield 182, 3) := by decide +kernel
theorem dX11_weighAll_30 : decode cX11_weighAll 30 = .ok (.iload_n 1, 1) := by decide +kernel
theorem dX11_weighAll_31 : decode cX11_weighAll 31 = .ok (.iaload, 1) := by decide +kernel
theorem dX11_weighAll_32 : decode cX11_weighAll 32 = .ok (.aload_n 0, 1) := by decide +kernel
theorem dX11_weighAll_33 : decode cX11_weighAll 33 = .ok (.getfield 37, 3) := by decide +kernel
theorem dX11_weighAll_36 : decode cX11_weighAll 36 = .ok (.getfield 208, 3) := by decide +kernel
theorem dX11_weighAll_39 : decode cX11_weighAll 39 = .ok (.invokevirtual 344, 3) := by decide +kernel
theorem dX11_weighAll_42 : decode cX11_weighAll 42 = .ok (.iastore, 1) := by decide +kernel
theorem dX11_weighAll_43 : decode cX11_weighAll 43 = .ok (.iinc 1 1, 3) := by decide +kernel
theorem dX11_weighAll_46 : decode cX11_weighAll 46 = .ok (.goto (-44), 3) := by decide +kernel
theorem dX11_weighAll_49 : decode cX11_weighAll 49 = .ok (.return_, 1) := by decide +kernel
theorem bX11_weighAll_0 {d : Nat} {P : q_Mem → Prop} {M : q_Mem} (h : q_v mX11_weighAll d (qPU P) M 2 [some (qR 1), some (qI 0)] []) : q_v mX11_weighAll d (qPU P) M 0 [some (qR 1), none] [] := by
  refine qr_iconst 0 1 rfl (q_l32 _ rfl) dX11_weighAll_0 ?_
  refine qr_istore_n 1 2 rfl (by decide) rfl rfl dX11_weighAll_1 ?_
  exact h
theorem bX11_weighAll_2 {d : Nat} {P : q_Mem → Prop} {M : q_Mem} (x1 : Int) (h : q_kd (M 1 4) = 4 ∧ ((((M (M 1 4) 1) ≤ x1) → P M) ∧ ((¬ ((M (M 1 4) 1) ≤ x1)) → (0 ≤ x1 ∧ x1 < (16 : Int)) ∧ (q_kI yX4_weightOf mX4_weightOf d [qR (M 1 4), qI x1, qI (M 51 x1), qI (M 50 0)] M (fun v4 M3 => (0 ≤ x1 ∧ x1 < (16 : Int)) ∧ (∀ M6 : q_Mem, M6 = q_up M3 90 x1 v4 → q_v mX11_weighAll d (qPU P) M6 2 [some (qR 1), some (qI (q_add x1 1))] [])))))) : q_v mX11_weighAll d (qPU P) M 2 [some (qR 1), some (qI x1)] [] := by
  refine qr_iload_n 2 3 rfl (x := x1) rfl dX11_weighAll_2 ?_
  refine qr_aload_n 3 4 rfl (x := 1) rfl dX11_weighAll_3 ?_
  refine qg_r 4 7 rfl ck11 4 (kk := 4) (by decide) (by decide +kernel) (by decide +kernel) rfl wm_381 rfl dX11_weighAll_4 ?_
  have hk1 := h.1
  have h := h.2
  refine qg_i 7 10 rfl ck4 1 (kk := 1) (by decide) hk1 (by decide +kernel) rfl wm_68 rfl dX11_weighAll_7 ?_
  refine qr_icmp_ge 10 13 49 rfl (by decide) dX11_weighAll_10 (fun c10 => ?_) (fun c10 => ?_)
  · have h := h.1 c10
    exact qe_u 49 rfl dX11_weighAll_49 h
  · have h := h.2 c10
    refine qr_aload_n 13 14 rfl (x := 1) rfl dX11_weighAll_13 ?_
    refine qr_getF 14 17 rfl ck11 12 (by decide) (b := 90) (by decide +kernel) rfl (by decide +kernel) (by decide +kernel) wm_389 rfl dX11_weighAll_14 ?_
    refine qr_iload_n 17 18 rfl (x := x1) rfl dX11_weighAll_17 ?_
    refine qr_aload_n 18 19 rfl (x := 1) rfl dX11_weighAll_18 ?_
    refine qg_r 19 22 rfl ck11 4 (kk := 4) (by decide) (by decide +kernel) (by decide +kernel) rfl wm_381 rfl dX11_weighAll_19 ?_
    refine qr_iload_n 22 23 rfl (x := x1) rfl dX11_weighAll_22 ?_
    refine qr_aload_n 23 24 rfl (x := 1) rfl dX11_weighAll_23 ?_
    refine qr_getF 24 27 rfl ck11 7 (by decide) (b := 50) (by decide +kernel) rfl (by decide +kernel) (by decide +kernel) wm_384 rfl dX11_weighAll_24 ?_
    refine qr_getF 27 30 rfl ck7 2 (by decide) (b := 51) (by decide +kernel) rfl (by decide +kernel) (by decide +kernel) wm_173 rfl dX11_weighAll_27 ?_
    refine qr_iload_n 30 31 rfl (x := x1) rfl dX11_weighAll_30 ?_
    have hb2 := h.1
    have h := h.2
    refine qi_ld 31 32 rfl (N := 16) (by decide +kernel) (by decide +kernel) hb2.1 hb2.2 dX11_weighAll_31 ?_
    refine qr_aload_n 32 33 rfl (x := 1) rfl dX11_weighAll_32 ?_
    refine qr_getF 33 36 rfl ck11 7 (by decide) (b := 50) (by decide +kernel) rfl (by decide +kernel) (by decide +kernel) wm_384 rfl dX11_weighAll_33 ?_
    refine qg_i 36 39 rfl ck7 0 (kk := 0) (by decide) (by decide +kernel) (by decide +kernel) rfl wm_167 rfl dX11_weighAll_36 ?_
    refine qw_I 39 42 rfl (av := [qI x1, qI (M 51 x1), qI (M 50 0)]) ca_X4_weightOf wm_798 wm_799 wm_797 ck4 hk1 rfl rfl (Nat.le_of_ble_eq_true rfl) dX11_weighAll_39 h (fun v4 M3 h => ?_)
    have hb5 := h.1
    have h := h.2
    refine qi_st 42 43 rfl (N := 16) (by decide +kernel) (by decide +kernel) hb5.1 hb5.2 dX11_weighAll_42 (fun M6 e_M6 => ?_)
    have h := h M6 e_M6
    refine qr_iinc 43 46 rfl (by decide) (x := x1) rfl rfl rfl dX11_weighAll_43 ?_
    refine qr_goto 46 2 (by decide) dX11_weighAll_46 ?_
    exact h
theorem dX11_partner_0 : decode cX11_partner 0 = .ok (.aload_n 0, 1) := by decide +kernel
theorem dX11_partner_1 : decode cX11_partner 1 = .ok (.iload_n 1, 1) := by decide +kernel
theorem dX11_partner_2 : decode cX11_partner 2 = .ok (.invokevirtual 298, 3) := by decide +kernel
theorem dX11_partner_5 : decode cX11_partner 5 = .ok (.ifCond .ne 6, 3) := by decide +kernel
theorem dX11_partner_8 : decode cX11_partner 8 = .ok (.bipush (-2), 2) := by decide +kernel
theorem dX11_partner_10 : decode cX11_partner 10 = .ok (.ireturn, 1) := by decide +kernel
theorem dX11_partner_11 : decode cX11_partner 11 = .ok (.aload_n 0, 1) := by decide +kernel
theorem dX11_partner_12 : decode cX11_partner 12 = .ok (.invokevirtual 221, 3) := by decide +kernel
theorem dX11_partner_15 : decode cX11_partner 15 = .ok (.ifCond .ne 6, 3) := by decide +kernel
theorem dX11_partner_18 : decode cX11_partner 18 = .ok (.bipush (-5), 2) := by decide +kernel
theorem dX11_partner_20 : decode cX11_partner 20 = .ok (.ireturn, 1) := by decide +kernel
theorem dX11_partner_21 : decode cX11_partner 21 = .ok (.aload_n 0, 1) := by decide +kernel
theorem dX11_partner_22 : decode cX11_partner 22 = .ok (.bipush 27, 2) := by decide +kernel
theorem dX11_partner_24 : decode cX11_partner 24 = .ok (.invokevirtual 153, 3) := by decide +kernel
theorem dX11_partner_27 : decode cX11_partner 27 = .ok (.aload_n 0, 1) := by decide +kernel
theorem dX11_partner_28 : decode cX11_partner 28 = .ok (.getfield 96, 3) := by decide +kernel
theorem dX11_partner_31 : decode cX11_partner 31 = .ok (.getfield 347, 3) := by decide +kernel
theorem dX11_partner_34 : decode cX11_partner 34 = .ok (.iload_n 1, 1) := by decide +kernel
theorem dX11_partner_35 : decode cX11_partner 35 = .ok (.iaload, 1) := by decide +kernel
theorem dX11_partner_36 : decode cX11_partner 36 = .ok (.ireturn, 1) := by decide +kernel
theorem bX11_partner_0 {d : Nat} {P : Int → q_Mem → Prop} {M : q_Mem} (x1 : Int) (h : q_kI yX11_hasFace mX11_hasFace d [qR 1, qI x1] M (fun v2 M1 => ((¬ v2 = 0) → q_kI yX11_isFlat mX11_isFlat d [qR 1] M1 (fun v4 M3 => ((¬ v4 = 0) → q_kU yX11_need mX11_need d [qR 1, qI 27] M3 (fun M5 => (0 ≤ x1 ∧ x1 < (16 : Int)) ∧ (P (M5 171 x1) M5))) ∧ ((v4 = 0) → P (-5) M3))) ∧ ((v2 = 0) → P (-2) M1))) : q_v mX11_partner d (qPI P) M 0 [some (qR 1), some (qI x1)] [] := by
  refine qr_aload_n 0 1 rfl (x := 1) rfl dX11_partner_0 ?_
  refine qr_iload_n 1 2 rfl (x := x1) rfl dX11_partner_1 ?_
  refine qw_I 2 5 rfl (av := [qI x1]) ca_X11_hasFace wm_1077 wp_63 wm_1075 ck11 (by decide +kernel) rfl rfl (Nat.le_of_ble_eq_true rfl) dX11_partner_2 h (fun v2 M1 h => ?_)
  refine qr_if_ne 5 8 11 rfl (by decide) dX11_partner_5 (fun c5 => ?_) (fun c5 => ?_)
  · have h := h.1 c5
    refine qr_aload_n 11 12 rfl (x := 1) rfl dX11_partner_11 ?_
    refine qw_I 12 15 rfl (av := []) ca_X11_isFlat wm_991 wp_55 wm_989 ck11 (by decide +kernel) rfl rfl (Nat.le_of_ble_eq_true rfl) dX11_partner_12 h (fun v4 M3 h => ?_)
    refine qr_if_ne 15 18 21 rfl (by decide) dX11_partner_15 (fun c15 => ?_) (fun c15 => ?_)
    · have h := h.1 c15
      refine qr_aload_n 21 22 rfl (x := 1) rfl dX11_partner_21 ?_
      refine qr_bipush 22 24 rfl (q_l32 _ rfl) (by decide) dX11_partner_22 ?_
      refine qw_U 24 27 rfl (av := [qI 27]) ca_X11_need wm_791 wp_35 wm_789 ck11 (by decide +kernel) rfl rfl (Nat.le_of_ble_eq_true rfl) dX11_partner_24 h (fun M5 h => ?_)
      refine qr_aload_n 27 28 rfl (x := 1) rfl dX11_partner_27 ?_
      refine qr_getF 28 31 rfl ck11 15 (by decide) (b := 170) (by decide +kernel) rfl (by decide +kernel) (by decide +kernel) wm_392 rfl dX11_partner_28 ?_
      refine qr_getF 31 34 rfl ck3 1 (by decide) (b := 171) (by decide +kernel) rfl (by decide +kernel) (by decide +kernel) wm_359 rfl dX11_partner_31 ?_
      refine qr_iload_n 34 35 rfl (x := x1) rfl dX11_partner_34 ?_
      have hb6 := h.1
      have h := h.2
      refine qi_ld 35 36 rfl (N := 16) (by decide +kernel) (by decide +kernel) hb6.1 hb6.2 dX11_partner_35 ?_
      exact qe_i 36 rfl dX11_partner_36 h
    · have h := h.2 c15
      refine qr_bipush 18 20 rfl (q_l32 _ rfl) (by decide) dX11_partner_18 ?_
      exact qe_i 20 rfl dX11_partner_20 h
  · have h := h.2 c5
    refine qr_bipush 8 10 rfl (q_l32 _ rfl) (by decide) dX11_partner_8 ?_
    exact qe_i 10 rfl dX11_partner_10 h
theorem dX11_join_0 : decode cX11_join 0 = .ok (.aload_n 0, 1) := by decide +kernel
theorem dX11_join_1 : decode cX11_join 1 = .ok (.invokevirtual 221, 3) := by decide +kernel
theorem dX11_join_4 : decode cX11_join 4 = .ok (.ifCond .ne 6, 3) := by decide +kernel
theorem dX11_join_7 : decode cX11_join 7 = .ok (.bipush (-5), 2) := by decide +kernel
theorem dX11_join_9 : decode cX11_join 9 = .ok (.ireturn, 1) := by decide +kernel
theorem dX11_join_10 : decode cX11_join 10 = .ok (.aload_n 0, 1) := by decide +kernel
theorem dX11_join_11 : decode cX11_join 11 = .ok (.bipush 27, 2) := by decide +kernel
theorem dX11_join_13 : decode cX11_join 13 = .ok (.invokevirtual 153, 3) := by decide +kernel
theorem dX11_join_16 : decode cX11_join 16 = .ok (.aload_n 0, 1) := by decide +kernel
theorem dX11_join_17 : decode cX11_join 17 = .ok (.getfield 96, 3) := by decide +kernel
theorem dX11_join_20 : decode cX11_join 20 = .ok (.getfield 350, 3) := by decide +kernel
theorem dX11_join_23 : decode cX11_join 23 = .ok (.ireturn, 1) := by decide +kernel
theorem bX11_join_0 {d : Nat} {P : Int → q_Mem → Prop} {M : q_Mem} (h : q_kI yX11_isFlat mX11_isFlat d [qR 1] M (fun v2 M1 => ((¬ v2 = 0) → q_kU yX11_need mX11_need d [qR 1, qI 27] M1 (fun M3 => P (M3 170 0) M3)) ∧ ((v2 = 0) → P (-5) M1))) : q_v mX11_join d (qPI P) M 0 [some (qR 1)] [] := by
  refine qr_aload_n 0 1 rfl (x := 1) rfl dX11_join_0 ?_
  refine qw_I 1 4 rfl (av := []) ca_X11_isFlat wm_991 wp_55 wm_989 ck11 (by decide +kernel) rfl rfl (Nat.le_of_ble_eq_true rfl) dX11_join_1 h (fun v2 M1 h => ?_)
  refine qr_if_ne 4 7 10 rfl (by decide) dX11_join_4 (fun c4 => ?_) (fun c4 => ?_)
  · have h := h.1 c4
    refine qr_aload_n 10 11 rfl (x := 1) rfl dX11_join_10 ?_
    refine qr_bipush 11 13 rfl (q_l32 _ rfl) (by decide) dX11_join_11 ?_
    refine qw_U 13 16 rfl (av := [qI 27]) ca_X11_need wm_791 wp_35 wm_789 ck11 (by decide +kernel) rfl rfl (Nat.le_of_ble_eq_true rfl) dX11_join_13 h (fun M3 h => ?_)
    refine qr_aload_n 16 17 rfl (x := 1) rfl dX11_join_16 ?_
    refine qr_getF 17 20 rfl ck11 15 (by decide) (b := 170) (by decide +kernel) rfl (by decide +kernel) (by decide +kernel) wm_392 rfl dX11_join_17 ?_
    refine qg_i 20 23 rfl ck3 0 (kk := 0) (by decide) (by decide +kernel) (by decide +kernel) rfl wm_357 rfl dX11_join_20 ?_
    exact qe_i 23 rfl dX11_join_23 h
  · have h := h.2 c4
    refine qr_bipush 7 9 rfl (q_l32 _ rfl) (by decide) dX11_join_7 ?_
    exact qe_i 9 rfl dX11_join_9 h
theorem dX11_proof_0 : decode cX11_proof 0 = .ok (.iload_n 1, 1) := by decide +kernel
theorem dX11_proof_1 : decode cX11_proof 1 = .ok (.ifCond .lt 8, 3) := by decide +kernel
theorem dX11_proof_4 : decode cX11_proof 4 = .ok (.iload_n 1, 1) := by decide +kernel
theorem dX11_proof_5 : decode cX11_proof 5 = .ok (.iconst 1, 1) := by decide +kernel
theorem dX11_proof_6 : decode cX11_proof 6 = .ok (.if_icmp .le 6, 3) := by decide +kernel
theorem dX11_proof_9 : decode cX11_proof 9 = .ok (.bipush (-2), 2) := by decide +kernel
theorem dX11_proof_11 : decode cX11_proof 11 = .ok (.ireturn, 1) := by decide +kernel
theorem dX11_proof_12 : decode cX11_proof 12 = .ok (.aload_n 0, 1) := by decide +kernel
theorem dX11_proof_13 : decode cX11_proof 13 = .ok (.invokevirtual 221, 3) := by decide +kernel
theorem dX11_proof_16 : decode cX11_proof 16 = .ok (.ifCond .ne 6, 3) := by decide +kernel
theorem dX11_proof_19 : decode cX11_proof 19 = .ok (.bipush (-5), 2) := by decide +kernel
theorem dX11_proof_21 : decode cX11_proof 21 = .ok (.ireturn, 1) := by decide +kernel
theorem dX11_proof_22 : decode cX11_proof 22 = .ok (.aload_n 0, 1) := by decide +kernel
theorem dX11_proof_23 : decode cX11_proof 23 = .ok (.bipush 27, 2) := by decide +kernel
theorem dX11_proof_25 : decode cX11_proof 25 = .ok (.invokevirtual 153, 3) := by decide +kernel
theorem dX11_proof_28 : decode cX11_proof 28 = .ok (.iload_n 1, 1) := by decide +kernel
theorem dX11_proof_29 : decode cX11_proof 29 = .ok (.ifCond .ne 13, 3) := by decide +kernel
theorem dX11_proof_32 : decode cX11_proof 32 = .ok (.aload_n 0, 1) := by decide +kernel
theorem dX11_proof_33 : decode cX11_proof 33 = .ok (.aload_n 0, 1) := by decide +kernel
theorem dX11_proof_34 : decode cX11_proof 34 = .ok (.iconst 1, 1) := by decide +kernel
theorem dX11_proof_35 : decode cX11_proof 35 = .ok (.invokevirtual 307, 3) := by decide +kernel
theorem dX11_proof_38 : decode cX11_proof 38 = .ok (.invokevirtual 262, 3) := by decide +kernel
theorem dX11_proof_41 : decode cX11_proof 41 = .ok (.ireturn, 1) := by decide +kernel
theorem dX11_proof_42 : decode cX11_proof 42 = .ok (.iconst 0, 1) := by decide +kernel
theorem dX11_proof_43 : decode cX11_proof 43 = .ok (.istore_n 2, 1) := by decide +kernel
theorem dX11_proof_44 : decode cX11_proof 44 = .ok (.iconst 0, 1) := by decide +kernel
theorem dX11_proof_45 : decode cX11_proof 45 = .ok (.istore_n 3, 1) := by decide +kernel
theorem dX11_proof_46 : decode cX11_proof 46 = .ok (.iload_n 3, 1) := by decide +kernel
theorem dX11_proof_47 : decode cX11_proof 47 = .ok (.aload_n 0, 1) := by decide +kernel
theorem dX11_proof_48 : decode cX11_proof 48 = .ok (.getfield 20, 3) := by decide +kernel
theorem dX11_proof_51 : decode cX11_proof 51 = .ok (.getfield 165, 3) := by decide +kernel
theorem dX11_proof_54 : decode cX11_proof 54 = .ok (.if_icmp .ge 35, 3) := by decide +kernel
theorem dX11_proof_57 : decode cX11_proof 57 = .ok (.aload_n 0, 1) := by decide +kernel
theorem dX11_proof_58 : decode cX11_proof 58 = .ok (.getfield 96, 3) := by decide +kernel
theorem dX11_proof_61 : decode cX11_proof 61 = .ok (.getfield 350, 3) := by decide +kernel
theorem dX11_proof_64 : decode cX11_proof 64 = .ok (.iload_n 3, 1) := by decide +kernel
theorem dX11_proof_65 : decode cX11_proof 65 = .ok (.ishr, 1) := by decide +kernel
theorem dX11_proof_66 : decode cX11_proof 66 = .ok (.iconst 1, 1) := by decide +kernel
theorem dX11_proof_67 : decode cX11_proof 67 = .ok (.iand, 1) := by decide +kernel
theorem dX11_proof_68 : decode cX11_proof 68 = .ok (.ifCond .eq 15, 3) := by decide +kernel
theorem dX11_proof_71 : decode cX11_proof 71 = .ok (.iload_n 2, 1) := by decide +kernel
theorem dX11_proof_72 : decode cX11_proof 72 = .ok (.aload_n 0, 1) := by decide +kernel
theorem dX11_proof_73 : decode cX11_proof 73 = .ok (.getfield 63, 3) := by decide +kernel
theorem dX11_proof_76 : decode cX11_proof 76 = .ok (.iload_n 3, 1) := by decide +kernel
theorem dX11_proof_77 : decode cX11_proof 77 = .ok (.iaload, 1) := by decide +kernel
theorem dX11_proof_78 : decode cX11_proof 78 = .ok (.invokestatic 353, 3) := by decide +kernel
theorem dX11_proof_81 : decode cX11_proof 81 = .ok (.iadd, 1) := by decide +kernel
theorem dX11_proof_82 : decode cX11_proof 82 = .ok (.istore_n 2, 1) := by decide +kernel
theorem dX11_proof_83 : decode cX11_proof 83 = .ok (.iinc 3 1, 3) := by decide +kernel
theorem dX11_proof_86 : decode cX11_proof 86 = .ok (.goto (-40), 3) := by decide +kernel
theorem dX11_proof_89 : decode cX11_proof 89 = .ok (.iload_n 2, 1) := by decide +kernel
theorem dX11_proof_90 : decode cX11_proof 90 = .ok (.ireturn, 1) := by decide +kernel
theorem bX11_proof_0 {d : Nat} {P : Int → q_Mem → Prop} {M : q_Mem} (x1 : Int) (h : ((x1 < 0) → P (-2) M) ∧ ((¬ (x1 < 0)) → ((x1 ≤ (1 : Int)) → q_kI yX11_isFlat mX11_isFlat d [qR 1] M (fun v2 M1 => ((¬ v2 = 0) → q_kU yX11_need mX11_need d [qR 1, qI 27] M1 (fun M3 => ((¬ x1 = 0) → q_v mX11_proof d (qPI P) M3 46 [some (qR 1), none, some (qI 0), some (qI 0)] []) ∧ ((x1 = 0) → q_kI yX11_goodLinks mX11_goodLinks d [qR 1, qI 1] M3 (fun v5 M4 => q_kI yX11_worthOfCut mX11_worthOfCut d [qR 1, qI v5] M4 (fun v7 M6 => P v7 M6))))) ∧ ((v2 = 0) → P (-5) M1))) ∧ ((¬ (x1 ≤ (1 : Int))) → P (-2) M))) : q_v mX11_proof d (qPI P) M 0 [some (qR 1), some (qI x1), none, none] [] := by
  refine qr_iload_n 0 1 rfl (x := x1) rfl dX11_proof_0 ?_
  refine qr_if_lt 1 4 9 rfl (by decide) dX11_proof_1 (fun c1 => ?_) (fun c1 => ?_)
  · have h := h.1 c1
    refine qr_bipush 9 11 rfl (q_l32 _ rfl) (by decide) dX11_proof_9 ?_
    exact qe_i 11 rfl dX11_proof_11 h
  · have h := h.2 c1
    refine qr_iload_n 4 5 rfl (x := x1) rfl dX11_proof_4 ?_
    refine qr_iconst 5 6 rfl (q_l32 _ rfl) dX11_proof_5 ?_
    refine qr_icmp_le 6 9 12 rfl (by decide) dX11_proof_6 (fun c6 => ?_) (fun c6 => ?_)
    · have h := h.1 c6
      refine qr_aload_n 12 13 rfl (x := 1) rfl dX11_proof_12 ?_
      refine qw_I 13 16 rfl (av := []) ca_X11_isFlat wm_991 wp_55 wm_989 ck11 (by decide +kernel) rfl rfl (Nat.le_of_ble_eq_true rfl) dX11_proof_13 h (fun v2 M1 h => ?_)
      refine qr_if_ne 16 19 22 rfl (by decide) dX11_proof_16 (fun c16 => ?_) (fun c16 => ?_)
      · have h := h.1 c16
        refine qr_aload_n 22 23 rfl (x := 1) rfl dX11_proof_22 ?_
        refine qr_bipush 23 25 rfl (q_l32 _ rfl) (by decide) dX11_proof_23 ?_
        refine qw_U 25 28 rfl (av := [qI 27]) ca_X11_need wm_791 wp_35 wm_789 ck11 (by decide +kernel) rfl rfl (Nat.le_of_ble_eq_true rfl) dX11_proof_25 h (fun M3 h => ?_)
        refine qr_iload_n 28 29 rfl (x := x1) rfl dX11_proof_28 ?_
        refine qr_if_ne 29 32 42 rfl (by decide) dX11_proof_29 (fun c29 => ?_) (fun c29 => ?_)
        · have h := h.1 c29
          refine qr_iconst 42 43 rfl (q_l32 _ rfl) dX11_proof_42 ?_
          refine qr_istore_n 43 44 rfl (by decide) rfl rfl dX11_proof_43 ?_
          refine qr_iconst 44 45 rfl (q_l32 _ rfl) dX11_proof_44 ?_
          refine qr_istore_n 45 46 rfl (by decide) rfl rfl dX11_proof_45 ?_
          exact qr_cut 46 (ls' := [some (qR 1), none, some (qI 0), some (qI 0)]) (And.intro rfl (And.intro rfl (And.intro rfl trivial))) h
        · have h := h.2 c29
          refine qr_aload_n 32 33 rfl (x := 1) rfl dX11_proof_32 ?_
          refine qr_aload_n 33 34 rfl (x := 1) rfl dX11_proof_33 ?_
          refine qr_iconst 34 35 rfl (q_l32 _ rfl) dX11_proof_34 ?_
          refine qw_I 35 38 rfl (av := [qI 1]) ca_X11_goodLinks wm_844 wp_39 wm_842 ck11 (by decide +kernel) rfl rfl (Nat.le_of_ble_eq_true rfl) dX11_proof_35 h (fun v5 M4 h => ?_)
          refine qw_I 38 41 rfl (av := [qI v5]) ca_X11_worthOfCut wm_943 wp_49 wm_941 ck11 (by decide +kernel) rfl rfl (Nat.le_of_ble_eq_true rfl) dX11_proof_38 h (fun v7 M6 h => ?_)
          exact qe_i 41 rfl dX11_proof_41 h
      · have h := h.2 c16
        refine qr_bipush 19 21 rfl (q_l32 _ rfl) (by decide) dX11_proof_19 ?_
        exact qe_i 21 rfl dX11_proof_21 h
    · have h := h.2 c6
      refine qr_bipush 9 11 rfl (q_l32 _ rfl) (by decide) dX11_proof_9 ?_
      exact qe_i 11 rfl dX11_proof_11 h
theorem bX11_proof_46 {d : Nat} {P : Int → q_Mem → Prop} {M : q_Mem} (x2 x3 : Int) (h : q_kd (M 1 4) = 4 ∧ ((((M (M 1 4) 1) ≤ x3) → P x2 M) ∧ ((¬ ((M (M 1 4) 1) ≤ x3)) → (((q_and (q_shr (M 170 0) x3) 1) = 0) → q_v mX11_proof d (qPI P) M 46 [some (qR 1), none, some (qI x2), some (qI (q_add x3 1))] []) ∧ ((¬ ((q_and (q_shr (M 170 0) x3) 1) = 0)) → (0 ≤ x3 ∧ x3 < (16 : Int)) ∧ (q_kI yJ9_abs_0f7a4 mJ9_abs_0f7a4 d [qI (M 90 x3)] M (fun v4 M3 => ∀ x2_5 : Int, x2_5 = (q_add x2 v4) → q_v mX11_proof d (qPI P) M3 46 [some (qR 1), none, some (qI x2_5), some (qI (q_add x3 1))] [])))))) : q_v mX11_proof d (qPI P) M 46 [some (qR 1), none, some (qI x2), some (qI x3)] [] := by
  refine qr_iload_n 46 47 rfl (x := x3) rfl dX11_proof_46 ?_
  refine qr_aload_n 47 48 rfl (x := 1) rfl dX11_proof_47 ?_
  refine qg_r 48 51 rfl ck11 4 (kk := 4) (by decide) (by decide +kernel) (by decide +kernel) rfl wm_381 rfl dX11_proof_48 ?_
  have hk1 := h.1
  have h := h.2
  refine qg_i 51 54 rfl ck4 1 (kk := 1) (by decide) hk1 (by decide +kernel) rfl wm_68 rfl dX11_proof_51 ?_
  refine qr_icmp_ge 54 57 89 rfl (by decide) dX11_proof_54 (fun c54 => ?_) (fun c54 => ?_)
  · have h := h.1 c54
    refine qr_iload_n 89 90 rfl (x := x2) rfl dX11_proof_89 ?_
    exact qe_i 90 rfl dX11_proof_90 h
  · have h := h.2 c54
    refine qr_aload_n 57 58 rfl (x := 1) rfl dX11_proof_57 ?_
    refine qr_getF 58 61 rfl ck11 15 (by decide) (b := 170) (by decide +kernel) rfl (by decide +kernel) (by decide +kernel) wm_392 rfl dX11_proof_58 ?_
    refine qg_i 61 64 rfl ck3 0 (kk := 0) (by decide) (by decide +kernel) (by decide +kernel) rfl wm_357 rfl dX11_proof_61 ?_
    refine qr_iload_n 64 65 rfl (x := x3) rfl dX11_proof_64 ?_
    refine qr_ishr 65 66 rfl dX11_proof_65 ?_
    refine qr_iconst 66 67 rfl (q_l32 _ rfl) dX11_proof_66 ?_
    refine qr_iand 67 68 rfl dX11_proof_67 ?_
    refine qr_if_eq 68 71 83 rfl (by decide) dX11_proof_68 (fun c68 => ?_) (fun c68 => ?_)
    · have h := h.1 c68
      refine qr_iinc 83 86 rfl (by decide) (x := x3) rfl rfl rfl dX11_proof_83 ?_
      refine qr_goto 86 46 (by decide) dX11_proof_86 ?_
      exact h
    · have h := h.2 c68
      refine qr_iload_n 71 72 rfl (x := x2) rfl dX11_proof_71 ?_
      refine qr_aload_n 72 73 rfl (x := 1) rfl dX11_proof_72 ?_
      refine qr_getF 73 76 rfl ck11 12 (by decide) (b := 90) (by decide +kernel) rfl (by decide +kernel) (by decide +kernel) wm_389 rfl dX11_proof_73 ?_
      refine qr_iload_n 76 77 rfl (x := x3) rfl dX11_proof_76 ?_
      have hb2 := h.1
      have h := h.2
      refine qi_ld 77 78 rfl (N := 16) (by decide +kernel) (by decide +kernel) hb2.1 hb2.2 dX11_proof_77 ?_
      refine qs_I 78 81 rfl (av := [qI (M 90 x3)]) ca_J9_abs_0f7a4 wm_835 wm_1124 rfl rfl (Nat.le_of_ble_eq_true rfl) dX11_proof_78 h (fun v4 M3 h => ?_)
      refine qr_iadd 81 82 rfl dX11_proof_81 ?_
      refine qn_i 82 (fun x2_5 e_x2_5 => ?_)
      have h := h x2_5 e_x2_5
      refine qr_istore_n 82 83 rfl (by decide) rfl rfl dX11_proof_82 ?_
      refine qr_iinc 83 86 rfl (by decide) (x := x3) rfl rfl rfl dX11_proof_83 ?_
      refine qr_goto 86 46 (by decide) dX11_proof_86 ?_
      exact h
theorem dX11_greatest_0 : decode cX11_greatest 0 = .ok (.aload_n 0, 1) := by decide +kernel
theorem dX11_greatest_1 : decode cX11_greatest 1 = .ok (.iload_n 1, 1) := by decide +kernel
theorem dX11_greatest_2 : decode cX11_greatest 2 = .ok (.invokevirtual 358, 3) := by decide +kernel
theorem dX11_greatest_5 : decode cX11_greatest 5 = .ok (.istore_n 2, 1) := by decide +kernel
theorem dX11_greatest_6 : decode cX11_greatest 6 = .ok (.iload_n 2, 1) := by decide +kernel
theorem dX11_greatest_7 : decode cX11_greatest 7 = .ok (.ifCond .eq 5, 3) := by decide +kernel
theorem dX11_greatest_10 : decode cX11_greatest 10 = .ok (.iload_n 2, 1) := by decide +kernel
theorem dX11_greatest_11 : decode cX11_greatest 11 = .ok (.ireturn, 1) := by decide +kernel
theorem dX11_greatest_12 : decode cX11_greatest 12 = .ok (.aload_n 0, 1) := by decide +kernel
theorem dX11_greatest_13 : decode cX11_greatest 13 = .ok (.bipush 27, 2) := by decide +kernel
theorem dX11_greatest_15 : decode cX11_greatest 15 = .ok (.invokevirtual 153, 3) := by decide +kernel
theorem dX11_greatest_18 : decode cX11_greatest 18 = .ok (.aload_n 0, 1) := by decide +kernel
theorem dX11_greatest_19 : decode cX11_greatest 19 = .ok (.iload_n 1, 1) := by decide +kernel
theorem dX11_greatest_20 : decode cX11_greatest 20 = .ok (.aload_n 0, 1) := by decide +kernel
theorem dX11_greatest_21 : decode cX11_greatest 21 = .ok (.invokevirtual 225, 3) := by decide +kernel
theorem dX11_greatest_24 : decode cX11_greatest 24 = .ok (.invokevirtual 361, 3) := by decide +kernel
theorem dX11_greatest_27 : decode cX11_greatest 27 = .ok (.ireturn, 1) := by decide +kernel
theorem bX11_greatest_0 {d : Nat} {P : Int → q_Mem → Prop} {M : q_Mem} (x1 : Int) (h : q_kI yX11_refusedCut mX11_refusedCut d [qR 1, qI x1] M (fun v2 M1 => ((v2 = 0) → q_kU yX11_need mX11_need d [qR 1, qI 27] M1 (fun M3 => q_kI yX11_greatestCut mX11_greatestCut d [qR 1] M3 (fun v5 M4 => q_kI yX11_cutAnswer mX11_cutAnswer d [qR 1, qI x1, qI v5] M4 (fun v7 M6 => P v7 M6)))) ∧ ((¬ (v2 = 0)) → P v2 M1))) : q_v mX11_greatest d (qPI P) M 0 [some (qR 1), some (qI x1), none] [] := by
  refine qr_aload_n 0 1 rfl (x := 1) rfl dX11_greatest_0 ?_
  refine qr_iload_n 1 2 rfl (x := x1) rfl dX11_greatest_1 ?_
  refine qw_I 2 5 rfl (av := [qI x1]) ca_X11_refusedCut wm_1131 wp_64 wm_1129 ck11 (by decide +kernel) rfl rfl (Nat.le_of_ble_eq_true rfl) dX11_greatest_2 h (fun v2 M1 h => ?_)
  refine qr_istore_n 5 6 rfl (by decide) rfl rfl dX11_greatest_5 ?_
  refine qr_iload_n 6 7 rfl (x := v2) rfl dX11_greatest_6 ?_
  refine qr_if_eq 7 10 12 rfl (by decide) dX11_greatest_7 (fun c7 => ?_) (fun c7 => ?_)
  · have h := h.1 c7
    refine qr_aload_n 12 13 rfl (x := 1) rfl dX11_greatest_12 ?_
    refine qr_bipush 13 15 rfl (q_l32 _ rfl) (by decide) dX11_greatest_13 ?_
    refine qw_U 15 18 rfl (av := [qI 27]) ca_X11_need wm_791 wp_35 wm_789 ck11 (by decide +kernel) rfl rfl (Nat.le_of_ble_eq_true rfl) dX11_greatest_15 h (fun M3 h => ?_)
    refine qr_aload_n 18 19 rfl (x := 1) rfl dX11_greatest_18 ?_
    refine qr_iload_n 19 20 rfl (x := x1) rfl dX11_greatest_19 ?_
    refine qr_aload_n 20 21 rfl (x := 1) rfl dX11_greatest_20 ?_
    refine qw_I 21 24 rfl (av := []) ca_X11_greatestCut wm_995 wp_56 wm_993 ck11 (by decide +kernel) rfl rfl (Nat.le_of_ble_eq_true rfl) dX11_greatest_21 h (fun v5 M4 h => ?_)
    refine qw_I 24 27 rfl (av := [qI x1, qI v5]) ca_X11_cutAnswer wm_1136 wp_65 wm_1134 ck11 (by decide +kernel) rfl rfl (Nat.le_of_ble_eq_true rfl) dX11_greatest_24 h (fun v7 M6 h => ?_)
    exact qe_i 27 rfl dX11_greatest_27 h
  · have h := h.2 c7
    refine qr_iload_n 10 11 rfl (x := v2) rfl dX11_greatest_10 ?_
    exact qe_i 11 rfl dX11_greatest_11 h
theorem dX11_least_0 : decode cX11_least 0 = .ok (.aload_n 0, 1) := by decide +kernel
theorem dX11_least_1 : decode cX11_least 1 = .ok (.iload_n 1, 1) := by decide +kernel
theorem dX11_least_2 : decode cX11_least 2 = .ok (.invokevirtual 358, 3) := by decide +kernel
theorem dX11_least_5 : decode cX11_least 5 = .ok (.istore_n 2, 1) := by decide +kernel
theorem dX11_least_6 : decode cX11_least 6 = .ok (.iload_n 2, 1) := by decide +kernel
theorem dX11_least_7 : decode cX11_least 7 = .ok (.ifCond .eq 5, 3) := by decide +kernel
theorem dX11_least_10 : decode cX11_least 10 = .ok (.iload_n 2, 1) := by decide +kernel
theorem dX11_least_11 : decode cX11_least 11 = .ok (.ireturn, 1) := by decide +kernel
theorem dX11_least_12 : decode cX11_least 12 = .ok (.aload_n 0, 1) := by decide +kernel
theorem dX11_least_13 : decode cX11_least 13 = .ok (.bipush 43, 2) := by decide +kernel
theorem dX11_least_15 : decode cX11_least 15 = .ok (.invokevirtual 153, 3) := by decide +kernel
theorem dX11_least_18 : decode cX11_least 18 = .ok (.aload_n 0, 1) := by decide +kernel
theorem dX11_least_19 : decode cX11_least 19 = .ok (.iload_n 1, 1) := by decide +kernel
theorem dX11_least_20 : decode cX11_least 20 = .ok (.aload_n 0, 1) := by decide +kernel
theorem dX11_least_21 : decode cX11_least 21 = .ok (.iconst (-1), 1) := by decide +kernel
theorem dX11_least_22 : decode cX11_least 22 = .ok (.invokevirtual 307, 3) := by decide +kernel
theorem dX11_least_25 : decode cX11_least 25 = .ok (.aload_n 0, 1) := by decide +kernel
theorem dX11_least_26 : decode cX11_least 26 = .ok (.getfield 100, 3) := by decide +kernel
theorem dX11_least_29 : decode cX11_least 29 = .ok (.getfield 350, 3) := by decide +kernel
theorem dX11_least_32 : decode cX11_least 32 = .ok (.ixor, 1) := by decide +kernel
theorem dX11_least_33 : decode cX11_least 33 = .ok (.invokevirtual 361, 3) := by decide +kernel
theorem dX11_least_36 : decode cX11_least 36 = .ok (.ireturn, 1) := by decide +kernel
theorem bX11_least_0 {d : Nat} {P : Int → q_Mem → Prop} {M : q_Mem} (x1 : Int) (h : q_kI yX11_refusedCut mX11_refusedCut d [qR 1, qI x1] M (fun v2 M1 => ((v2 = 0) → q_kU yX11_need mX11_need d [qR 1, qI 43] M1 (fun M3 => q_kI yX11_goodLinks mX11_goodLinks d [qR 1, qI (-1)] M3 (fun v5 M4 => q_kI yX11_cutAnswer mX11_cutAnswer d [qR 1, qI x1, qI (q_xor v5 (M4 174 0))] M4 (fun v7 M6 => P v7 M6)))) ∧ ((¬ (v2 = 0)) → P v2 M1))) : q_v mX11_least d (qPI P) M 0 [some (qR 1), some (qI x1), none] [] := by
  refine qr_aload_n 0 1 rfl (x := 1) rfl dX11_least_0 ?_
  refine qr_iload_n 1 2 rfl (x := x1) rfl dX11_least_1 ?_
  refine qw_I 2 5 rfl (av := [qI x1]) ca_X11_refusedCut wm_1131 wp_64 wm_1129 ck11 (by decide +kernel) rfl rfl (Nat.le_of_ble_eq_true rfl) dX11_least_2 h (fun v2 M1 h => ?_)
  refine qr_istore_n 5 6 rfl (by decide) rfl rfl dX11_least_5 ?_
  refine qr_iload_n 6 7 rfl (x := v2) rfl dX11_least_6 ?_
  refine qr_if_eq 7 10 12 rfl (by decide) dX11_least_7 (fun c7 => ?_) (fun c7 => ?_)
  · have h := h.1 c7
    refine qr_aload_n 12 13 rfl (x := 1) rfl dX11_least_12 ?_
    refine qr_bipush 13 15 rfl (q_l32 _ rfl) (by decide) dX11_least_13 ?_
    refine qw_U 15 18 rfl (av := [qI 43]) ca_X11_need wm_791 wp_35 wm_789 ck11 (by decide +kernel) rfl rfl (Nat.le_of_ble_eq_true rfl) dX11_least_15 h (fun M3 h => ?_)
    refine qr_aload_n 18 19 rfl (x := 1) rfl dX11_least_18 ?_
    refine qr_iload_n 19 20 rfl (x := x1) rfl dX11_least_19 ?_
    refine qr_aload_n 20 21 rfl (x := 1) rfl dX11_least_20 ?_
    refine qr_iconst 21 22 rfl (q_l32 _ rfl) dX11_least_21 ?_
    refine qw_I 22 25 rfl (av := [qI (-1)]) ca_X11_goodLinks wm_844 wp_39 wm_842 ck11 (by decide +kernel) rfl rfl (Nat.le_of_ble_eq_true rfl) dX11_least_22 h (fun v5 M4 h => ?_)
    refine qr_aload_n 25 26 rfl (x := 1) rfl dX11_least_25 ?_
    refine qr_getF 26 29 rfl ck11 16 (by decide) (b := 174) (by decide +kernel) rfl (by decide +kernel) (by decide +kernel) wm_393 rfl dX11_least_26 ?_
    refine qg_i 29 32 rfl ck3 0 (kk := 0) (by decide) (by decide +kernel) (by decide +kernel) rfl wm_357 rfl dX11_least_29 ?_
    refine qr_ixor 32 33 rfl dX11_least_32 ?_
    refine qw_I 33 36 rfl (av := [qI x1, qI (q_xor v5 (M4 174 0))]) ca_X11_cutAnswer wm_1136 wp_65 wm_1134 ck11 (by decide +kernel) rfl rfl (Nat.le_of_ble_eq_true rfl) dX11_least_33 h (fun v7 M6 h => ?_)
    exact qe_i 36 rfl dX11_least_36 h
  · have h := h.2 c7
    refine qr_iload_n 10 11 rfl (x := v2) rfl dX11_least_10 ?_
    exact qe_i 11 rfl dX11_least_11 h
theorem dX11_refusedCut_0 : decode cX11_refusedCut 0 = .ok (.iload_n 1, 1) := by decide +kernel
theorem dX11_refusedCut_1 : decode cX11_refusedCut 1 = .ok (.ifCond .lt 8, 3) := by decide +kernel
theorem dX11_refusedCut_4 : decode cX11_refusedCut 4 = .ok (.iload_n 1, 1) := by decide +kernel
theorem dX11_refusedCut_5 : decode cX11_refusedCut 5 = .ok (.iconst 2, 1) := by decide +kernel
theorem dX11_refusedCut_6 : decode cX11_refusedCut 6 = .ok (.if_icmp .le 6, 3) := by decide +kernel
theorem dX11_refusedCut_9 : decode cX11_refusedCut 9 = .ok (.ldc 152, 2) := by decide +kernel
theorem dX11_refusedCut_11 : decode cX11_refusedCut 11 = .ok (.ireturn, 1) := by decide +kernel
theorem dX11_refusedCut_12 : decode cX11_refusedCut 12 = .ok (.aload_n 0, 1) := by decide +kernel
theorem dX11_refusedCut_13 : decode cX11_refusedCut 13 = .ok (.invokevirtual 221, 3) := by decide +kernel
theorem dX11_refusedCut_16 : decode cX11_refusedCut 16 = .ok (.ifCond .eq 7, 3) := by decide +kernel
theorem dX11_refusedCut_19 : decode cX11_refusedCut 19 = .ok (.iconst 0, 1) := by decide +kernel
theorem dX11_refusedCut_20 : decode cX11_refusedCut 20 = .ok (.goto 6, 3) := by decide +kernel
theorem dX11_refusedCut_23 : decode cX11_refusedCut 23 = .ok (.ldc_w 364, 3) := by decide +kernel
theorem dX11_refusedCut_26 : decode cX11_refusedCut 26 = .ok (.ireturn, 1) := by decide +kernel
theorem bX11_refusedCut_0 {d : Nat} {P : Int → q_Mem → Prop} {M : q_Mem} (x1 : Int) (h : ((x1 < 0) → P (-99000002) M) ∧ ((¬ (x1 < 0)) → ((x1 ≤ (2 : Int)) → q_kI yX11_isFlat mX11_isFlat d [qR 1] M (fun v2 M1 => ((v2 = 0) → P (-99000005) M1) ∧ ((¬ (v2 = 0)) → P 0 M1))) ∧ ((¬ (x1 ≤ (2 : Int))) → P (-99000002) M))) : q_v mX11_refusedCut d (qPI P) M 0 [some (qR 1), some (qI x1)] [] := by
  refine qr_iload_n 0 1 rfl (x := x1) rfl dX11_refusedCut_0 ?_
  refine qr_if_lt 1 4 9 rfl (by decide) dX11_refusedCut_1 (fun c1 => ?_) (fun c1 => ?_)
  · have h := h.1 c1
    refine qr_ldc 9 11 rfl (v := (-99000002)) (q_l32 _ rfl) wm_788 dX11_refusedCut_9 ?_
    exact qe_i 11 rfl dX11_refusedCut_11 h
  · have h := h.2 c1
    refine qr_iload_n 4 5 rfl (x := x1) rfl dX11_refusedCut_4 ?_
    refine qr_iconst 5 6 rfl (q_l32 _ rfl) dX11_refusedCut_5 ?_
    refine qr_icmp_le 6 9 12 rfl (by decide) dX11_refusedCut_6 (fun c6 => ?_) (fun c6 => ?_)
    · have h := h.1 c6
      refine qr_aload_n 12 13 rfl (x := 1) rfl dX11_refusedCut_12 ?_
      refine qw_I 13 16 rfl (av := []) ca_X11_isFlat wm_991 wp_55 wm_989 ck11 (by decide +kernel) rfl rfl (Nat.le_of_ble_eq_true rfl) dX11_refusedCut_13 h (fun v2 M1 h => ?_)
      refine qr_if_eq 16 19 23 rfl (by decide) dX11_refusedCut_16 (fun c16 => ?_) (fun c16 => ?_)
      · have h := h.1 c16
        refine qr_ldc_w 23 26 rfl (v := (-99000005)) (q_l32 _ rfl) wm_1133 dX11_refusedCut_23 ?_
        exact qe_i 26 rfl dX11_refusedCut_26 h
      · have h := h.2 c16
        refine qr_iconst 19 20 rfl (q_l32 _ rfl) dX11_refusedCut_19 ?_
        refine qr_goto 20 26 (by decide) dX11_refusedCut_20 ?_
        exact qe_i 26 rfl dX11_refusedCut_26 h
    · have h := h.2 c6
      refine qr_ldc 9 11 rfl (v := (-99000002)) (q_l32 _ rfl) wm_788 dX11_refusedCut_9 ?_
      exact qe_i 11 rfl dX11_refusedCut_11 h
theorem dX11_cutAnswer_0 : decode cX11_cutAnswer 0 = .ok (.iload_n 1, 1) := by decide +kernel
theorem dX11_cutAnswer_1 : decode cX11_cutAnswer 1 = .ok (.ifCond .ne 9, 3) := by decide +kernel
theorem dX11_cutAnswer_4 : decode cX11_cutAnswer 4 = .ok (.aload_n 0, 1) := by decide +kernel
theorem dX11_cutAnswer_5 : decode cX11_cutAnswer 5 = .ok (.iload_n 2, 1) := by decide +kernel
theorem dX11_cutAnswer_6 : decode cX11_cutAnswer 6 = .ok (.invokevirtual 262, 3) := by decide +kernel
theorem dX11_cutAnswer_9 : decode cX11_cutAnswer 9 = .ok (.ireturn, 1) := by decide +kernel
theorem dX11_cutAnswer_10 : decode cX11_cutAnswer 10 = .ok (.iload_n 1, 1) := by decide +kernel
theorem dX11_cutAnswer_11 : decode cX11_cutAnswer 11 = .ok (.iconst 1, 1) := by decide +kernel
theorem dX11_cutAnswer_12 : decode cX11_cutAnswer 12 = .ok (.if_icmp .ne 7, 3) := by decide +kernel
theorem dX11_cutAnswer_15 : decode cX11_cutAnswer 15 = .ok (.iload_n 2, 1) := by decide +kernel
theorem dX11_cutAnswer_16 : decode cX11_cutAnswer 16 = .ok (.goto 15, 3) := by decide +kernel
theorem dX11_cutAnswer_19 : decode cX11_cutAnswer 19 = .ok (.aload_n 0, 1) := by decide +kernel
theorem dX11_cutAnswer_20 : decode cX11_cutAnswer 20 = .ok (.getfield 70, 3) := by decide +kernel
theorem dX11_cutAnswer_23 : decode cX11_cutAnswer 23 = .ok (.aload_n 0, 1) := by decide +kernel
theorem dX11_cutAnswer_24 : decode cX11_cutAnswer 24 = .ok (.getfield 20, 3) := by decide +kernel
theorem dX11_cutAnswer_27 : decode cX11_cutAnswer 27 = .ok (.iload_n 2, 1) := by decide +kernel
theorem dX11_cutAnswer_28 : decode cX11_cutAnswer 28 = .ok (.invokevirtual 228, 3) := by decide +kernel
theorem dX11_cutAnswer_31 : decode cX11_cutAnswer 31 = .ok (.ireturn, 1) := by decide +kernel
theorem bX11_cutAnswer_0 {d : Nat} {P : Int → q_Mem → Prop} {M : q_Mem} (x1 x2 : Int) (h : ((¬ x1 = 0) → ((¬ x1 = (1 : Int)) → q_kI yX6_sidesOf mX6_sidesOf d [qR 91, qR (M 1 4), qI x2] M (fun v2 M1 => P v2 M1)) ∧ ((x1 = (1 : Int)) → P x2 M)) ∧ ((x1 = 0) → q_kI yX11_worthOfCut mX11_worthOfCut d [qR 1, qI x2] M (fun v4 M3 => P v4 M3))) : q_v mX11_cutAnswer d (qPI P) M 0 [some (qR 1), some (qI x1), some (qI x2)] [] := by
  refine qr_iload_n 0 1 rfl (x := x1) rfl dX11_cutAnswer_0 ?_
  refine qr_if_ne 1 4 10 rfl (by decide) dX11_cutAnswer_1 (fun c1 => ?_) (fun c1 => ?_)
  · have h := h.1 c1
    refine qr_iload_n 10 11 rfl (x := x1) rfl dX11_cutAnswer_10 ?_
    refine qr_iconst 11 12 rfl (q_l32 _ rfl) dX11_cutAnswer_11 ?_
    refine qr_icmp_ne 12 15 19 rfl (by decide) dX11_cutAnswer_12 (fun c12 => ?_) (fun c12 => ?_)
    · have h := h.1 c12
      refine qr_aload_n 19 20 rfl (x := 1) rfl dX11_cutAnswer_19 ?_
      refine qr_getF 20 23 rfl ck11 13 (by decide) (b := 91) (by decide +kernel) rfl (by decide +kernel) (by decide +kernel) wm_390 rfl dX11_cutAnswer_20 ?_
      refine qr_aload_n 23 24 rfl (x := 1) rfl dX11_cutAnswer_23 ?_
      refine qg_r 24 27 rfl ck11 4 (kk := 4) (by decide) (by decide +kernel) (by decide +kernel) rfl wm_381 rfl dX11_cutAnswer_24 ?_
      refine qr_iload_n 27 28 rfl (x := x2) rfl dX11_cutAnswer_27 ?_
      refine qw_I 28 31 rfl (av := [qR (M 1 4), qI x2]) ca_X6_sidesOf wm_998 wm_999 wm_997 ck6 (by decide +kernel) rfl rfl (Nat.le_of_ble_eq_true rfl) dX11_cutAnswer_28 h (fun v2 M1 h => ?_)
      exact qe_i 31 rfl dX11_cutAnswer_31 h
    · have h := h.2 c12
      refine qr_iload_n 15 16 rfl (x := x2) rfl dX11_cutAnswer_15 ?_
      refine qr_goto 16 31 (by decide) dX11_cutAnswer_16 ?_
      exact qe_i 31 rfl dX11_cutAnswer_31 h
  · have h := h.2 c1
    refine qr_aload_n 4 5 rfl (x := 1) rfl dX11_cutAnswer_4 ?_
    refine qr_iload_n 5 6 rfl (x := x2) rfl dX11_cutAnswer_5 ?_
    refine qw_I 6 9 rfl (av := [qI x2]) ca_X11_worthOfCut wm_943 wp_49 wm_941 ck11 (by decide +kernel) rfl rfl (Nat.le_of_ble_eq_true rfl) dX11_cutAnswer_6 h (fun v4 M3 h => ?_)
    exact qe_i 9 rfl dX11_cutAnswer_9 h
theorem dX11_greatestCut_0 : decode cX11_greatestCut 0 = .ok (.aload_n 0, 1) := by decide +kernel
theorem dX11_greatestCut_1 : decode cX11_greatestCut 1 = .ok (.iconst 1, 1) := by decide +kernel
theorem dX11_greatestCut_2 : decode cX11_greatestCut 2 = .ok (.invokevirtual 307, 3) := by decide +kernel
theorem dX11_greatestCut_5 : decode cX11_greatestCut 5 = .ok (.aload_n 0, 1) := by decide +kernel
theorem dX11_greatestCut_6 : decode cX11_greatestCut 6 = .ok (.getfield 96, 3) := by decide +kernel
theorem dX11_greatestCut_9 : decode cX11_greatestCut 9 = .ok (.getfield 350, 3) := by decide +kernel
theorem dX11_greatestCut_12 : decode cX11_greatestCut 12 = .ok (.ixor, 1) := by decide +kernel
theorem dX11_greatestCut_13 : decode cX11_greatestCut 13 = .ok (.ireturn, 1) := by decide +kernel
theorem bX11_greatestCut_0 {d : Nat} {P : Int → q_Mem → Prop} {M : q_Mem} (h : q_kI yX11_goodLinks mX11_goodLinks d [qR 1, qI 1] M (fun v2 M1 => P (q_xor v2 (M1 170 0)) M1)) : q_v mX11_greatestCut d (qPI P) M 0 [some (qR 1)] [] := by
  refine qr_aload_n 0 1 rfl (x := 1) rfl dX11_greatestCut_0 ?_
  refine qr_iconst 1 2 rfl (q_l32 _ rfl) dX11_greatestCut_1 ?_
  refine qw_I 2 5 rfl (av := [qI 1]) ca_X11_goodLinks wm_844 wp_39 wm_842 ck11 (by decide +kernel) rfl rfl (Nat.le_of_ble_eq_true rfl) dX11_greatestCut_2 h (fun v2 M1 h => ?_)
  refine qr_aload_n 5 6 rfl (x := 1) rfl dX11_greatestCut_5 ?_
  refine qr_getF 6 9 rfl ck11 15 (by decide) (b := 170) (by decide +kernel) rfl (by decide +kernel) (by decide +kernel) wm_392 rfl dX11_greatestCut_6 ?_
  refine qg_i 9 12 rfl ck3 0 (kk := 0) (by decide) (by decide +kernel) (by decide +kernel) rfl wm_357 rfl dX11_greatestCut_9 ?_
  refine qr_ixor 12 13 rfl dX11_greatestCut_12 ?_
  exact qe_i 13 rfl dX11_greatestCut_13 h
theorem dX11_worth_0 : decode cX11_worth 0 = .ok (.aload_n 0, 1) := by decide +kernel
theorem dX11_worth_1 : decode cX11_worth 1 = .ok (.iconst 2, 1) := by decide +kernel
theorem dX11_worth_2 : decode cX11_worth 2 = .ok (.invokevirtual 153, 3) := by decide +kernel
theorem dX11_worth_5 : decode cX11_worth 5 = .ok (.aload_n 0, 1) := by decide +kernel
theorem dX11_worth_6 : decode cX11_worth 6 = .ok (.aload_n 0, 1) := by decide +kernel
theorem dX11_worth_7 : decode cX11_worth 7 = .ok (.invokevirtual 259, 3) := by decide +kernel
theorem dX11_worth_10 : decode cX11_worth 10 = .ok (.invokevirtual 262, 3) := by decide +kernel
theorem dX11_worth_13 : decode cX11_worth 13 = .ok (.ireturn, 1) := by decide +kernel
theorem bX11_worth_0 {d : Nat} {P : Int → q_Mem → Prop} {M : q_Mem} (h : q_kU yX11_need mX11_need d [qR 1, qI 2] M (fun M1 => q_kI yX11_cutBits mX11_cutBits d [qR 1] M1 (fun v3 M2 => q_kI yX11_worthOfCut mX11_worthOfCut d [qR 1, qI v3] M2 (fun v5 M4 => P v5 M4)))) : q_v mX11_worth d (qPI P) M 0 [some (qR 1)] [] := by
  refine qr_aload_n 0 1 rfl (x := 1) rfl dX11_worth_0 ?_
  refine qr_iconst 1 2 rfl (q_l32 _ rfl) dX11_worth_1 ?_
  refine qw_U 2 5 rfl (av := [qI 2]) ca_X11_need wm_791 wp_35 wm_789 ck11 (by decide +kernel) rfl rfl (Nat.le_of_ble_eq_true rfl) dX11_worth_2 h (fun M1 h => ?_)
  refine qr_aload_n 5 6 rfl (x := 1) rfl dX11_worth_5 ?_
  refine qr_aload_n 6 7 rfl (x := 1) rfl dX11_worth_6 ?_
  refine qw_I 7 10 rfl (av := []) ca_X11_cutBits wm_935 wp_47 wm_933 ck11 (by decide +kernel) rfl rfl (Nat.le_of_ble_eq_true rfl) dX11_worth_7 h (fun v3 M2 h => ?_)
  refine qw_I 10 13 rfl (av := [qI v3]) ca_X11_worthOfCut wm_943 wp_49 wm_941 ck11 (by decide +kernel) rfl rfl (Nat.le_of_ble_eq_true rfl) dX11_worth_10 h (fun v5 M4 h => ?_)
  exact qe_i 13 rfl dX11_worth_13 h
theorem dX11_gain_0 : decode cX11_gain 0 = .ok (.aload_n 0, 1) := by decide +kernel
theorem dX11_gain_1 : decode cX11_gain 1 = .ok (.iload_n 1, 1) := by decide +kernel
theorem dX11_gain_2 : decode cX11_gain 2 = .ok (.invokevirtual 156, 3) := by decide +kernel
theorem dX11_gain_5 : decode cX11_gain 5 = .ok (.ifCond .ne 6, 3) := by decide +kernel
theorem dX11_gain_8 : decode cX11_gain 8 = .ok (.ldc 152, 2) := by decide +kernel
theorem dX11_gain_10 : decode cX11_gain 10 = .ok (.ireturn, 1) := by decide +kernel
theorem dX11_gain_11 : decode cX11_gain 11 = .ok (.aload_n 0, 1) := by decide +kernel
theorem dX11_gain_12 : decode cX11_gain 12 = .ok (.iconst 2, 1) := by decide +kernel
theorem dX11_gain_13 : decode cX11_gain 13 = .ok (.invokevirtual 153, 3) := by decide +kernel
theorem dX11_gain_16 : decode cX11_gain 16 = .ok (.aload_n 0, 1) := by decide +kernel
theorem dX11_gain_17 : decode cX11_gain 17 = .ok (.iload_n 1, 1) := by decide +kernel
theorem dX11_gain_18 : decode cX11_gain 18 = .ok (.invokevirtual 217, 3) := by decide +kernel
theorem dX11_gain_21 : decode cX11_gain 21 = .ok (.ireturn, 1) := by decide +kernel
theorem bX11_gain_0 {d : Nat} {P : Int → q_Mem → Prop} {M : q_Mem} (x1 : Int) (h : q_kI yX11_hasNode mX11_hasNode d [qR 1, qI x1] M (fun v2 M1 => ((¬ v2 = 0) → q_kU yX11_need mX11_need d [qR 1, qI 2] M1 (fun M3 => q_kI yX11_gainOf mX11_gainOf d [qR 1, qI x1] M3 (fun v5 M4 => P v5 M4))) ∧ ((v2 = 0) → P (-99000002) M1))) : q_v mX11_gain d (qPI P) M 0 [some (qR 1), some (qI x1)] [] := by
  refine qr_aload_n 0 1 rfl (x := 1) rfl dX11_gain_0 ?_
  refine qr_iload_n 1 2 rfl (x := x1) rfl dX11_gain_1 ?_
  refine qw_I 2 5 rfl (av := [qI x1]) ca_X11_hasNode wm_896 wp_44 wm_894 ck11 (by decide +kernel) rfl rfl (Nat.le_of_ble_eq_true rfl) dX11_gain_2 h (fun v2 M1 h => ?_)
  refine qr_if_ne 5 8 11 rfl (by decide) dX11_gain_5 (fun c5 => ?_) (fun c5 => ?_)
  · have h := h.1 c5
    refine qr_aload_n 11 12 rfl (x := 1) rfl dX11_gain_11 ?_
    refine qr_iconst 12 13 rfl (q_l32 _ rfl) dX11_gain_12 ?_
    refine qw_U 13 16 rfl (av := [qI 2]) ca_X11_need wm_791 wp_35 wm_789 ck11 (by decide +kernel) rfl rfl (Nat.le_of_ble_eq_true rfl) dX11_gain_13 h (fun M3 h => ?_)
    refine qr_aload_n 16 17 rfl (x := 1) rfl dX11_gain_16 ?_
    refine qr_iload_n 17 18 rfl (x := x1) rfl dX11_gain_17 ?_
    refine qw_I 18 21 rfl (av := [qI x1]) ca_X11_gainOf wm_982 wp_54 wm_980 ck11 (by decide +kernel) rfl rfl (Nat.le_of_ble_eq_true rfl) dX11_gain_18 h (fun v5 M4 h => ?_)
    exact qe_i 21 rfl dX11_gain_21 h
  · have h := h.2 c5
    refine qr_ldc 8 10 rfl (v := (-99000002)) (q_l32 _ rfl) wm_788 dX11_gain_8 ?_
    exact qe_i 10 rfl dX11_gain_10 h
