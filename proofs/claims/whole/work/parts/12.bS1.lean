-- blocks of methods (by program)
theorem dX7_takeFrom_0 : decode cX7_takeFrom 0 = .ok (.aload_n 0, 1) := by decide +kernel
theorem dX7_takeFrom_1 : decode cX7_takeFrom 1 = .ok (.aload_n 1, 1) := by decide +kernel
theorem dX7_takeFrom_2 : decode cX7_takeFrom 2 = .ok (.getfield 18, 3) := by decide +kernel
theorem dX7_takeFrom_5 : decode cX7_takeFrom 5 = .ok (.putfield 18, 3) := by decide +kernel
theorem dX7_takeFrom_8 : decode cX7_takeFrom 8 = .ok (.aload_n 0, 1) := by decide +kernel
theorem dX7_takeFrom_9 : decode cX7_takeFrom 9 = .ok (.aload_n 1, 1) := by decide +kernel
theorem dX7_takeFrom_10 : decode cX7_takeFrom 10 = .ok (.getfield 22, 3) := by decide +kernel
theorem dX7_takeFrom_13 : decode cX7_takeFrom 13 = .ok (.putfield 22, 3) := by decide +kernel
theorem dX7_takeFrom_16 : decode cX7_takeFrom 16 = .ok (.aload_n 1, 1) := by decide +kernel
theorem dX7_takeFrom_17 : decode cX7_takeFrom 17 = .ok (.getfield 9, 3) := by decide +kernel
theorem dX7_takeFrom_20 : decode cX7_takeFrom 20 = .ok (.iconst 0, 1) := by decide +kernel
theorem dX7_takeFrom_21 : decode cX7_takeFrom 21 = .ok (.aload_n 0, 1) := by decide +kernel
theorem dX7_takeFrom_22 : decode cX7_takeFrom 22 = .ok (.getfield 9, 3) := by decide +kernel
theorem dX7_takeFrom_25 : decode cX7_takeFrom 25 = .ok (.iconst 0, 1) := by decide +kernel
theorem dX7_takeFrom_26 : decode cX7_takeFrom 26 = .ok (.bipush 16, 2) := by decide +kernel
theorem dX7_takeFrom_28 : decode cX7_takeFrom 28 = .ok (.invokestatic 25, 3) := by decide +kernel
theorem dX7_takeFrom_31 : decode cX7_takeFrom 31 = .ok (.aload_n 1, 1) := by decide +kernel
theorem dX7_takeFrom_32 : decode cX7_takeFrom 32 = .ok (.getfield 15, 3) := by decide +kernel
theorem dX7_takeFrom_35 : decode cX7_takeFrom 35 = .ok (.iconst 0, 1) := by decide +kernel
theorem dX7_takeFrom_36 : decode cX7_takeFrom 36 = .ok (.aload_n 0, 1) := by decide +kernel
theorem dX7_takeFrom_37 : decode cX7_takeFrom 37 = .ok (.getfield 15, 3) := by decide +kernel
theorem dX7_takeFrom_40 : decode cX7_takeFrom 40 = .ok (.iconst 0, 1) := by decide +kernel
theorem dX7_takeFrom_41 : decode cX7_takeFrom 41 = .ok (.sipush 160, 3) := by decide +kernel
theorem dX7_takeFrom_44 : decode cX7_takeFrom 44 = .ok (.invokestatic 25, 3) := by decide +kernel
theorem dX7_takeFrom_47 : decode cX7_takeFrom 47 = .ok (.return_, 1) := by decide +kernel
theorem bX7_takeFrom_0 {d : Nat} {P : q_Mem → Prop} {M : q_Mem} (x0 x1 : Int) (k0 : q_kd x0 = 7) (k1 : q_kd x1 = 7) (h : (∀ M1 : q_Mem, M1 = q_up M x0 0 (M x1 0) → (∀ M2 : q_Mem, M2 = q_up M1 x0 1 (M1 x1 1) → ((0 ≤ (0 : Int) ∧ 0 ≤ (0 : Int) ∧ 0 ≤ (16 : Int)) ∧ ((0 : Int) + 16 ≤ 16 ∧ (0 : Int) + 16 ≤ 16) ∧ 1 ≤ d) ∧ (∀ M4 : q_Mem, M4 = q_cp M2 (q_lay x1 2) 0 (q_lay x0 2) 0 16 → ((0 ≤ (0 : Int) ∧ 0 ≤ (0 : Int) ∧ 0 ≤ (160 : Int)) ∧ ((0 : Int) + 160 ≤ 160 ∧ (0 : Int) + 160 ≤ 160) ∧ 1 ≤ d) ∧ (∀ M6 : q_Mem, M6 = q_cp M4 (q_lay x1 3) 0 (q_lay x0 3) 0 160 → P M6))))) : q_v mX7_takeFrom d (qPU P) M 0 [some (qR x0), some (qR x1)] [] := by
  refine qr_aload_n 0 1 rfl (x := x0) rfl dX7_takeFrom_0 ?_
  refine qr_aload_n 1 2 rfl (x := x1) rfl dX7_takeFrom_1 ?_
  refine qg_i 2 5 rfl ck7 0 (kk := 0) (by decide) k1 (by decide +kernel) rfl wm_165 rfl dX7_takeFrom_2 ?_
  refine qp_i 5 8 rfl ck7 0 (kk := 0) (by decide) k0 (by decide) rfl rfl wm_165 rfl dX7_takeFrom_5 (fun M1 e_M1 => ?_)
  have h := h M1 e_M1
  refine qr_aload_n 8 9 rfl (x := x0) rfl dX7_takeFrom_8 ?_
  refine qr_aload_n 9 10 rfl (x := x1) rfl dX7_takeFrom_9 ?_
  refine qg_i 10 13 rfl ck7 1 (kk := 1) (by decide) k1 (by decide +kernel) rfl wm_168 rfl dX7_takeFrom_10 ?_
  refine qp_i 13 16 rfl ck7 1 (kk := 1) (by decide) k0 (by decide) rfl rfl wm_168 rfl dX7_takeFrom_13 (fun M2 e_M2 => ?_)
  have h := h M2 e_M2
  refine qr_aload_n 16 17 rfl (x := x1) rfl dX7_takeFrom_16 ?_
  refine qr_getF 17 20 rfl ck7 2 (by decide) (b := (q_lay x1 2)) k1 rfl (by decide +kernel) rfl wm_171 rfl dX7_takeFrom_17 ?_
  refine qr_iconst 20 21 rfl (q_l32 _ rfl) dX7_takeFrom_20 ?_
  refine qr_aload_n 21 22 rfl (x := x0) rfl dX7_takeFrom_21 ?_
  refine qr_getF 22 25 rfl ck7 2 (by decide) (b := (q_lay x0 2)) k0 rfl (by decide +kernel) rfl wm_171 rfl dX7_takeFrom_22 ?_
  refine qr_iconst 25 26 rfl (q_l32 _ rfl) dX7_takeFrom_25 ?_
  refine qr_bipush 26 28 rfl (q_l32 _ rfl) (by decide) dX7_takeFrom_26 ?_
  have hb3 := h.1
  have h := h.2
  refine qr_copy 28 31 rfl (N1 := 16) (N2 := 16) (lk7_2 _ k1) (lk7_2 _ k0) (ll7_2 _ k1) (ll7_2 _ k0) hb3.1.1 hb3.1.2.1 hb3.1.2.2 hb3.2.1.1 hb3.2.1.2 hb3.2.2 (Nat.le_of_ble_eq_true rfl) wm_919 dX7_takeFrom_28 (fun M4 e_M4 => ?_)
  have h := h M4 e_M4
  refine qr_aload_n 31 32 rfl (x := x1) rfl dX7_takeFrom_31 ?_
  refine qr_getF 32 35 rfl ck7 3 (by decide) (b := (q_lay x1 3)) k1 rfl (by decide +kernel) rfl wm_174 rfl dX7_takeFrom_32 ?_
  refine qr_iconst 35 36 rfl (q_l32 _ rfl) dX7_takeFrom_35 ?_
  refine qr_aload_n 36 37 rfl (x := x0) rfl dX7_takeFrom_36 ?_
  refine qr_getF 37 40 rfl ck7 3 (by decide) (b := (q_lay x0 3)) k0 rfl (by decide +kernel) rfl wm_174 rfl dX7_takeFrom_37 ?_
  refine qr_iconst 40 41 rfl (q_l32 _ rfl) dX7_takeFrom_40 ?_
  refine qr_sipush 41 44 rfl (q_l32 _ rfl) (by decide) dX7_takeFrom_41 ?_
  have hb5 := h.1
  have h := h.2
  refine qr_copy 44 47 rfl (N1 := 160) (N2 := 160) (lk7_3 _ k1) (lk7_3 _ k0) (ll7_3 _ k1) (ll7_3 _ k0) hb5.1.1 hb5.1.2.1 hb5.1.2.2 hb5.2.1.1 hb5.2.1.2 hb5.2.2 (Nat.le_of_ble_eq_true rfl) wm_919 dX7_takeFrom_44 (fun M6 e_M6 => ?_)
  have h := h M6 e_M6
  exact qe_u 47 rfl dX7_takeFrom_47 h
theorem dX8_workOut_0 : decode cX8_workOut 0 = .ok (.aload_n 0, 1) := by decide +kernel
theorem dX8_workOut_1 : decode cX8_workOut 1 = .ok (.aload_n 1, 1) := by decide +kernel
theorem dX8_workOut_2 : decode cX8_workOut 2 = .ok (.getfield 27, 3) := by decide +kernel
theorem dX8_workOut_5 : decode cX8_workOut 5 = .ok (.putfield 33, 3) := by decide +kernel
theorem dX8_workOut_8 : decode cX8_workOut 8 = .ok (.aload_n 0, 1) := by decide +kernel
theorem dX8_workOut_9 : decode cX8_workOut 9 = .ok (.iconst 1, 1) := by decide +kernel
theorem dX8_workOut_10 : decode cX8_workOut 10 = .ok (.aload_n 0, 1) := by decide +kernel
theorem dX8_workOut_11 : decode cX8_workOut 11 = .ok (.getfield 33, 3) := by decide +kernel
theorem dX8_workOut_14 : decode cX8_workOut 14 = .ok (.ishl, 1) := by decide +kernel
theorem dX8_workOut_15 : decode cX8_workOut 15 = .ok (.putfield 34, 3) := by decide +kernel
theorem dX8_workOut_18 : decode cX8_workOut 18 = .ok (.aload_n 0, 1) := by decide +kernel
theorem dX8_workOut_19 : decode cX8_workOut 19 = .ok (.iconst 0, 1) := by decide +kernel
theorem dX8_workOut_20 : decode cX8_workOut 20 = .ok (.putfield 37, 3) := by decide +kernel
theorem dX8_workOut_23 : decode cX8_workOut 23 = .ok (.aload_n 0, 1) := by decide +kernel
theorem dX8_workOut_24 : decode cX8_workOut 24 = .ok (.iconst 0, 1) := by decide +kernel
theorem dX8_workOut_25 : decode cX8_workOut 25 = .ok (.putfield 40, 3) := by decide +kernel
theorem dX8_workOut_28 : decode cX8_workOut 28 = .ok (.iconst 0, 1) := by decide +kernel
theorem dX8_workOut_29 : decode cX8_workOut 29 = .ok (.istore_n 3, 1) := by decide +kernel
theorem dX8_workOut_30 : decode cX8_workOut 30 = .ok (.iload_n 3, 1) := by decide +kernel
theorem dX8_workOut_31 : decode cX8_workOut 31 = .ok (.aload_n 0, 1) := by decide +kernel
theorem dX8_workOut_32 : decode cX8_workOut 32 = .ok (.getfield 34, 3) := by decide +kernel
theorem dX8_workOut_35 : decode cX8_workOut 35 = .ok (.if_icmp .ge 97, 3) := by decide +kernel
theorem dX8_workOut_38 : decode cX8_workOut 38 = .ok (.iconst 0, 1) := by decide +kernel
theorem dX8_workOut_39 : decode cX8_workOut 39 = .ok (.istore 4, 2) := by decide +kernel
theorem dX8_workOut_41 : decode cX8_workOut 41 = .ok (.iconst 0, 1) := by decide +kernel
theorem dX8_workOut_42 : decode cX8_workOut 42 = .ok (.istore 5, 2) := by decide +kernel
theorem dX8_workOut_44 : decode cX8_workOut 44 = .ok (.iload 5, 2) := by decide +kernel
theorem dX8_workOut_46 : decode cX8_workOut 46 = .ok (.aload_n 1, 1) := by decide +kernel
theorem dX8_workOut_47 : decode cX8_workOut 47 = .ok (.getfield 43, 3) := by decide +kernel
theorem dX8_workOut_50 : decode cX8_workOut 50 = .ok (.if_icmp .ge 42, 3) := by decide +kernel
theorem dX8_workOut_53 : decode cX8_workOut 53 = .ok (.iload_n 3, 1) := by decide +kernel
theorem dX8_workOut_54 : decode cX8_workOut 54 = .ok (.aload_n 1, 1) := by decide +kernel
theorem dX8_workOut_55 : decode cX8_workOut 55 = .ok (.getfield 46, 3) := by decide +kernel
theorem dX8_workOut_58 : decode cX8_workOut 58 = .ok (.iload 5, 2) := by decide +kernel
theorem dX8_workOut_60 : decode cX8_workOut 60 = .ok (.iaload, 1) := by decide +kernel
theorem dX8_workOut_61 : decode cX8_workOut 61 = .ok (.ishr, 1) := by decide +kernel
theorem dX8_workOut_62 : decode cX8_workOut 62 = .ok (.iload_n 3, 1) := by decide +kernel
theorem dX8_workOut_63 : decode cX8_workOut 63 = .ok (.aload_n 1, 1) := by decide +kernel
theorem dX8_workOut_64 : decode cX8_workOut 64 = .ok (.getfield 49, 3) := by decide +kernel
theorem dX8_workOut_67 : decode cX8_workOut 67 = .ok (.iload 5, 2) := by decide +kernel
theorem dX8_workOut_69 : decode cX8_workOut 69 = .ok (.iaload, 1) := by decide +kernel
theorem dX8_workOut_70 : decode cX8_workOut 70 = .ok (.ishr, 1) := by decide +kernel
theorem dX8_workOut_71 : decode cX8_workOut 71 = .ok (.ixor, 1) := by decide +kernel
theorem dX8_workOut_72 : decode cX8_workOut 72 = .ok (.iconst 1, 1) := by decide +kernel
theorem dX8_workOut_73 : decode cX8_workOut 73 = .ok (.iand, 1) := by decide +kernel
theorem dX8_workOut_74 : decode cX8_workOut 74 = .ok (.ifCond .eq 12, 3) := by decide +kernel
theorem dX8_workOut_77 : decode cX8_workOut 77 = .ok (.iload 4, 2) := by decide +kernel
theorem dX8_workOut_79 : decode cX8_workOut 79 = .ok (.aload_n 2, 1) := by decide +kernel
theorem dX8_workOut_80 : decode cX8_workOut 80 = .ok (.iload 5, 2) := by decide +kernel
theorem dX8_workOut_82 : decode cX8_workOut 82 = .ok (.iaload, 1) := by decide +kernel
theorem dX8_workOut_83 : decode cX8_workOut 83 = .ok (.iadd, 1) := by decide +kernel
theorem dX8_workOut_84 : decode cX8_workOut 84 = .ok (.istore 4, 2) := by decide +kernel
theorem dX8_workOut_86 : decode cX8_workOut 86 = .ok (.iinc 5 1, 3) := by decide +kernel
theorem dX8_workOut_89 : decode cX8_workOut 89 = .ok (.goto (-45), 3) := by decide +kernel
theorem dX8_workOut_92 : decode cX8_workOut 92 = .ok (.aload_n 0, 1) := by decide +kernel
theorem dX8_workOut_93 : decode cX8_workOut 93 = .ok (.getfield 9, 3) := by decide +kernel
theorem dX8_workOut_96 : decode cX8_workOut 96 = .ok (.iload_n 3, 1) := by decide +kernel
theorem dX8_workOut_97 : decode cX8_workOut 97 = .ok (.iload 4, 2) := by decide +kernel
theorem dX8_workOut_99 : decode cX8_workOut 99 = .ok (.iastore, 1) := by decide +kernel
theorem dX8_workOut_100 : decode cX8_workOut 100 = .ok (.aload_n 0, 1) := by decide +kernel
theorem dX8_workOut_101 : decode cX8_workOut 101 = .ok (.aload_n 0, 1) := by decide +kernel
theorem dX8_workOut_102 : decode cX8_workOut 102 = .ok (.getfield 37, 3) := by decide +kernel
theorem dX8_workOut_105 : decode cX8_workOut 105 = .ok (.iload 4, 2) := by decide +kernel
theorem dX8_workOut_107 : decode cX8_workOut 107 = .ok (.invokestatic 52, 3) := by decide +kernel
theorem dX8_workOut_110 : decode cX8_workOut 110 = .ok (.putfield 37, 3) := by decide +kernel
theorem dX8_workOut_113 : decode cX8_workOut 113 = .ok (.aload_n 0, 1) := by decide +kernel
theorem dX8_workOut_114 : decode cX8_workOut 114 = .ok (.aload_n 0, 1) := by decide +kernel
theorem dX8_workOut_115 : decode cX8_workOut 115 = .ok (.getfield 40, 3) := by decide +kernel
theorem dX8_workOut_118 : decode cX8_workOut 118 = .ok (.iload 4, 2) := by decide +kernel
theorem dX8_workOut_120 : decode cX8_workOut 120 = .ok (.invokestatic 58, 3) := by decide +kernel
theorem dX8_workOut_123 : decode cX8_workOut 123 = .ok (.putfield 40, 3) := by decide +kernel
theorem dX8_workOut_126 : decode cX8_workOut 126 = .ok (.iinc 3 1, 3) := by decide +kernel
theorem dX8_workOut_129 : decode cX8_workOut 129 = .ok (.goto (-99), 3) := by decide +kernel
theorem dX8_workOut_132 : decode cX8_workOut 132 = .ok (.return_, 1) := by decide +kernel
theorem bX8_workOut_0 {d : Nat} {P : q_Mem → Prop} {M : q_Mem} (x1 x2 : Int) (k1 : q_kd x1 = 4) (k2 : q_kd x2 = 14) (h : (∀ M1 : q_Mem, M1 = q_up M 117 2 (M x1 0) → (∀ M2 : q_Mem, M2 = q_up M1 117 3 (q_shl 1 (M1 117 2)) → (∀ M3 : q_Mem, M3 = q_up M2 117 0 0 → (∀ M4 : q_Mem, M4 = q_up M3 117 1 0 → q_v mX8_workOut d (qPU P) M4 30 [some (qR 117), some (qR x1), some (qR x2), some (qI 0), none, none] []))))) : q_v mX8_workOut d (qPU P) M 0 [some (qR 117), some (qR x1), some (qR x2), none, none, none] [] := by
  refine qr_aload_n 0 1 rfl (x := 117) rfl dX8_workOut_0 ?_
  refine qr_aload_n 1 2 rfl (x := x1) rfl dX8_workOut_1 ?_
  refine qg_i 2 5 rfl ck4 0 (kk := 0) (by decide) k1 (by decide +kernel) rfl wm_60 rfl dX8_workOut_2 ?_
  refine qp_i 5 8 rfl ck8 2 (kk := 2) (by decide) (by decide +kernel) (by decide) rfl rfl wm_283 rfl dX8_workOut_5 (fun M1 e_M1 => ?_)
  have h := h M1 e_M1
  refine qr_aload_n 8 9 rfl (x := 117) rfl dX8_workOut_8 ?_
  refine qr_iconst 9 10 rfl (q_l32 _ rfl) dX8_workOut_9 ?_
  refine qr_aload_n 10 11 rfl (x := 117) rfl dX8_workOut_10 ?_
  refine qg_i 11 14 rfl ck8 2 (kk := 2) (by decide) (by decide +kernel) (by decide +kernel) rfl wm_283 rfl dX8_workOut_11 ?_
  refine qr_ishl 14 15 rfl dX8_workOut_14 ?_
  refine qp_i 15 18 rfl ck8 3 (kk := 3) (by decide) (by decide +kernel) (by decide) rfl rfl wm_284 rfl dX8_workOut_15 (fun M2 e_M2 => ?_)
  have h := h M2 e_M2
  refine qr_aload_n 18 19 rfl (x := 117) rfl dX8_workOut_18 ?_
  refine qr_iconst 19 20 rfl (q_l32 _ rfl) dX8_workOut_19 ?_
  refine qp_i 20 23 rfl ck8 0 (kk := 0) (by decide) (by decide +kernel) (by decide) rfl rfl wm_279 rfl dX8_workOut_20 (fun M3 e_M3 => ?_)
  have h := h M3 e_M3
  refine qr_aload_n 23 24 rfl (x := 117) rfl dX8_workOut_23 ?_
  refine qr_iconst 24 25 rfl (q_l32 _ rfl) dX8_workOut_24 ?_
  refine qp_i 25 28 rfl ck8 1 (kk := 1) (by decide) (by decide +kernel) (by decide) rfl rfl wm_281 rfl dX8_workOut_25 (fun M4 e_M4 => ?_)
  have h := h M4 e_M4
  refine qr_iconst 28 29 rfl (q_l32 _ rfl) dX8_workOut_28 ?_
  refine qr_istore_n 29 30 rfl (by decide) rfl rfl dX8_workOut_29 ?_
  exact h
theorem bX8_workOut_30 {d : Nat} {P : q_Mem → Prop} {M : q_Mem} (x1 x2 x3 : Int) (k1 : q_kd x1 = 4) (k2 : q_kd x2 = 14) (h : (((M 117 3) ≤ x3) → P M) ∧ ((¬ ((M 117 3) ≤ x3)) → q_v mX8_workOut d (qPU P) M 44 [some (qR 117), some (qR x1), some (qR x2), some (qI x3), some (qI 0), some (qI 0)] [])) : q_v mX8_workOut d (qPU P) M 30 [some (qR 117), some (qR x1), some (qR x2), some (qI x3), none, none] [] := by
  refine qr_iload_n 30 31 rfl (x := x3) rfl dX8_workOut_30 ?_
  refine qr_aload_n 31 32 rfl (x := 117) rfl dX8_workOut_31 ?_
  refine qg_i 32 35 rfl ck8 3 (kk := 3) (by decide) (by decide +kernel) (by decide +kernel) rfl wm_284 rfl dX8_workOut_32 ?_
  refine qr_icmp_ge 35 38 132 rfl (by decide) dX8_workOut_35 (fun c35 => ?_) (fun c35 => ?_)
  · have h := h.1 c35
    exact qe_u 132 rfl dX8_workOut_132 h
  · have h := h.2 c35
    refine qr_iconst 38 39 rfl (q_l32 _ rfl) dX8_workOut_38 ?_
    refine qr_istore 39 41 rfl (by decide) rfl rfl dX8_workOut_39 ?_
    refine qr_iconst 41 42 rfl (q_l32 _ rfl) dX8_workOut_41 ?_
    refine qr_istore 42 44 rfl (by decide) rfl rfl dX8_workOut_42 ?_
    exact h
theorem bX8_workOut_44 {d : Nat} {P : q_Mem → Prop} {M : q_Mem} (x1 x2 x3 x4 x5 : Int) (k1 : q_kd x1 = 4) (k2 : q_kd x2 = 14) (h : (((M x1 1) ≤ x5) → (0 ≤ x3 ∧ x3 < (1024 : Int)) ∧ (∀ M2 : q_Mem, M2 = q_up M 118 x3 x4 → q_kI yJ9_max_7cf53 mJ9_max_7cf53 d [qI (M2 117 0), qI x4] M2 (fun v4 M3 => (∀ M5 : q_Mem, M5 = q_up M3 117 0 v4 → q_kI yJ9_min_7cf53 mJ9_min_7cf53 d [qI (M5 117 1), qI x4] M5 (fun v7 M6 => (∀ M8 : q_Mem, M8 = q_up M6 117 1 v7 → q_v mX8_workOut d (qPU P) M8 30 [some (qR 117), some (qR x1), some (qR x2), some (qI (q_add x3 1)), none, none] [])))))) ∧ ((¬ ((M x1 1) ≤ x5)) → (0 ≤ x5 ∧ x5 < (16 : Int)) ∧ ((0 ≤ x5 ∧ x5 < (16 : Int)) ∧ ((((q_and (q_xor (q_shr x3 (M (q_lay x1 4) x5)) (q_shr x3 (M (q_lay x1 5) x5))) 1) = 0) → q_v mX8_workOut d (qPU P) M 44 [some (qR 117), some (qR x1), some (qR x2), some (qI x3), some (qI x4), some (qI (q_add x5 1))] []) ∧ ((¬ ((q_and (q_xor (q_shr x3 (M (q_lay x1 4) x5)) (q_shr x3 (M (q_lay x1 5) x5))) 1) = 0)) → (0 ≤ x5 ∧ x5 < (q_ln x2 : Int)) ∧ (∀ x4_12 : Int, x4_12 = (q_add x4 (M x2 x5)) → q_v mX8_workOut d (qPU P) M 44 [some (qR 117), some (qR x1), some (qR x2), some (qI x3), some (qI x4_12), some (qI (q_add x5 1))] [])))))) : q_v mX8_workOut d (qPU P) M 44 [some (qR 117), some (qR x1), some (qR x2), some (qI x3), some (qI x4), some (qI x5)] [] := by
  refine qr_iload 44 46 rfl (x := x5) rfl dX8_workOut_44 ?_
  refine qr_aload_n 46 47 rfl (x := x1) rfl dX8_workOut_46 ?_
  refine qg_i 47 50 rfl ck4 1 (kk := 1) (by decide) k1 (by decide +kernel) rfl wm_65 rfl dX8_workOut_47 ?_
  refine qr_icmp_ge 50 53 92 rfl (by decide) dX8_workOut_50 (fun c50 => ?_) (fun c50 => ?_)
  · have h := h.1 c50
    refine qr_aload_n 92 93 rfl (x := 117) rfl dX8_workOut_92 ?_
    refine qr_getF 93 96 rfl ck8 4 (by decide) (b := 118) (by decide +kernel) rfl (by decide +kernel) (by decide +kernel) wm_285 rfl dX8_workOut_93 ?_
    refine qr_iload_n 96 97 rfl (x := x3) rfl dX8_workOut_96 ?_
    refine qr_iload 97 99 rfl (x := x4) rfl dX8_workOut_97 ?_
    have hb1 := h.1
    have h := h.2
    refine qi_st 99 100 rfl (N := 1024) (by decide +kernel) (by decide +kernel) hb1.1 hb1.2 dX8_workOut_99 (fun M2 e_M2 => ?_)
    have h := h M2 e_M2
    refine qr_aload_n 100 101 rfl (x := 117) rfl dX8_workOut_100 ?_
    refine qr_aload_n 101 102 rfl (x := 117) rfl dX8_workOut_101 ?_
    refine qg_i 102 105 rfl ck8 0 (kk := 0) (by decide) (by decide +kernel) (by decide +kernel) rfl wm_279 rfl dX8_workOut_102 ?_
    refine qr_iload 105 107 rfl (x := x4) rfl dX8_workOut_105 ?_
    refine qs_I 107 110 rfl (av := [qI (M2 117 0), qI x4]) ca_J9_max_7cf53 wm_520 wm_826 rfl rfl (Nat.le_of_ble_eq_true rfl) dX8_workOut_107 h (fun v4 M3 h => ?_)
    refine qp_i 110 113 rfl ck8 0 (kk := 0) (by decide) (by decide +kernel) (by decide) rfl rfl wm_279 rfl dX8_workOut_110 (fun M5 e_M5 => ?_)
    have h := h M5 e_M5
    refine qr_aload_n 113 114 rfl (x := 117) rfl dX8_workOut_113 ?_
    refine qr_aload_n 114 115 rfl (x := 117) rfl dX8_workOut_114 ?_
    refine qg_i 115 118 rfl ck8 1 (kk := 1) (by decide) (by decide +kernel) (by decide +kernel) rfl wm_281 rfl dX8_workOut_115 ?_
    refine qr_iload 118 120 rfl (x := x4) rfl dX8_workOut_118 ?_
    refine qs_I 120 123 rfl (av := [qI (M5 117 1), qI x4]) ca_J9_min_7cf53 wm_452 wm_827 rfl rfl (Nat.le_of_ble_eq_true rfl) dX8_workOut_120 h (fun v7 M6 h => ?_)
    refine qp_i 123 126 rfl ck8 1 (kk := 1) (by decide) (by decide +kernel) (by decide) rfl rfl wm_281 rfl dX8_workOut_123 (fun M8 e_M8 => ?_)
    have h := h M8 e_M8
    refine qr_iinc 126 129 rfl (by decide) (x := x3) rfl rfl rfl dX8_workOut_126 ?_
    refine qr_goto 129 30 (by decide) dX8_workOut_129 ?_
    exact qr_cut 30 (ls' := [some (qR 117), some (qR x1), some (qR x2), some (qI (q_add x3 1)), none, none]) (And.intro rfl (And.intro rfl (And.intro rfl (And.intro rfl trivial)))) h
  · have h := h.2 c50
    refine qr_iload_n 53 54 rfl (x := x3) rfl dX8_workOut_53 ?_
    refine qr_aload_n 54 55 rfl (x := x1) rfl dX8_workOut_54 ?_
    refine qr_getF 55 58 rfl ck4 4 (by decide) (b := (q_lay x1 4)) k1 rfl (by decide +kernel) rfl wm_75 rfl dX8_workOut_55 ?_
    refine qr_iload 58 60 rfl (x := x5) rfl dX8_workOut_58 ?_
    have hb9 := h.1
    have h := h.2
    refine qi_ld 60 61 rfl (N := 16) (lk4_4 _ k1) (ll4_4 _ k1) hb9.1 hb9.2 dX8_workOut_60 ?_
    refine qr_ishr 61 62 rfl dX8_workOut_61 ?_
    refine qr_iload_n 62 63 rfl (x := x3) rfl dX8_workOut_62 ?_
    refine qr_aload_n 63 64 rfl (x := x1) rfl dX8_workOut_63 ?_
    refine qr_getF 64 67 rfl ck4 5 (by decide) (b := (q_lay x1 5)) k1 rfl (by decide +kernel) rfl wm_79 rfl dX8_workOut_64 ?_
    refine qr_iload 67 69 rfl (x := x5) rfl dX8_workOut_67 ?_
    have hb10 := h.1
    have h := h.2
    refine qi_ld 69 70 rfl (N := 16) (lk4_5 _ k1) (ll4_5 _ k1) hb10.1 hb10.2 dX8_workOut_69 ?_
    refine qr_ishr 70 71 rfl dX8_workOut_70 ?_
    refine qr_ixor 71 72 rfl dX8_workOut_71 ?_
    refine qr_iconst 72 73 rfl (q_l32 _ rfl) dX8_workOut_72 ?_
    refine qr_iand 73 74 rfl dX8_workOut_73 ?_
    refine qr_if_eq 74 77 86 rfl (by decide) dX8_workOut_74 (fun c74 => ?_) (fun c74 => ?_)
    · have h := h.1 c74
      refine qr_iinc 86 89 rfl (by decide) (x := x5) rfl rfl rfl dX8_workOut_86 ?_
      refine qr_goto 89 44 (by decide) dX8_workOut_89 ?_
      exact h
    · have h := h.2 c74
      refine qr_iload 77 79 rfl (x := x4) rfl dX8_workOut_77 ?_
      refine qr_aload_n 79 80 rfl (x := x2) rfl dX8_workOut_79 ?_
      refine qr_iload 80 82 rfl (x := x5) rfl dX8_workOut_80 ?_
      have hb11 := h.1
      have h := h.2
      refine qi_ld 82 83 rfl k2 rfl hb11.1 hb11.2 dX8_workOut_82 ?_
      refine qr_iadd 83 84 rfl dX8_workOut_83 ?_
      refine qn_i 84 (fun x4_12 e_x4_12 => ?_)
      have h := h x4_12 e_x4_12
      refine qr_istore 84 86 rfl (by decide) rfl rfl dX8_workOut_84 ?_
      refine qr_iinc 86 89 rfl (by decide) (x := x5) rfl rfl rfl dX8_workOut_86 ?_
      refine qr_goto 89 44 (by decide) dX8_workOut_89 ?_
      exact h
theorem dX8_clearedTally_0 : decode cX8_clearedTally 0 = .ok (.aload_n 0, 1) := by decide +kernel
theorem dX8_clearedTally_1 : decode cX8_clearedTally 1 = .ok (.getfield 24, 3) := by decide +kernel
theorem dX8_clearedTally_4 : decode cX8_clearedTally 4 = .ok (.iconst 0, 1) := by decide +kernel
theorem dX8_clearedTally_5 : decode cX8_clearedTally 5 = .ok (.sipush 199, 3) := by decide +kernel
theorem dX8_clearedTally_8 : decode cX8_clearedTally 8 = .ok (.iconst 0, 1) := by decide +kernel
theorem dX8_clearedTally_9 : decode cX8_clearedTally 9 = .ok (.invokestatic 61, 3) := by decide +kernel
theorem dX8_clearedTally_12 : decode cX8_clearedTally 12 = .ok (.aload_n 0, 1) := by decide +kernel
theorem dX8_clearedTally_13 : decode cX8_clearedTally 13 = .ok (.getfield 24, 3) := by decide +kernel
theorem dX8_clearedTally_16 : decode cX8_clearedTally 16 = .ok (.areturn, 1) := by decide +kernel
theorem bX8_clearedTally_0 {d : Nat} {P : Int → q_Mem → Prop} {M : q_Mem} (h : q_kU yJ7_fill_fda19 mJ7_fill_fda19 d [qR 122, qI 0, qI 199, qI 0] M (fun M1 => P 122 M1)) : q_v mX8_clearedTally d (qPR P) M 0 [some (qR 117)] [] := by
  refine qr_aload_n 0 1 rfl (x := 117) rfl dX8_clearedTally_0 ?_
  refine qr_getF 1 4 rfl ck8 8 (by decide) (b := 122) (by decide +kernel) rfl (by decide +kernel) (by decide +kernel) wm_289 rfl dX8_clearedTally_1 ?_
  refine qr_iconst 4 5 rfl (q_l32 _ rfl) dX8_clearedTally_4 ?_
  refine qr_sipush 5 8 rfl (q_l32 _ rfl) (by decide) dX8_clearedTally_5 ?_
  refine qr_iconst 8 9 rfl (q_l32 _ rfl) dX8_clearedTally_8 ?_
  refine qs_U 9 12 rfl (av := [qR 122, qI 0, qI 199, qI 0]) ca_J7_fill_fda19 wm_855 wm_1188 rfl rfl (Nat.le_of_ble_eq_true rfl) dX8_clearedTally_9 h (fun M1 h => ?_)
  refine qr_aload_n 12 13 rfl (x := 117) rfl dX8_clearedTally_12 ?_
  refine qr_getF 13 16 rfl ck8 8 (by decide) (b := 122) (by decide +kernel) rfl (by decide +kernel) (by decide +kernel) wm_289 rfl dX8_clearedTally_13 ?_
  exact qe_r 16 rfl (Or.inr ⟨_, rfl⟩) dX8_clearedTally_16 h
theorem dX8_bestSets_0 : decode cX8_bestSets 0 = .ok (.iconst 0, 1) := by decide +kernel
theorem dX8_bestSets_1 : decode cX8_bestSets 1 = .ok (.istore_n 1, 1) := by decide +kernel
theorem dX8_bestSets_2 : decode cX8_bestSets 2 = .ok (.iconst 0, 1) := by decide +kernel
theorem dX8_bestSets_3 : decode cX8_bestSets 3 = .ok (.istore_n 2, 1) := by decide +kernel
theorem dX8_bestSets_4 : decode cX8_bestSets 4 = .ok (.iload_n 2, 1) := by decide +kernel
theorem dX8_bestSets_5 : decode cX8_bestSets 5 = .ok (.aload_n 0, 1) := by decide +kernel
theorem dX8_bestSets_6 : decode cX8_bestSets 6 = .ok (.getfield 34, 3) := by decide +kernel
theorem dX8_bestSets_9 : decode cX8_bestSets 9 = .ok (.if_icmp .ge 25, 3) := by decide +kernel
theorem dX8_bestSets_12 : decode cX8_bestSets 12 = .ok (.aload_n 0, 1) := by decide +kernel
theorem dX8_bestSets_13 : decode cX8_bestSets 13 = .ok (.getfield 9, 3) := by decide +kernel
theorem dX8_bestSets_16 : decode cX8_bestSets 16 = .ok (.iload_n 2, 1) := by decide +kernel
theorem dX8_bestSets_17 : decode cX8_bestSets 17 = .ok (.iaload, 1) := by decide +kernel
theorem dX8_bestSets_18 : decode cX8_bestSets 18 = .ok (.aload_n 0, 1) := by decide +kernel
theorem dX8_bestSets_19 : decode cX8_bestSets 19 = .ok (.getfield 37, 3) := by decide +kernel
theorem dX8_bestSets_22 : decode cX8_bestSets 22 = .ok (.if_icmp .ne 6, 3) := by decide +kernel
theorem dX8_bestSets_25 : decode cX8_bestSets 25 = .ok (.iinc 1 1, 3) := by decide +kernel
theorem dX8_bestSets_28 : decode cX8_bestSets 28 = .ok (.iinc 2 1, 3) := by decide +kernel
theorem dX8_bestSets_31 : decode cX8_bestSets 31 = .ok (.goto (-27), 3) := by decide +kernel
theorem dX8_bestSets_34 : decode cX8_bestSets 34 = .ok (.iload_n 1, 1) := by decide +kernel
theorem dX8_bestSets_35 : decode cX8_bestSets 35 = .ok (.ireturn, 1) := by decide +kernel
theorem bX8_bestSets_0 {d : Nat} {P : Int → q_Mem → Prop} {M : q_Mem} (h : q_v mX8_bestSets d (qPI P) M 4 [some (qR 117), some (qI 0), some (qI 0)] []) : q_v mX8_bestSets d (qPI P) M 0 [some (qR 117), none, none] [] := by
  refine qr_iconst 0 1 rfl (q_l32 _ rfl) dX8_bestSets_0 ?_
  refine qr_istore_n 1 2 rfl (by decide) rfl rfl dX8_bestSets_1 ?_
  refine qr_iconst 2 3 rfl (q_l32 _ rfl) dX8_bestSets_2 ?_
  refine qr_istore_n 3 4 rfl (by decide) rfl rfl dX8_bestSets_3 ?_
  exact h
theorem bX8_bestSets_4 {d : Nat} {P : Int → q_Mem → Prop} {M : q_Mem} (x1 x2 : Int) (h : (((M 117 3) ≤ x2) → P x1 M) ∧ ((¬ ((M 117 3) ≤ x2)) → (0 ≤ x2 ∧ x2 < (1024 : Int)) ∧ (((¬ (M 118 x2) = (M 117 0)) → q_v mX8_bestSets d (qPI P) M 4 [some (qR 117), some (qI x1), some (qI (q_add x2 1))] []) ∧ (((M 118 x2) = (M 117 0)) → q_v mX8_bestSets d (qPI P) M 4 [some (qR 117), some (qI (q_add x1 1)), some (qI (q_add x2 1))] [])))) : q_v mX8_bestSets d (qPI P) M 4 [some (qR 117), some (qI x1), some (qI x2)] [] := by
  refine qr_iload_n 4 5 rfl (x := x2) rfl dX8_bestSets_4 ?_
  refine qr_aload_n 5 6 rfl (x := 117) rfl dX8_bestSets_5 ?_
  refine qg_i 6 9 rfl ck8 3 (kk := 3) (by decide) (by decide +kernel) (by decide +kernel) rfl wm_284 rfl dX8_bestSets_6 ?_
  refine qr_icmp_ge 9 12 34 rfl (by decide) dX8_bestSets_9 (fun c9 => ?_) (fun c9 => ?_)
  · have h := h.1 c9
    refine qr_iload_n 34 35 rfl (x := x1) rfl dX8_bestSets_34 ?_
    exact qe_i 35 rfl dX8_bestSets_35 h
  · have h := h.2 c9
    refine qr_aload_n 12 13 rfl (x := 117) rfl dX8_bestSets_12 ?_
    refine qr_getF 13 16 rfl ck8 4 (by decide) (b := 118) (by decide +kernel) rfl (by decide +kernel) (by decide +kernel) wm_285 rfl dX8_bestSets_13 ?_
    refine qr_iload_n 16 17 rfl (x := x2) rfl dX8_bestSets_16 ?_
    have hb1 := h.1
    have h := h.2
    refine qi_ld 17 18 rfl (N := 1024) (by decide +kernel) (by decide +kernel) hb1.1 hb1.2 dX8_bestSets_17 ?_
    refine qr_aload_n 18 19 rfl (x := 117) rfl dX8_bestSets_18 ?_
    refine qg_i 19 22 rfl ck8 0 (kk := 0) (by decide) (by decide +kernel) (by decide +kernel) rfl wm_279 rfl dX8_bestSets_19 ?_
    refine qr_icmp_ne 22 25 28 rfl (by decide) dX8_bestSets_22 (fun c22 => ?_) (fun c22 => ?_)
    · have h := h.1 c22
      refine qr_iinc 28 31 rfl (by decide) (x := x2) rfl rfl rfl dX8_bestSets_28 ?_
      refine qr_goto 31 4 (by decide) dX8_bestSets_31 ?_
      exact h
    · have h := h.2 c22
      refine qr_iinc 25 28 rfl (by decide) (x := x1) rfl rfl rfl dX8_bestSets_25 ?_
      refine qr_iinc 28 31 rfl (by decide) (x := x2) rfl rfl rfl dX8_bestSets_28 ?_
      refine qr_goto 31 4 (by decide) dX8_bestSets_31 ?_
      exact h
theorem dX8_stuckSets_0 : decode cX8_stuckSets 0 = .ok (.iconst 0, 1) := by decide +kernel
theorem dX8_stuckSets_1 : decode cX8_stuckSets 1 = .ok (.istore_n 1, 1) := by decide +kernel
theorem dX8_stuckSets_2 : decode cX8_stuckSets 2 = .ok (.iconst 0, 1) := by decide +kernel
theorem dX8_stuckSets_3 : decode cX8_stuckSets 3 = .ok (.istore_n 2, 1) := by decide +kernel
theorem dX8_stuckSets_4 : decode cX8_stuckSets 4 = .ok (.iload_n 2, 1) := by decide +kernel
theorem dX8_stuckSets_5 : decode cX8_stuckSets 5 = .ok (.aload_n 0, 1) := by decide +kernel
theorem dX8_stuckSets_6 : decode cX8_stuckSets 6 = .ok (.getfield 34, 3) := by decide +kernel
theorem dX8_stuckSets_9 : decode cX8_stuckSets 9 = .ok (.if_icmp .ge 20, 3) := by decide +kernel
theorem dX8_stuckSets_12 : decode cX8_stuckSets 12 = .ok (.aload_n 0, 1) := by decide +kernel
theorem dX8_stuckSets_13 : decode cX8_stuckSets 13 = .ok (.iload_n 2, 1) := by decide +kernel
theorem dX8_stuckSets_14 : decode cX8_stuckSets 14 = .ok (.invokevirtual 67, 3) := by decide +kernel
theorem dX8_stuckSets_17 : decode cX8_stuckSets 17 = .ok (.ifCond .ne 6, 3) := by decide +kernel
theorem dX8_stuckSets_20 : decode cX8_stuckSets 20 = .ok (.iinc 1 1, 3) := by decide +kernel
theorem dX8_stuckSets_23 : decode cX8_stuckSets 23 = .ok (.iinc 2 1, 3) := by decide +kernel
theorem dX8_stuckSets_26 : decode cX8_stuckSets 26 = .ok (.goto (-22), 3) := by decide +kernel
theorem dX8_stuckSets_29 : decode cX8_stuckSets 29 = .ok (.iload_n 1, 1) := by decide +kernel
theorem dX8_stuckSets_30 : decode cX8_stuckSets 30 = .ok (.ireturn, 1) := by decide +kernel
theorem bX8_stuckSets_0 {d : Nat} {P : Int → q_Mem → Prop} {M : q_Mem} (h : q_v mX8_stuckSets d (qPI P) M 4 [some (qR 117), some (qI 0), some (qI 0)] []) : q_v mX8_stuckSets d (qPI P) M 0 [some (qR 117), none, none] [] := by
  refine qr_iconst 0 1 rfl (q_l32 _ rfl) dX8_stuckSets_0 ?_
  refine qr_istore_n 1 2 rfl (by decide) rfl rfl dX8_stuckSets_1 ?_
  refine qr_iconst 2 3 rfl (q_l32 _ rfl) dX8_stuckSets_2 ?_
  refine qr_istore_n 3 4 rfl (by decide) rfl rfl dX8_stuckSets_3 ?_
  exact h
theorem bX8_stuckSets_4 {d : Nat} {P : Int → q_Mem → Prop} {M : q_Mem} (x1 x2 : Int) (h : (((M 117 3) ≤ x2) → P x1 M) ∧ ((¬ ((M 117 3) ≤ x2)) → q_kI yX8_canRise mX8_canRise d [qR 117, qI x2] M (fun v2 M1 => ((¬ v2 = 0) → q_v mX8_stuckSets d (qPI P) M1 4 [some (qR 117), some (qI x1), some (qI (q_add x2 1))] []) ∧ ((v2 = 0) → q_v mX8_stuckSets d (qPI P) M1 4 [some (qR 117), some (qI (q_add x1 1)), some (qI (q_add x2 1))] [])))) : q_v mX8_stuckSets d (qPI P) M 4 [some (qR 117), some (qI x1), some (qI x2)] [] := by
  refine qr_iload_n 4 5 rfl (x := x2) rfl dX8_stuckSets_4 ?_
  refine qr_aload_n 5 6 rfl (x := 117) rfl dX8_stuckSets_5 ?_
  refine qg_i 6 9 rfl ck8 3 (kk := 3) (by decide) (by decide +kernel) (by decide +kernel) rfl wm_284 rfl dX8_stuckSets_6 ?_
  refine qr_icmp_ge 9 12 29 rfl (by decide) dX8_stuckSets_9 (fun c9 => ?_) (fun c9 => ?_)
  · have h := h.1 c9
    refine qr_iload_n 29 30 rfl (x := x1) rfl dX8_stuckSets_29 ?_
    exact qe_i 30 rfl dX8_stuckSets_30 h
  · have h := h.2 c9
    refine qr_aload_n 12 13 rfl (x := 117) rfl dX8_stuckSets_12 ?_
    refine qr_iload_n 13 14 rfl (x := x2) rfl dX8_stuckSets_13 ?_
    refine qw_I 14 17 rfl (av := [qI x2]) ca_X8_canRise wm_1169 wp_66 wm_1167 ck8 (by decide +kernel) rfl rfl (Nat.le_of_ble_eq_true rfl) dX8_stuckSets_14 h (fun v2 M1 h => ?_)
    refine qr_if_ne 17 20 23 rfl (by decide) dX8_stuckSets_17 (fun c17 => ?_) (fun c17 => ?_)
    · have h := h.1 c17
      refine qr_iinc 23 26 rfl (by decide) (x := x2) rfl rfl rfl dX8_stuckSets_23 ?_
      refine qr_goto 26 4 (by decide) dX8_stuckSets_26 ?_
      exact h
    · have h := h.2 c17
      refine qr_iinc 20 23 rfl (by decide) (x := x1) rfl rfl rfl dX8_stuckSets_20 ?_
      refine qr_iinc 23 26 rfl (by decide) (x := x2) rfl rfl rfl dX8_stuckSets_23 ?_
      refine qr_goto 26 4 (by decide) dX8_stuckSets_26 ?_
      exact h
theorem dX8_canRise_0 : decode cX8_canRise 0 = .ok (.iconst 0, 1) := by decide +kernel
theorem dX8_canRise_1 : decode cX8_canRise 1 = .ok (.istore_n 2, 1) := by decide +kernel
theorem dX8_canRise_2 : decode cX8_canRise 2 = .ok (.iload_n 2, 1) := by decide +kernel
theorem dX8_canRise_3 : decode cX8_canRise 3 = .ok (.aload_n 0, 1) := by decide +kernel
theorem dX8_canRise_4 : decode cX8_canRise 4 = .ok (.getfield 33, 3) := by decide +kernel
theorem dX8_canRise_7 : decode cX8_canRise 7 = .ok (.if_icmp .ge 30, 3) := by decide +kernel
theorem dX8_canRise_10 : decode cX8_canRise 10 = .ok (.aload_n 0, 1) := by decide +kernel
theorem dX8_canRise_11 : decode cX8_canRise 11 = .ok (.getfield 9, 3) := by decide +kernel
theorem dX8_canRise_14 : decode cX8_canRise 14 = .ok (.iload_n 1, 1) := by decide +kernel
theorem dX8_canRise_15 : decode cX8_canRise 15 = .ok (.iconst 1, 1) := by decide +kernel
theorem dX8_canRise_16 : decode cX8_canRise 16 = .ok (.iload_n 2, 1) := by decide +kernel
theorem dX8_canRise_17 : decode cX8_canRise 17 = .ok (.ishl, 1) := by decide +kernel
theorem dX8_canRise_18 : decode cX8_canRise 18 = .ok (.ixor, 1) := by decide +kernel
theorem dX8_canRise_19 : decode cX8_canRise 19 = .ok (.iaload, 1) := by decide +kernel
theorem dX8_canRise_20 : decode cX8_canRise 20 = .ok (.aload_n 0, 1) := by decide +kernel
theorem dX8_canRise_21 : decode cX8_canRise 21 = .ok (.getfield 9, 3) := by decide +kernel
theorem dX8_canRise_24 : decode cX8_canRise 24 = .ok (.iload_n 1, 1) := by decide +kernel
theorem dX8_canRise_25 : decode cX8_canRise 25 = .ok (.iaload, 1) := by decide +kernel
theorem dX8_canRise_26 : decode cX8_canRise 26 = .ok (.if_icmp .le 5, 3) := by decide +kernel
theorem dX8_canRise_29 : decode cX8_canRise 29 = .ok (.iconst 1, 1) := by decide +kernel
theorem dX8_canRise_30 : decode cX8_canRise 30 = .ok (.ireturn, 1) := by decide +kernel
theorem dX8_canRise_31 : decode cX8_canRise 31 = .ok (.iinc 2 1, 3) := by decide +kernel
theorem dX8_canRise_34 : decode cX8_canRise 34 = .ok (.goto (-32), 3) := by decide +kernel
theorem dX8_canRise_37 : decode cX8_canRise 37 = .ok (.iconst 0, 1) := by decide +kernel
theorem dX8_canRise_38 : decode cX8_canRise 38 = .ok (.ireturn, 1) := by decide +kernel
theorem bX8_canRise_0 {d : Nat} {P : Int → q_Mem → Prop} {M : q_Mem} (x1 : Int) (h : q_v mX8_canRise d (qPI P) M 2 [some (qR 117), some (qI x1), some (qI 0)] []) : q_v mX8_canRise d (qPI P) M 0 [some (qR 117), some (qI x1), none] [] := by
  refine qr_iconst 0 1 rfl (q_l32 _ rfl) dX8_canRise_0 ?_
  refine qr_istore_n 1 2 rfl (by decide) rfl rfl dX8_canRise_1 ?_
  exact h
theorem bX8_canRise_2 {d : Nat} {P : Int → q_Mem → Prop} {M : q_Mem} (x1 x2 : Int) (h : (((M 117 2) ≤ x2) → P 0 M) ∧ ((¬ ((M 117 2) ≤ x2)) → (0 ≤ (q_xor x1 (q_shl 1 x2)) ∧ (q_xor x1 (q_shl 1 x2)) < (1024 : Int)) ∧ ((0 ≤ x1 ∧ x1 < (1024 : Int)) ∧ ((((M 118 (q_xor x1 (q_shl 1 x2))) ≤ (M 118 x1)) → q_v mX8_canRise d (qPI P) M 2 [some (qR 117), some (qI x1), some (qI (q_add x2 1))] []) ∧ ((¬ ((M 118 (q_xor x1 (q_shl 1 x2))) ≤ (M 118 x1))) → P 1 M))))) : q_v mX8_canRise d (qPI P) M 2 [some (qR 117), some (qI x1), some (qI x2)] [] := by
  refine qr_iload_n 2 3 rfl (x := x2) rfl dX8_canRise_2 ?_
  refine qr_aload_n 3 4 rfl (x := 117) rfl dX8_canRise_3 ?_
  refine qg_i 4 7 rfl ck8 2 (kk := 2) (by decide) (by decide +kernel) (by decide +kernel) rfl wm_283 rfl dX8_canRise_4 ?_
  refine qr_icmp_ge 7 10 37 rfl (by decide) dX8_canRise_7 (fun c7 => ?_) (fun c7 => ?_)
  · have h := h.1 c7
    refine qr_iconst 37 38 rfl (q_l32 _ rfl) dX8_canRise_37 ?_
    exact qe_z 38 rfl (by decide) dX8_canRise_38 h
  · have h := h.2 c7
    refine qr_aload_n 10 11 rfl (x := 117) rfl dX8_canRise_10 ?_
    refine qr_getF 11 14 rfl ck8 4 (by decide) (b := 118) (by decide +kernel) rfl (by decide +kernel) (by decide +kernel) wm_285 rfl dX8_canRise_11 ?_
    refine qr_iload_n 14 15 rfl (x := x1) rfl dX8_canRise_14 ?_
    refine qr_iconst 15 16 rfl (q_l32 _ rfl) dX8_canRise_15 ?_
    refine qr_iload_n 16 17 rfl (x := x2) rfl dX8_canRise_16 ?_
    refine qr_ishl 17 18 rfl dX8_canRise_17 ?_
    refine qr_ixor 18 19 rfl dX8_canRise_18 ?_
    have hb1 := h.1
    have h := h.2
    refine qi_ld 19 20 rfl (N := 1024) (by decide +kernel) (by decide +kernel) hb1.1 hb1.2 dX8_canRise_19 ?_
    refine qr_aload_n 20 21 rfl (x := 117) rfl dX8_canRise_20 ?_
    refine qr_getF 21 24 rfl ck8 4 (by decide) (b := 118) (by decide +kernel) rfl (by decide +kernel) (by decide +kernel) wm_285 rfl dX8_canRise_21 ?_
    refine qr_iload_n 24 25 rfl (x := x1) rfl dX8_canRise_24 ?_
    have hb2 := h.1
    have h := h.2
    refine qi_ld 25 26 rfl (N := 1024) (by decide +kernel) (by decide +kernel) hb2.1 hb2.2 dX8_canRise_25 ?_
    refine qr_icmp_le 26 29 31 rfl (by decide) dX8_canRise_26 (fun c26 => ?_) (fun c26 => ?_)
    · have h := h.1 c26
      refine qr_iinc 31 34 rfl (by decide) (x := x2) rfl rfl rfl dX8_canRise_31 ?_
      refine qr_goto 34 2 (by decide) dX8_canRise_34 ?_
      exact h
    · have h := h.2 c26
      refine qr_iconst 29 30 rfl (q_l32 _ rfl) dX8_canRise_29 ?_
      exact qe_z 30 rfl (by decide) dX8_canRise_30 h
theorem dX8_fewestFlips_0 : decode cX8_fewestFlips 0 = .ok (.aload_n 0, 1) := by decide +kernel
theorem dX8_fewestFlips_1 : decode cX8_fewestFlips 1 = .ok (.getfield 33, 3) := by decide +kernel
theorem dX8_fewestFlips_4 : decode cX8_fewestFlips 4 = .ok (.istore_n 2, 1) := by decide +kernel
theorem dX8_fewestFlips_5 : decode cX8_fewestFlips 5 = .ok (.iconst 0, 1) := by decide +kernel
theorem dX8_fewestFlips_6 : decode cX8_fewestFlips 6 = .ok (.istore_n 3, 1) := by decide +kernel
theorem dX8_fewestFlips_7 : decode cX8_fewestFlips 7 = .ok (.iload_n 3, 1) := by decide +kernel
theorem dX8_fewestFlips_8 : decode cX8_fewestFlips 8 = .ok (.aload_n 0, 1) := by decide +kernel
theorem dX8_fewestFlips_9 : decode cX8_fewestFlips 9 = .ok (.getfield 34, 3) := by decide +kernel
theorem dX8_fewestFlips_12 : decode cX8_fewestFlips 12 = .ok (.if_icmp .ge 33, 3) := by decide +kernel
theorem dX8_fewestFlips_15 : decode cX8_fewestFlips 15 = .ok (.aload_n 0, 1) := by decide +kernel
theorem dX8_fewestFlips_16 : decode cX8_fewestFlips 16 = .ok (.getfield 9, 3) := by decide +kernel
theorem dX8_fewestFlips_19 : decode cX8_fewestFlips 19 = .ok (.iload_n 3, 1) := by decide +kernel
theorem dX8_fewestFlips_20 : decode cX8_fewestFlips 20 = .ok (.iaload, 1) := by decide +kernel
theorem dX8_fewestFlips_21 : decode cX8_fewestFlips 21 = .ok (.aload_n 0, 1) := by decide +kernel
theorem dX8_fewestFlips_22 : decode cX8_fewestFlips 22 = .ok (.getfield 37, 3) := by decide +kernel
theorem dX8_fewestFlips_25 : decode cX8_fewestFlips 25 = .ok (.if_icmp .ne 14, 3) := by decide +kernel
theorem dX8_fewestFlips_28 : decode cX8_fewestFlips 28 = .ok (.iload_n 2, 1) := by decide +kernel
theorem dX8_fewestFlips_29 : decode cX8_fewestFlips 29 = .ok (.iload_n 3, 1) := by decide +kernel
theorem dX8_fewestFlips_30 : decode cX8_fewestFlips 30 = .ok (.iload_n 1, 1) := by decide +kernel
theorem dX8_fewestFlips_31 : decode cX8_fewestFlips 31 = .ok (.ixor, 1) := by decide +kernel
theorem dX8_fewestFlips_32 : decode cX8_fewestFlips 32 = .ok (.invokestatic 71, 3) := by decide +kernel
theorem dX8_fewestFlips_35 : decode cX8_fewestFlips 35 = .ok (.invokestatic 58, 3) := by decide +kernel
theorem dX8_fewestFlips_38 : decode cX8_fewestFlips 38 = .ok (.istore_n 2, 1) := by decide +kernel
theorem dX8_fewestFlips_39 : decode cX8_fewestFlips 39 = .ok (.iinc 3 1, 3) := by decide +kernel
theorem dX8_fewestFlips_42 : decode cX8_fewestFlips 42 = .ok (.goto (-35), 3) := by decide +kernel
theorem dX8_fewestFlips_45 : decode cX8_fewestFlips 45 = .ok (.iload_n 2, 1) := by decide +kernel
theorem dX8_fewestFlips_46 : decode cX8_fewestFlips 46 = .ok (.ireturn, 1) := by decide +kernel
theorem bX8_fewestFlips_0 {d : Nat} {P : Int → q_Mem → Prop} {M : q_Mem} (x1 : Int) (h : ∀ x2_1 : Int, x2_1 = (M 117 2) → q_v mX8_fewestFlips d (qPI P) M 7 [some (qR 117), some (qI x1), some (qI x2_1), some (qI 0)] []) : q_v mX8_fewestFlips d (qPI P) M 0 [some (qR 117), some (qI x1), none, none] [] := by
  refine qr_aload_n 0 1 rfl (x := 117) rfl dX8_fewestFlips_0 ?_
  refine qg_i 1 4 rfl ck8 2 (kk := 2) (by decide) (by decide +kernel) (by decide +kernel) rfl wm_283 rfl dX8_fewestFlips_1 ?_
  refine qn_i 4 (fun x2_1 e_x2_1 => ?_)
  have h := h x2_1 e_x2_1
  refine qr_istore_n 4 5 rfl (by decide) rfl rfl dX8_fewestFlips_4 ?_
  refine qr_iconst 5 6 rfl (q_l32 _ rfl) dX8_fewestFlips_5 ?_
  refine qr_istore_n 6 7 rfl (by decide) rfl rfl dX8_fewestFlips_6 ?_
  exact h
theorem bX8_fewestFlips_7 {d : Nat} {P : Int → q_Mem → Prop} {M : q_Mem} (x1 x2 x3 : Int) (h : (((M 117 3) ≤ x3) → P x2 M) ∧ ((¬ ((M 117 3) ≤ x3)) → (0 ≤ x3 ∧ x3 < (1024 : Int)) ∧ (((¬ (M 118 x3) = (M 117 0)) → q_v mX8_fewestFlips d (qPI P) M 7 [some (qR 117), some (qI x1), some (qI x2), some (qI (q_add x3 1))] []) ∧ (((M 118 x3) = (M 117 0)) → q_kI yJ6_bitCount_0f7a4 mJ6_bitCount_0f7a4 d [qI (q_xor x3 x1)] M (fun v3 M2 => q_kI yJ9_min_7cf53 mJ9_min_7cf53 d [qI x2, qI v3] M2 (fun v5 M4 => q_v mX8_fewestFlips d (qPI P) M4 7 [some (qR 117), some (qI x1), some (qI v5), some (qI (q_add x3 1))] [])))))) : q_v mX8_fewestFlips d (qPI P) M 7 [some (qR 117), some (qI x1), some (qI x2), some (qI x3)] [] := by
  refine qr_iload_n 7 8 rfl (x := x3) rfl dX8_fewestFlips_7 ?_
  refine qr_aload_n 8 9 rfl (x := 117) rfl dX8_fewestFlips_8 ?_
  refine qg_i 9 12 rfl ck8 3 (kk := 3) (by decide) (by decide +kernel) (by decide +kernel) rfl wm_284 rfl dX8_fewestFlips_9 ?_
  refine qr_icmp_ge 12 15 45 rfl (by decide) dX8_fewestFlips_12 (fun c12 => ?_) (fun c12 => ?_)
  · have h := h.1 c12
    refine qr_iload_n 45 46 rfl (x := x2) rfl dX8_fewestFlips_45 ?_
    exact qe_i 46 rfl dX8_fewestFlips_46 h
  · have h := h.2 c12
    refine qr_aload_n 15 16 rfl (x := 117) rfl dX8_fewestFlips_15 ?_
    refine qr_getF 16 19 rfl ck8 4 (by decide) (b := 118) (by decide +kernel) rfl (by decide +kernel) (by decide +kernel) wm_285 rfl dX8_fewestFlips_16 ?_
    refine qr_iload_n 19 20 rfl (x := x3) rfl dX8_fewestFlips_19 ?_
    have hb1 := h.1
    have h := h.2
    refine qi_ld 20 21 rfl (N := 1024) (by decide +kernel) (by decide +kernel) hb1.1 hb1.2 dX8_fewestFlips_20 ?_
    refine qr_aload_n 21 22 rfl (x := 117) rfl dX8_fewestFlips_21 ?_
    refine qg_i 22 25 rfl ck8 0 (kk := 0) (by decide) (by decide +kernel) (by decide +kernel) rfl wm_279 rfl dX8_fewestFlips_22 ?_
    refine qr_icmp_ne 25 28 39 rfl (by decide) dX8_fewestFlips_25 (fun c25 => ?_) (fun c25 => ?_)
    · have h := h.1 c25
      refine qr_iinc 39 42 rfl (by decide) (x := x3) rfl rfl rfl dX8_fewestFlips_39 ?_
      refine qr_goto 42 7 (by decide) dX8_fewestFlips_42 ?_
      exact h
    · have h := h.2 c25
      refine qr_iload_n 28 29 rfl (x := x2) rfl dX8_fewestFlips_28 ?_
      refine qr_iload_n 29 30 rfl (x := x3) rfl dX8_fewestFlips_29 ?_
      refine qr_iload_n 30 31 rfl (x := x1) rfl dX8_fewestFlips_30 ?_
      refine qr_ixor 31 32 rfl dX8_fewestFlips_31 ?_
      refine qs_I 32 35 rfl (av := [qI (q_xor x3 x1)]) ca_J6_bitCount_0f7a4 wm_1002 wm_1179 rfl rfl (Nat.le_of_ble_eq_true rfl) dX8_fewestFlips_32 h (fun v3 M2 h => ?_)
      refine qs_I 35 38 rfl (av := [qI x2, qI v3]) ca_J9_min_7cf53 wm_452 wm_827 rfl rfl (Nat.le_of_ble_eq_true rfl) dX8_fewestFlips_35 h (fun v5 M4 h => ?_)
      refine qr_istore_n 38 39 rfl (by decide) rfl rfl dX8_fewestFlips_38 ?_
      refine qr_iinc 39 42 rfl (by decide) (x := x3) rfl rfl rfl dX8_fewestFlips_39 ?_
      refine qr_goto 42 7 (by decide) dX8_fewestFlips_42 ?_
      exact h
theorem dX8_fewestWithoutLoss_0 : decode cX8_fewestWithoutLoss 0 = .ok (.aload_n 0, 1) := by decide +kernel
theorem dX8_fewestWithoutLoss_1 : decode cX8_fewestWithoutLoss 1 = .ok (.getfield 15, 3) := by decide +kernel
theorem dX8_fewestWithoutLoss_4 : decode cX8_fewestWithoutLoss 4 = .ok (.iconst 0, 1) := by decide +kernel
theorem dX8_fewestWithoutLoss_5 : decode cX8_fewestWithoutLoss 5 = .ok (.aload_n 0, 1) := by decide +kernel
theorem dX8_fewestWithoutLoss_6 : decode cX8_fewestWithoutLoss 6 = .ok (.getfield 34, 3) := by decide +kernel
theorem dX8_fewestWithoutLoss_9 : decode cX8_fewestWithoutLoss 9 = .ok (.iconst (-1), 1) := by decide +kernel
theorem dX8_fewestWithoutLoss_10 : decode cX8_fewestWithoutLoss 10 = .ok (.invokestatic 61, 3) := by decide +kernel
theorem dX8_fewestWithoutLoss_13 : decode cX8_fewestWithoutLoss 13 = .ok (.aload_n 0, 1) := by decide +kernel
theorem dX8_fewestWithoutLoss_14 : decode cX8_fewestWithoutLoss 14 = .ok (.getfield 15, 3) := by decide +kernel
theorem dX8_fewestWithoutLoss_17 : decode cX8_fewestWithoutLoss 17 = .ok (.iload_n 1, 1) := by decide +kernel
theorem dX8_fewestWithoutLoss_18 : decode cX8_fewestWithoutLoss 18 = .ok (.iconst 0, 1) := by decide +kernel
theorem dX8_fewestWithoutLoss_19 : decode cX8_fewestWithoutLoss 19 = .ok (.iastore, 1) := by decide +kernel
theorem dX8_fewestWithoutLoss_20 : decode cX8_fewestWithoutLoss 20 = .ok (.aload_n 0, 1) := by decide +kernel
theorem dX8_fewestWithoutLoss_21 : decode cX8_fewestWithoutLoss 21 = .ok (.getfield 18, 3) := by decide +kernel
theorem dX8_fewestWithoutLoss_24 : decode cX8_fewestWithoutLoss 24 = .ok (.iconst 0, 1) := by decide +kernel
theorem dX8_fewestWithoutLoss_25 : decode cX8_fewestWithoutLoss 25 = .ok (.iload_n 1, 1) := by decide +kernel
theorem dX8_fewestWithoutLoss_26 : decode cX8_fewestWithoutLoss 26 = .ok (.iastore, 1) := by decide +kernel
theorem dX8_fewestWithoutLoss_27 : decode cX8_fewestWithoutLoss 27 = .ok (.iconst 1, 1) := by decide +kernel
theorem dX8_fewestWithoutLoss_28 : decode cX8_fewestWithoutLoss 28 = .ok (.istore_n 2, 1) := by decide +kernel
theorem dX8_fewestWithoutLoss_29 : decode cX8_fewestWithoutLoss 29 = .ok (.iconst 0, 1) := by decide +kernel
theorem dX8_fewestWithoutLoss_30 : decode cX8_fewestWithoutLoss 30 = .ok (.istore_n 3, 1) := by decide +kernel
theorem dX8_fewestWithoutLoss_31 : decode cX8_fewestWithoutLoss 31 = .ok (.iload_n 3, 1) := by decide +kernel
theorem dX8_fewestWithoutLoss_32 : decode cX8_fewestWithoutLoss 32 = .ok (.iload_n 2, 1) := by decide +kernel
theorem dX8_fewestWithoutLoss_33 : decode cX8_fewestWithoutLoss 33 = .ok (.if_icmp .ge 137, 3) := by decide +kernel
theorem dX8_fewestWithoutLoss_36 : decode cX8_fewestWithoutLoss 36 = .ok (.iload_n 3, 1) := by decide +kernel
theorem dX8_fewestWithoutLoss_37 : decode cX8_fewestWithoutLoss 37 = .ok (.aload_n 0, 1) := by decide +kernel
theorem dX8_fewestWithoutLoss_38 : decode cX8_fewestWithoutLoss 38 = .ok (.getfield 34, 3) := by decide +kernel
theorem dX8_fewestWithoutLoss_41 : decode cX8_fewestWithoutLoss 41 = .ok (.if_icmp .ge 129, 3) := by decide +kernel
theorem dX8_fewestWithoutLoss_44 : decode cX8_fewestWithoutLoss 44 = .ok (.aload_n 0, 1) := by decide +kernel
theorem dX8_fewestWithoutLoss_45 : decode cX8_fewestWithoutLoss 45 = .ok (.getfield 18, 3) := by decide +kernel
theorem dX8_fewestWithoutLoss_48 : decode cX8_fewestWithoutLoss 48 = .ok (.iload_n 3, 1) := by decide +kernel
theorem dX8_fewestWithoutLoss_49 : decode cX8_fewestWithoutLoss 49 = .ok (.iaload, 1) := by decide +kernel
theorem dX8_fewestWithoutLoss_50 : decode cX8_fewestWithoutLoss 50 = .ok (.istore 4, 2) := by decide +kernel
theorem dX8_fewestWithoutLoss_52 : decode cX8_fewestWithoutLoss 52 = .ok (.aload_n 0, 1) := by decide +kernel
theorem dX8_fewestWithoutLoss_53 : decode cX8_fewestWithoutLoss 53 = .ok (.getfield 9, 3) := by decide +kernel
theorem dX8_fewestWithoutLoss_56 : decode cX8_fewestWithoutLoss 56 = .ok (.iload 4, 2) := by decide +kernel
theorem dX8_fewestWithoutLoss_58 : decode cX8_fewestWithoutLoss 58 = .ok (.iaload, 1) := by decide +kernel
theorem dX8_fewestWithoutLoss_59 : decode cX8_fewestWithoutLoss 59 = .ok (.aload_n 0, 1) := by decide +kernel
theorem dX8_fewestWithoutLoss_60 : decode cX8_fewestWithoutLoss 60 = .ok (.getfield 37, 3) := by decide +kernel
theorem dX8_fewestWithoutLoss_63 : decode cX8_fewestWithoutLoss 63 = .ok (.if_icmp .ne 11, 3) := by decide +kernel
theorem dX8_fewestWithoutLoss_66 : decode cX8_fewestWithoutLoss 66 = .ok (.aload_n 0, 1) := by decide +kernel
theorem dX8_fewestWithoutLoss_67 : decode cX8_fewestWithoutLoss 67 = .ok (.getfield 15, 3) := by decide +kernel
theorem dX8_fewestWithoutLoss_70 : decode cX8_fewestWithoutLoss 70 = .ok (.iload 4, 2) := by decide +kernel
theorem dX8_fewestWithoutLoss_72 : decode cX8_fewestWithoutLoss 72 = .ok (.iaload, 1) := by decide +kernel
theorem dX8_fewestWithoutLoss_73 : decode cX8_fewestWithoutLoss 73 = .ok (.ireturn, 1) := by decide +kernel
theorem dX8_fewestWithoutLoss_74 : decode cX8_fewestWithoutLoss 74 = .ok (.iconst 0, 1) := by decide +kernel
theorem dX8_fewestWithoutLoss_75 : decode cX8_fewestWithoutLoss 75 = .ok (.istore 5, 2) := by decide +kernel
theorem dX8_fewestWithoutLoss_77 : decode cX8_fewestWithoutLoss 77 = .ok (.iload 5, 2) := by decide +kernel
theorem dX8_fewestWithoutLoss_79 : decode cX8_fewestWithoutLoss 79 = .ok (.aload_n 0, 1) := by decide +kernel
theorem dX8_fewestWithoutLoss_80 : decode cX8_fewestWithoutLoss 80 = .ok (.getfield 33, 3) := by decide +kernel
theorem dX8_fewestWithoutLoss_83 : decode cX8_fewestWithoutLoss 83 = .ok (.if_icmp .ge 81, 3) := by decide +kernel
theorem dX8_fewestWithoutLoss_86 : decode cX8_fewestWithoutLoss 86 = .ok (.iload 4, 2) := by decide +kernel
theorem dX8_fewestWithoutLoss_88 : decode cX8_fewestWithoutLoss 88 = .ok (.iconst 1, 1) := by decide +kernel
theorem dX8_fewestWithoutLoss_89 : decode cX8_fewestWithoutLoss 89 = .ok (.iload 5, 2) := by decide +kernel
theorem dX8_fewestWithoutLoss_91 : decode cX8_fewestWithoutLoss 91 = .ok (.ishl, 1) := by decide +kernel
theorem dX8_fewestWithoutLoss_92 : decode cX8_fewestWithoutLoss 92 = .ok (.ixor, 1) := by decide +kernel
theorem dX8_fewestWithoutLoss_93 : decode cX8_fewestWithoutLoss 93 = .ok (.istore 6, 2) := by decide +kernel
theorem dX8_fewestWithoutLoss_95 : decode cX8_fewestWithoutLoss 95 = .ok (.aload_n 0, 1) := by decide +kernel
theorem dX8_fewestWithoutLoss_96 : decode cX8_fewestWithoutLoss 96 = .ok (.getfield 15, 3) := by decide +kernel
theorem dX8_fewestWithoutLoss_99 : decode cX8_fewestWithoutLoss 99 = .ok (.iload 6, 2) := by decide +kernel
theorem dX8_fewestWithoutLoss_101 : decode cX8_fewestWithoutLoss 101 = .ok (.iaload, 1) := by decide +kernel
theorem dX8_fewestWithoutLoss_102 : decode cX8_fewestWithoutLoss 102 = .ok (.iconst (-1), 1) := by decide +kernel
theorem dX8_fewestWithoutLoss_103 : decode cX8_fewestWithoutLoss 103 = .ok (.if_icmp .ne 55, 3) := by decide +kernel
theorem dX8_fewestWithoutLoss_106 : decode cX8_fewestWithoutLoss 106 = .ok (.aload_n 0, 1) := by decide +kernel
theorem dX8_fewestWithoutLoss_107 : decode cX8_fewestWithoutLoss 107 = .ok (.getfield 9, 3) := by decide +kernel
theorem dX8_fewestWithoutLoss_110 : decode cX8_fewestWithoutLoss 110 = .ok (.iload 6, 2) := by decide +kernel
theorem dX8_fewestWithoutLoss_112 : decode cX8_fewestWithoutLoss 112 = .ok (.iaload, 1) := by decide +kernel
theorem dX8_fewestWithoutLoss_113 : decode cX8_fewestWithoutLoss 113 = .ok (.aload_n 0, 1) := by decide +kernel
theorem dX8_fewestWithoutLoss_114 : decode cX8_fewestWithoutLoss 114 = .ok (.getfield 9, 3) := by decide +kernel
theorem dX8_fewestWithoutLoss_117 : decode cX8_fewestWithoutLoss 117 = .ok (.iload 4, 2) := by decide +kernel
theorem dX8_fewestWithoutLoss_119 : decode cX8_fewestWithoutLoss 119 = .ok (.iaload, 1) := by decide +kernel
theorem dX8_fewestWithoutLoss_120 : decode cX8_fewestWithoutLoss 120 = .ok (.if_icmp .lt 38, 3) := by decide +kernel
theorem dX8_fewestWithoutLoss_123 : decode cX8_fewestWithoutLoss 123 = .ok (.iload_n 2, 1) := by decide +kernel
theorem dX8_fewestWithoutLoss_124 : decode cX8_fewestWithoutLoss 124 = .ok (.aload_n 0, 1) := by decide +kernel
theorem dX8_fewestWithoutLoss_125 : decode cX8_fewestWithoutLoss 125 = .ok (.getfield 34, 3) := by decide +kernel
theorem dX8_fewestWithoutLoss_128 : decode cX8_fewestWithoutLoss 128 = .ok (.if_icmp .ge 30, 3) := by decide +kernel
theorem dX8_fewestWithoutLoss_131 : decode cX8_fewestWithoutLoss 131 = .ok (.aload_n 0, 1) := by decide +kernel
theorem dX8_fewestWithoutLoss_132 : decode cX8_fewestWithoutLoss 132 = .ok (.getfield 15, 3) := by decide +kernel
theorem dX8_fewestWithoutLoss_135 : decode cX8_fewestWithoutLoss 135 = .ok (.iload 6, 2) := by decide +kernel
theorem dX8_fewestWithoutLoss_137 : decode cX8_fewestWithoutLoss 137 = .ok (.aload_n 0, 1) := by decide +kernel
theorem dX8_fewestWithoutLoss_138 : decode cX8_fewestWithoutLoss 138 = .ok (.getfield 15, 3) := by decide +kernel
theorem dX8_fewestWithoutLoss_141 : decode cX8_fewestWithoutLoss 141 = .ok (.iload 4, 2) := by decide +kernel
theorem dX8_fewestWithoutLoss_143 : decode cX8_fewestWithoutLoss 143 = .ok (.iaload, 1) := by decide +kernel
theorem dX8_fewestWithoutLoss_144 : decode cX8_fewestWithoutLoss 144 = .ok (.iconst 1, 1) := by decide +kernel
theorem dX8_fewestWithoutLoss_145 : decode cX8_fewestWithoutLoss 145 = .ok (.iadd, 1) := by decide +kernel
theorem dX8_fewestWithoutLoss_146 : decode cX8_fewestWithoutLoss 146 = .ok (.iastore, 1) := by decide +kernel
theorem dX8_fewestWithoutLoss_147 : decode cX8_fewestWithoutLoss 147 = .ok (.aload_n 0, 1) := by decide +kernel
theorem dX8_fewestWithoutLoss_148 : decode cX8_fewestWithoutLoss 148 = .ok (.getfield 18, 3) := by decide +kernel
theorem dX8_fewestWithoutLoss_151 : decode cX8_fewestWithoutLoss 151 = .ok (.iload_n 2, 1) := by decide +kernel
theorem dX8_fewestWithoutLoss_152 : decode cX8_fewestWithoutLoss 152 = .ok (.iload 6, 2) := by decide +kernel
theorem dX8_fewestWithoutLoss_154 : decode cX8_fewestWithoutLoss 154 = .ok (.iastore, 1) := by decide +kernel
theorem dX8_fewestWithoutLoss_155 : decode cX8_fewestWithoutLoss 155 = .ok (.iinc 2 1, 3) := by decide +kernel
theorem dX8_fewestWithoutLoss_158 : decode cX8_fewestWithoutLoss 158 = .ok (.iinc 5 1, 3) := by decide +kernel
theorem dX8_fewestWithoutLoss_161 : decode cX8_fewestWithoutLoss 161 = .ok (.goto (-84), 3) := by decide +kernel
theorem dX8_fewestWithoutLoss_164 : decode cX8_fewestWithoutLoss 164 = .ok (.iinc 3 1, 3) := by decide +kernel
theorem dX8_fewestWithoutLoss_167 : decode cX8_fewestWithoutLoss 167 = .ok (.goto (-136), 3) := by decide +kernel
theorem dX8_fewestWithoutLoss_170 : decode cX8_fewestWithoutLoss 170 = .ok (.iconst (-1), 1) := by decide +kernel
theorem dX8_fewestWithoutLoss_171 : decode cX8_fewestWithoutLoss 171 = .ok (.ireturn, 1) := by decide +kernel
theorem bX8_fewestWithoutLoss_0 {d : Nat} {P : Int → q_Mem → Prop} {M : q_Mem} (x1 : Int) (h : q_kU yJ7_fill_fda19 mJ7_fill_fda19 d [qR 119, qI 0, qI (M 117 3), qI (-1)] M (fun M1 => (0 ≤ x1 ∧ x1 < (1024 : Int)) ∧ (∀ M3 : q_Mem, M3 = q_up M1 119 x1 0 → (∀ M4 : q_Mem, M4 = q_up M3 120 0 x1 → q_v mX8_fewestWithoutLoss d (qPI P) M4 31 [some (qR 117), none, some (qI 1), some (qI 0), none, none, none] [])))) : q_v mX8_fewestWithoutLoss d (qPI P) M 0 [some (qR 117), some (qI x1), none, none, none, none, none] [] := by
  refine qr_aload_n 0 1 rfl (x := 117) rfl dX8_fewestWithoutLoss_0 ?_
  refine qr_getF 1 4 rfl ck8 5 (by decide) (b := 119) (by decide +kernel) rfl (by decide +kernel) (by decide +kernel) wm_286 rfl dX8_fewestWithoutLoss_1 ?_
  refine qr_iconst 4 5 rfl (q_l32 _ rfl) dX8_fewestWithoutLoss_4 ?_
  refine qr_aload_n 5 6 rfl (x := 117) rfl dX8_fewestWithoutLoss_5 ?_
  refine qg_i 6 9 rfl ck8 3 (kk := 3) (by decide) (by decide +kernel) (by decide +kernel) rfl wm_284 rfl dX8_fewestWithoutLoss_6 ?_
  refine qr_iconst 9 10 rfl (q_l32 _ rfl) dX8_fewestWithoutLoss_9 ?_
  refine qs_U 10 13 rfl (av := [qR 119, qI 0, qI (M 117 3), qI (-1)]) ca_J7_fill_fda19 wm_855 wm_1188 rfl rfl (Nat.le_of_ble_eq_true rfl) dX8_fewestWithoutLoss_10 h (fun M1 h => ?_)
  refine qr_aload_n 13 14 rfl (x := 117) rfl dX8_fewestWithoutLoss_13 ?_
  refine qr_getF 14 17 rfl ck8 5 (by decide) (b := 119) (by decide +kernel) rfl (by decide +kernel) (by decide +kernel) wm_286 rfl dX8_fewestWithoutLoss_14 ?_
  refine qr_iload_n 17 18 rfl (x := x1) rfl dX8_fewestWithoutLoss_17 ?_
  refine qr_iconst 18 19 rfl (q_l32 _ rfl) dX8_fewestWithoutLoss_18 ?_
  have hb2 := h.1
  have h := h.2
  refine qi_st 19 20 rfl (N := 1024) (by decide +kernel) (by decide +kernel) hb2.1 hb2.2 dX8_fewestWithoutLoss_19 (fun M3 e_M3 => ?_)
  have h := h M3 e_M3
  refine qr_aload_n 20 21 rfl (x := 117) rfl dX8_fewestWithoutLoss_20 ?_
  refine qr_getF 21 24 rfl ck8 6 (by decide) (b := 120) (by decide +kernel) rfl (by decide +kernel) (by decide +kernel) wm_287 rfl dX8_fewestWithoutLoss_21 ?_
  refine qr_iconst 24 25 rfl (q_l32 _ rfl) dX8_fewestWithoutLoss_24 ?_
  refine qr_iload_n 25 26 rfl (x := x1) rfl dX8_fewestWithoutLoss_25 ?_
  refine qi_st 26 27 rfl (N := 1024) (by decide +kernel) (by decide +kernel) (by decide) (by decide) dX8_fewestWithoutLoss_26 (fun M4 e_M4 => ?_)
  have h := h M4 e_M4
  refine qr_iconst 27 28 rfl (q_l32 _ rfl) dX8_fewestWithoutLoss_27 ?_
  refine qr_istore_n 28 29 rfl (by decide) rfl rfl dX8_fewestWithoutLoss_28 ?_
  refine qr_iconst 29 30 rfl (q_l32 _ rfl) dX8_fewestWithoutLoss_29 ?_
  refine qr_istore_n 30 31 rfl (by decide) rfl rfl dX8_fewestWithoutLoss_30 ?_
  exact qr_cut 31 (ls' := [some (qR 117), none, some (qI 1), some (qI 0), none, none, none]) (And.intro rfl (And.intro rfl (And.intro rfl trivial))) h
theorem bX8_fewestWithoutLoss_31 {d : Nat} {P : Int → q_Mem → Prop} {M : q_Mem} (x2 x3 : Int) (h : ((x2 ≤ x3) → P (-1) M) ∧ ((¬ (x2 ≤ x3)) → (((M 117 3) ≤ x3) → P (-1) M) ∧ ((¬ ((M 117 3) ≤ x3)) → (0 ≤ x3 ∧ x3 < (1024 : Int)) ∧ (∀ x4_2 : Int, x4_2 = (M 120 x3) → (0 ≤ x4_2 ∧ x4_2 < (1024 : Int)) ∧ (((¬ (M 118 x4_2) = (M 117 0)) → q_v mX8_fewestWithoutLoss d (qPI P) M 77 [some (qR 117), none, some (qI x2), some (qI x3), some (qI x4_2), some (qI 0), none] []) ∧ (((M 118 x4_2) = (M 117 0)) → (0 ≤ x4_2 ∧ x4_2 < (1024 : Int)) ∧ (P (M 119 x4_2) M))))))) : q_v mX8_fewestWithoutLoss d (qPI P) M 31 [some (qR 117), none, some (qI x2), some (qI x3), none, none, none] [] := by
  refine qr_iload_n 31 32 rfl (x := x3) rfl dX8_fewestWithoutLoss_31 ?_
  refine qr_iload_n 32 33 rfl (x := x2) rfl dX8_fewestWithoutLoss_32 ?_
  refine qr_icmp_ge 33 36 170 rfl (by decide) dX8_fewestWithoutLoss_33 (fun c33 => ?_) (fun c33 => ?_)
  · have h := h.1 c33
    refine qr_iconst 170 171 rfl (q_l32 _ rfl) dX8_fewestWithoutLoss_170 ?_
    exact qe_i 171 rfl dX8_fewestWithoutLoss_171 h
  · have h := h.2 c33
    refine qr_iload_n 36 37 rfl (x := x3) rfl dX8_fewestWithoutLoss_36 ?_
    refine qr_aload_n 37 38 rfl (x := 117) rfl dX8_fewestWithoutLoss_37 ?_
    refine qg_i 38 41 rfl ck8 3 (kk := 3) (by decide) (by decide +kernel) (by decide +kernel) rfl wm_284 rfl dX8_fewestWithoutLoss_38 ?_
    refine qr_icmp_ge 41 44 170 rfl (by decide) dX8_fewestWithoutLoss_41 (fun c41 => ?_) (fun c41 => ?_)
    · have h := h.1 c41
      refine qr_iconst 170 171 rfl (q_l32 _ rfl) dX8_fewestWithoutLoss_170 ?_
      exact qe_i 171 rfl dX8_fewestWithoutLoss_171 h
    · have h := h.2 c41
      refine qr_aload_n 44 45 rfl (x := 117) rfl dX8_fewestWithoutLoss_44 ?_
      refine qr_getF 45 48 rfl ck8 6 (by decide) (b := 120) (by decide +kernel) rfl (by decide +kernel) (by decide +kernel) wm_287 rfl dX8_fewestWithoutLoss_45 ?_
      refine qr_iload_n 48 49 rfl (x := x3) rfl dX8_fewestWithoutLoss_48 ?_
      have hb1 := h.1
      have h := h.2
      refine qi_ld 49 50 rfl (N := 1024) (by decide +kernel) (by decide +kernel) hb1.1 hb1.2 dX8_fewestWithoutLoss_49 ?_
      refine qn_i 50 (fun x4_2 e_x4_2 => ?_)
      have h := h x4_2 e_x4_2
      refine qr_istore 50 52 rfl (by decide) rfl rfl dX8_fewestWithoutLoss_50 ?_
      refine qr_aload_n 52 53 rfl (x := 117) rfl dX8_fewestWithoutLoss_52 ?_
      refine qr_getF 53 56 rfl ck8 4 (by decide) (b := 118) (by decide +kernel) rfl (by decide +kernel) (by decide +kernel) wm_285 rfl dX8_fewestWithoutLoss_53 ?_
      refine qr_iload 56 58 rfl (x := x4_2) rfl dX8_fewestWithoutLoss_56 ?_
      have hb3 := h.1
      have h := h.2
      refine qi_ld 58 59 rfl (N := 1024) (by decide +kernel) (by decide +kernel) hb3.1 hb3.2 dX8_fewestWithoutLoss_58 ?_
      refine qr_aload_n 59 60 rfl (x := 117) rfl dX8_fewestWithoutLoss_59 ?_
      refine qg_i 60 63 rfl ck8 0 (kk := 0) (by decide) (by decide +kernel) (by decide +kernel) rfl wm_279 rfl dX8_fewestWithoutLoss_60 ?_
      refine qr_icmp_ne 63 66 74 rfl (by decide) dX8_fewestWithoutLoss_63 (fun c63 => ?_) (fun c63 => ?_)
      · have h := h.1 c63
        refine qr_iconst 74 75 rfl (q_l32 _ rfl) dX8_fewestWithoutLoss_74 ?_
        refine qr_istore 75 77 rfl (by decide) rfl rfl dX8_fewestWithoutLoss_75 ?_
        exact h
      · have h := h.2 c63
        refine qr_aload_n 66 67 rfl (x := 117) rfl dX8_fewestWithoutLoss_66 ?_
        refine qr_getF 67 70 rfl ck8 5 (by decide) (b := 119) (by decide +kernel) rfl (by decide +kernel) (by decide +kernel) wm_286 rfl dX8_fewestWithoutLoss_67 ?_
        refine qr_iload 70 72 rfl (x := x4_2) rfl dX8_fewestWithoutLoss_70 ?_
        have hb4 := h.1
        have h := h.2
        refine qi_ld 72 73 rfl (N := 1024) (by decide +kernel) (by decide +kernel) hb4.1 hb4.2 dX8_fewestWithoutLoss_72 ?_
        exact qe_i 73 rfl dX8_fewestWithoutLoss_73 h
theorem bX8_fewestWithoutLoss_77 {d : Nat} {P : Int → q_Mem → Prop} {M : q_Mem} (x2 x3 x4 x5 : Int) (h : (((M 117 2) ≤ x5) → q_v mX8_fewestWithoutLoss d (qPI P) M 31 [some (qR 117), none, some (qI x2), some (qI (q_add x3 1)), none, none, none] []) ∧ ((¬ ((M 117 2) ≤ x5)) → ∀ x6_1 : Int, x6_1 = (q_xor x4 (q_shl 1 x5)) → (0 ≤ x6_1 ∧ x6_1 < (1024 : Int)) ∧ (((¬ (M 119 x6_1) = ((-1) : Int)) → q_v mX8_fewestWithoutLoss d (qPI P) M 77 [some (qR 117), none, some (qI x2), some (qI x3), some (qI x4), some (qI (q_add x5 1)), none] []) ∧ (((M 119 x6_1) = ((-1) : Int)) → (0 ≤ x6_1 ∧ x6_1 < (1024 : Int)) ∧ ((0 ≤ x4 ∧ x4 < (1024 : Int)) ∧ ((((M 118 x6_1) < (M 118 x4)) → q_v mX8_fewestWithoutLoss d (qPI P) M 77 [some (qR 117), none, some (qI x2), some (qI x3), some (qI x4), some (qI (q_add x5 1)), none] []) ∧ ((¬ ((M 118 x6_1) < (M 118 x4))) → (((M 117 3) ≤ x2) → q_v mX8_fewestWithoutLoss d (qPI P) M 77 [some (qR 117), none, some (qI x2), some (qI x3), some (qI x4), some (qI (q_add x5 1)), none] []) ∧ ((¬ ((M 117 3) ≤ x2)) → (0 ≤ x4 ∧ x4 < (1024 : Int)) ∧ ((0 ≤ x6_1 ∧ x6_1 < (1024 : Int)) ∧ (∀ M7 : q_Mem, M7 = q_up M 119 x6_1 (q_add (M 119 x4) 1) → (0 ≤ x2 ∧ x2 < (1024 : Int)) ∧ (∀ M9 : q_Mem, M9 = q_up M7 120 x2 x6_1 → q_v mX8_fewestWithoutLoss d (qPI P) M9 77 [some (qR 117), none, some (qI (q_add x2 1)), some (qI x3), some (qI x4), some (qI (q_add x5 1)), none] []))))))))))) : q_v mX8_fewestWithoutLoss d (qPI P) M 77 [some (qR 117), none, some (qI x2), some (qI x3), some (qI x4), some (qI x5), none] [] := by
  refine qr_iload 77 79 rfl (x := x5) rfl dX8_fewestWithoutLoss_77 ?_
  refine qr_aload_n 79 80 rfl (x := 117) rfl dX8_fewestWithoutLoss_79 ?_
  refine qg_i 80 83 rfl ck8 2 (kk := 2) (by decide) (by decide +kernel) (by decide +kernel) rfl wm_283 rfl dX8_fewestWithoutLoss_80 ?_
  refine qr_icmp_ge 83 86 164 rfl (by decide) dX8_fewestWithoutLoss_83 (fun c83 => ?_) (fun c83 => ?_)
  · have h := h.1 c83
    refine qr_iinc 164 167 rfl (by decide) (x := x3) rfl rfl rfl dX8_fewestWithoutLoss_164 ?_
    refine qr_goto 167 31 (by decide) dX8_fewestWithoutLoss_167 ?_
    exact qr_cut 31 (ls' := [some (qR 117), none, some (qI x2), some (qI (q_add x3 1)), none, none, none]) (And.intro rfl (And.intro rfl (And.intro rfl trivial))) h
  · have h := h.2 c83
    refine qr_iload 86 88 rfl (x := x4) rfl dX8_fewestWithoutLoss_86 ?_
    refine qr_iconst 88 89 rfl (q_l32 _ rfl) dX8_fewestWithoutLoss_88 ?_
    refine qr_iload 89 91 rfl (x := x5) rfl dX8_fewestWithoutLoss_89 ?_
    refine qr_ishl 91 92 rfl dX8_fewestWithoutLoss_91 ?_
    refine qr_ixor 92 93 rfl dX8_fewestWithoutLoss_92 ?_
    refine qn_i 93 (fun x6_1 e_x6_1 => ?_)
    have h := h x6_1 e_x6_1
    refine qr_istore 93 95 rfl (by decide) rfl rfl dX8_fewestWithoutLoss_93 ?_
    refine qr_aload_n 95 96 rfl (x := 117) rfl dX8_fewestWithoutLoss_95 ?_
    refine qr_getF 96 99 rfl ck8 5 (by decide) (b := 119) (by decide +kernel) rfl (by decide +kernel) (by decide +kernel) wm_286 rfl dX8_fewestWithoutLoss_96 ?_
    refine qr_iload 99 101 rfl (x := x6_1) rfl dX8_fewestWithoutLoss_99 ?_
    have hb2 := h.1
    have h := h.2
    refine qi_ld 101 102 rfl (N := 1024) (by decide +kernel) (by decide +kernel) hb2.1 hb2.2 dX8_fewestWithoutLoss_101 ?_
    refine qr_iconst 102 103 rfl (q_l32 _ rfl) dX8_fewestWithoutLoss_102 ?_
    refine qr_icmp_ne 103 106 158 rfl (by decide) dX8_fewestWithoutLoss_103 (fun c103 => ?_) (fun c103 => ?_)
    · have h := h.1 c103
      refine qr_iinc 158 161 rfl (by decide) (x := x5) rfl rfl rfl dX8_fewestWithoutLoss_158 ?_
      refine qr_goto 161 77 (by decide) dX8_fewestWithoutLoss_161 ?_
      exact qr_cut 77 (ls' := [some (qR 117), none, some (qI x2), some (qI x3), some (qI x4), some (qI (q_add x5 1)), none]) (And.intro rfl (And.intro rfl (And.intro rfl (And.intro rfl (And.intro rfl trivial))))) h
    · have h := h.2 c103
      refine qr_aload_n 106 107 rfl (x := 117) rfl dX8_fewestWithoutLoss_106 ?_
      refine qr_getF 107 110 rfl ck8 4 (by decide) (b := 118) (by decide +kernel) rfl (by decide +kernel) (by decide +kernel) wm_285 rfl dX8_fewestWithoutLoss_107 ?_
      refine qr_iload 110 112 rfl (x := x6_1) rfl dX8_fewestWithoutLoss_110 ?_
      have hb3 := h.1
      have h := h.2
      refine qi_ld 112 113 rfl (N := 1024) (by decide +kernel) (by decide +kernel) hb3.1 hb3.2 dX8_fewestWithoutLoss_112 ?_
      refine qr_aload_n 113 114 rfl (x := 117) rfl dX8_fewestWithoutLoss_113 ?_
      refine qr_getF 114 117 rfl ck8 4 (by decide) (b := 118) (by decide +kernel) rfl (by decide +kernel) (by decide +kernel) wm_285 rfl dX8_fewestWithoutLoss_114 ?_
      refine qr_iload 117 119 rfl (x := x4) rfl dX8_fewestWithoutLoss_117 ?_
      have hb4 := h.1
      have h := h.2
      refine qi_ld 119 120 rfl (N := 1024) (by decide +kernel) (by decide +kernel) hb4.1 hb4.2 dX8_fewestWithoutLoss_119 ?_
      refine qr_icmp_lt 120 123 158 rfl (by decide) dX8_fewestWithoutLoss_120 (fun c120 => ?_) (fun c120 => ?_)
      · have h := h.1 c120
        refine qr_iinc 158 161 rfl (by decide) (x := x5) rfl rfl rfl dX8_fewestWithoutLoss_158 ?_
        refine qr_goto 161 77 (by decide) dX8_fewestWithoutLoss_161 ?_
        exact qr_cut 77 (ls' := [some (qR 117), none, some (qI x2), some (qI x3), some (qI x4), some (qI (q_add x5 1)), none]) (And.intro rfl (And.intro rfl (And.intro rfl (And.intro rfl (And.intro rfl trivial))))) h
      · have h := h.2 c120
        refine qr_iload_n 123 124 rfl (x := x2) rfl dX8_fewestWithoutLoss_123 ?_
        refine qr_aload_n 124 125 rfl (x := 117) rfl dX8_fewestWithoutLoss_124 ?_
        refine qg_i 125 128 rfl ck8 3 (kk := 3) (by decide) (by decide +kernel) (by decide +kernel) rfl wm_284 rfl dX8_fewestWithoutLoss_125 ?_
        refine qr_icmp_ge 128 131 158 rfl (by decide) dX8_fewestWithoutLoss_128 (fun c128 => ?_) (fun c128 => ?_)
        · have h := h.1 c128
          refine qr_iinc 158 161 rfl (by decide) (x := x5) rfl rfl rfl dX8_fewestWithoutLoss_158 ?_
          refine qr_goto 161 77 (by decide) dX8_fewestWithoutLoss_161 ?_
          exact qr_cut 77 (ls' := [some (qR 117), none, some (qI x2), some (qI x3), some (qI x4), some (qI (q_add x5 1)), none]) (And.intro rfl (And.intro rfl (And.intro rfl (And.intro rfl (And.intro rfl trivial))))) h
        · have h := h.2 c128
          refine qr_aload_n 131 132 rfl (x := 117) rfl dX8_fewestWithoutLoss_131 ?_
          refine qr_getF 132 135 rfl ck8 5 (by decide) (b := 119) (by decide +kernel) rfl (by decide +kernel) (by decide +kernel) wm_286 rfl dX8_fewestWithoutLoss_132 ?_
          refine qr_iload 135 137 rfl (x := x6_1) rfl dX8_fewestWithoutLoss_135 ?_
          refine qr_aload_n 137 138 rfl (x := 117) rfl dX8_fewestWithoutLoss_137 ?_
          refine qr_getF 138 141 rfl ck8 5 (by decide) (b := 119) (by decide +kernel) rfl (by decide +kernel) (by decide +kernel) wm_286 rfl dX8_fewestWithoutLoss_138 ?_
          refine qr_iload 141 143 rfl (x := x4) rfl dX8_fewestWithoutLoss_141 ?_
          have hb5 := h.1
          have h := h.2
          refine qi_ld 143 144 rfl (N := 1024) (by decide +kernel) (by decide +kernel) hb5.1 hb5.2 dX8_fewestWithoutLoss_143 ?_
          refine qr_iconst 144 145 rfl (q_l32 _ rfl) dX8_fewestWithoutLoss_144 ?_
          refine qr_iadd 145 146 rfl dX8_fewestWithoutLoss_145 ?_
          have hb6 := h.1
          have h := h.2
          refine qi_st 146 147 rfl (N := 1024) (by decide +kernel) (by decide +kernel) hb6.1 hb6.2 dX8_fewestWithoutLoss_146 (fun M7 e_M7 => ?_)
          have h := h M7 e_M7
          refine qr_aload_n 147 148 rfl (x := 117) rfl dX8_fewestWithoutLoss_147 ?_
          refine qr_getF 148 151 rfl ck8 6 (by decide) (b := 120) (by decide +kernel) rfl (by decide +kernel) (by decide +kernel) wm_287 rfl dX8_fewestWithoutLoss_148 ?_
          refine qr_iload_n 151 152 rfl (x := x2) rfl dX8_fewestWithoutLoss_151 ?_
          refine qr_iload 152 154 rfl (x := x6_1) rfl dX8_fewestWithoutLoss_152 ?_
          have hb8 := h.1
          have h := h.2
          refine qi_st 154 155 rfl (N := 1024) (by decide +kernel) (by decide +kernel) hb8.1 hb8.2 dX8_fewestWithoutLoss_154 (fun M9 e_M9 => ?_)
          have h := h M9 e_M9
          refine qr_iinc 155 158 rfl (by decide) (x := x2) rfl rfl rfl dX8_fewestWithoutLoss_155 ?_
          refine qr_iinc 158 161 rfl (by decide) (x := x5) rfl rfl rfl dX8_fewestWithoutLoss_158 ?_
          refine qr_goto 161 77 (by decide) dX8_fewestWithoutLoss_161 ?_
          exact qr_cut 77 (ls' := [some (qR 117), none, some (qI (q_add x2 1)), some (qI x3), some (qI x4), some (qI (q_add x5 1)), none]) (And.intro rfl (And.intro rfl (And.intro rfl (And.intro rfl (And.intro rfl trivial))))) h
theorem dX8_longestRise_0 : decode cX8_longestRise 0 = .ok (.aload_n 0, 1) := by decide +kernel
theorem dX8_longestRise_1 : decode cX8_longestRise 1 = .ok (.invokevirtual 77, 3) := by decide +kernel
theorem dX8_longestRise_4 : decode cX8_longestRise 4 = .ok (.aload_n 0, 1) := by decide +kernel
theorem dX8_longestRise_5 : decode cX8_longestRise 5 = .ok (.getfield 34, 3) := by decide +kernel
theorem dX8_longestRise_8 : decode cX8_longestRise 8 = .ok (.iconst 1, 1) := by decide +kernel
theorem dX8_longestRise_9 : decode cX8_longestRise 9 = .ok (.isub, 1) := by decide +kernel
theorem dX8_longestRise_10 : decode cX8_longestRise 10 = .ok (.istore_n 2, 1) := by decide +kernel
theorem dX8_longestRise_11 : decode cX8_longestRise 11 = .ok (.iload_n 2, 1) := by decide +kernel
theorem dX8_longestRise_12 : decode cX8_longestRise 12 = .ok (.ifCond .lt 93, 3) := by decide +kernel
theorem dX8_longestRise_15 : decode cX8_longestRise 15 = .ok (.aload_n 0, 1) := by decide +kernel
theorem dX8_longestRise_16 : decode cX8_longestRise 16 = .ok (.getfield 18, 3) := by decide +kernel
theorem dX8_longestRise_19 : decode cX8_longestRise 19 = .ok (.iload_n 2, 1) := by decide +kernel
theorem dX8_longestRise_20 : decode cX8_longestRise 20 = .ok (.iaload, 1) := by decide +kernel
theorem dX8_longestRise_21 : decode cX8_longestRise 21 = .ok (.istore_n 3, 1) := by decide +kernel
theorem dX8_longestRise_22 : decode cX8_longestRise 22 = .ok (.iconst 0, 1) := by decide +kernel
theorem dX8_longestRise_23 : decode cX8_longestRise 23 = .ok (.istore 4, 2) := by decide +kernel
theorem dX8_longestRise_25 : decode cX8_longestRise 25 = .ok (.iconst 0, 1) := by decide +kernel
theorem dX8_longestRise_26 : decode cX8_longestRise 26 = .ok (.istore 5, 2) := by decide +kernel
theorem dX8_longestRise_28 : decode cX8_longestRise 28 = .ok (.iload 5, 2) := by decide +kernel
theorem dX8_longestRise_30 : decode cX8_longestRise 30 = .ok (.aload_n 0, 1) := by decide +kernel
theorem dX8_longestRise_31 : decode cX8_longestRise 31 = .ok (.getfield 33, 3) := by decide +kernel
theorem dX8_longestRise_34 : decode cX8_longestRise 34 = .ok (.if_icmp .ge 49, 3) := by decide +kernel
theorem dX8_longestRise_37 : decode cX8_longestRise 37 = .ok (.iload_n 3, 1) := by decide +kernel
theorem dX8_longestRise_38 : decode cX8_longestRise 38 = .ok (.iconst 1, 1) := by decide +kernel
theorem dX8_longestRise_39 : decode cX8_longestRise 39 = .ok (.iload 5, 2) := by decide +kernel
theorem dX8_longestRise_41 : decode cX8_longestRise 41 = .ok (.ishl, 1) := by decide +kernel
theorem dX8_longestRise_42 : decode cX8_longestRise 42 = .ok (.ixor, 1) := by decide +kernel
theorem dX8_longestRise_43 : decode cX8_longestRise 43 = .ok (.istore 6, 2) := by decide +kernel
theorem dX8_longestRise_45 : decode cX8_longestRise 45 = .ok (.aload_n 0, 1) := by decide +kernel
theorem dX8_longestRise_46 : decode cX8_longestRise 46 = .ok (.getfield 9, 3) := by decide +kernel
theorem dX8_longestRise_49 : decode cX8_longestRise 49 = .ok (.iload 6, 2) := by decide +kernel
theorem dX8_longestRise_51 : decode cX8_longestRise 51 = .ok (.iaload, 1) := by decide +kernel
theorem dX8_longestRise_52 : decode cX8_longestRise 52 = .ok (.aload_n 0, 1) := by decide +kernel
theorem dX8_longestRise_53 : decode cX8_longestRise 53 = .ok (.getfield 9, 3) := by decide +kernel
theorem dX8_longestRise_56 : decode cX8_longestRise 56 = .ok (.iload_n 3, 1) := by decide +kernel
theorem dX8_longestRise_57 : decode cX8_longestRise 57 = .ok (.iaload, 1) := by decide +kernel
theorem dX8_longestRise_58 : decode cX8_longestRise 58 = .ok (.if_icmp .le 19, 3) := by decide +kernel
theorem dX8_longestRise_61 : decode cX8_longestRise 61 = .ok (.iload 4, 2) := by decide +kernel
theorem dX8_longestRise_63 : decode cX8_longestRise 63 = .ok (.aload_n 0, 1) := by decide +kernel
theorem dX8_longestRise_64 : decode cX8_longestRise 64 = .ok (.getfield 15, 3) := by decide +kernel
theorem dX8_longestRise_67 : decode cX8_longestRise 67 = .ok (.iload 6, 2) := by decide +kernel
theorem dX8_longestRise_69 : decode cX8_longestRise 69 = .ok (.iaload, 1) := by decide +kernel
theorem dX8_longestRise_70 : decode cX8_longestRise 70 = .ok (.iconst 1, 1) := by decide +kernel
theorem dX8_longestRise_71 : decode cX8_longestRise 71 = .ok (.iadd, 1) := by decide +kernel
theorem dX8_longestRise_72 : decode cX8_longestRise 72 = .ok (.invokestatic 52, 3) := by decide +kernel
theorem dX8_longestRise_75 : decode cX8_longestRise 75 = .ok (.istore 4, 2) := by decide +kernel
theorem dX8_longestRise_77 : decode cX8_longestRise 77 = .ok (.iinc 5 1, 3) := by decide +kernel
theorem dX8_longestRise_80 : decode cX8_longestRise 80 = .ok (.goto (-52), 3) := by decide +kernel
theorem dX8_longestRise_83 : decode cX8_longestRise 83 = .ok (.aload_n 0, 1) := by decide +kernel
theorem dX8_longestRise_84 : decode cX8_longestRise 84 = .ok (.getfield 15, 3) := by decide +kernel
theorem dX8_longestRise_87 : decode cX8_longestRise 87 = .ok (.iload_n 3, 1) := by decide +kernel
theorem dX8_longestRise_88 : decode cX8_longestRise 88 = .ok (.iload 4, 2) := by decide +kernel
theorem dX8_longestRise_90 : decode cX8_longestRise 90 = .ok (.iastore, 1) := by decide +kernel
theorem dX8_longestRise_91 : decode cX8_longestRise 91 = .ok (.iload_n 3, 1) := by decide +kernel
theorem dX8_longestRise_92 : decode cX8_longestRise 92 = .ok (.iload_n 1, 1) := by decide +kernel
theorem dX8_longestRise_93 : decode cX8_longestRise 93 = .ok (.if_icmp .ne 6, 3) := by decide +kernel
theorem dX8_longestRise_96 : decode cX8_longestRise 96 = .ok (.goto 9, 3) := by decide +kernel
theorem dX8_longestRise_99 : decode cX8_longestRise 99 = .ok (.iinc 2 (-1), 3) := by decide +kernel
theorem dX8_longestRise_102 : decode cX8_longestRise 102 = .ok (.goto (-91), 3) := by decide +kernel
theorem dX8_longestRise_105 : decode cX8_longestRise 105 = .ok (.aload_n 0, 1) := by decide +kernel
theorem dX8_longestRise_106 : decode cX8_longestRise 106 = .ok (.getfield 15, 3) := by decide +kernel
theorem dX8_longestRise_109 : decode cX8_longestRise 109 = .ok (.iload_n 1, 1) := by decide +kernel
theorem dX8_longestRise_110 : decode cX8_longestRise 110 = .ok (.iaload, 1) := by decide +kernel
theorem dX8_longestRise_111 : decode cX8_longestRise 111 = .ok (.ireturn, 1) := by decide +kernel
theorem bX8_longestRise_0 {d : Nat} {P : Int → q_Mem → Prop} {M : q_Mem} (x1 : Int) (h : q_kU yX8_sortByWorth mX8_sortByWorth d [qR 117] M (fun M1 => ∀ x2_2 : Int, x2_2 = (q_sub (M1 117 3) 1) → q_v mX8_longestRise d (qPI P) M1 11 [some (qR 117), some (qI x1), some (qI x2_2), none, none, none, none] [])) : q_v mX8_longestRise d (qPI P) M 0 [some (qR 117), some (qI x1), none, none, none, none, none] [] := by
  refine qr_aload_n 0 1 rfl (x := 117) rfl dX8_longestRise_0 ?_
  refine qw_U 1 4 rfl (av := []) ca_X8_sortByWorth wm_1199 wp_67 wm_1197 ck8 (by decide +kernel) rfl rfl (Nat.le_of_ble_eq_true rfl) dX8_longestRise_1 h (fun M1 h => ?_)
  refine qr_aload_n 4 5 rfl (x := 117) rfl dX8_longestRise_4 ?_
  refine qg_i 5 8 rfl ck8 3 (kk := 3) (by decide) (by decide +kernel) (by decide +kernel) rfl wm_284 rfl dX8_longestRise_5 ?_
  refine qr_iconst 8 9 rfl (q_l32 _ rfl) dX8_longestRise_8 ?_
  refine qr_isub 9 10 rfl dX8_longestRise_9 ?_
  refine qn_i 10 (fun x2_2 e_x2_2 => ?_)
  have h := h x2_2 e_x2_2
  refine qr_istore_n 10 11 rfl (by decide) rfl rfl dX8_longestRise_10 ?_
  exact h
theorem bX8_longestRise_11 {d : Nat} {P : Int → q_Mem → Prop} {M : q_Mem} (x1 x2 : Int) (h : ((x2 < 0) → (0 ≤ x1 ∧ x1 < (1024 : Int)) ∧ (P (M 119 x1) M)) ∧ ((¬ (x2 < 0)) → (0 ≤ x2 ∧ x2 < (1024 : Int)) ∧ (∀ x3_3 : Int, x3_3 = (M 120 x2) → q_v mX8_longestRise d (qPI P) M 28 [some (qR 117), some (qI x1), some (qI x2), some (qI x3_3), some (qI 0), some (qI 0), none] []))) : q_v mX8_longestRise d (qPI P) M 11 [some (qR 117), some (qI x1), some (qI x2), none, none, none, none] [] := by
  refine qr_iload_n 11 12 rfl (x := x2) rfl dX8_longestRise_11 ?_
  refine qr_if_lt 12 15 105 rfl (by decide) dX8_longestRise_12 (fun c12 => ?_) (fun c12 => ?_)
  · have h := h.1 c12
    refine qr_aload_n 105 106 rfl (x := 117) rfl dX8_longestRise_105 ?_
    refine qr_getF 106 109 rfl ck8 5 (by decide) (b := 119) (by decide +kernel) rfl (by decide +kernel) (by decide +kernel) wm_286 rfl dX8_longestRise_106 ?_
    refine qr_iload_n 109 110 rfl (x := x1) rfl dX8_longestRise_109 ?_
    have hb1 := h.1
    have h := h.2
    refine qi_ld 110 111 rfl (N := 1024) (by decide +kernel) (by decide +kernel) hb1.1 hb1.2 dX8_longestRise_110 ?_
    exact qe_i 111 rfl dX8_longestRise_111 h
  · have h := h.2 c12
    refine qr_aload_n 15 16 rfl (x := 117) rfl dX8_longestRise_15 ?_
    refine qr_getF 16 19 rfl ck8 6 (by decide) (b := 120) (by decide +kernel) rfl (by decide +kernel) (by decide +kernel) wm_287 rfl dX8_longestRise_16 ?_
    refine qr_iload_n 19 20 rfl (x := x2) rfl dX8_longestRise_19 ?_
    have hb2 := h.1
    have h := h.2
    refine qi_ld 20 21 rfl (N := 1024) (by decide +kernel) (by decide +kernel) hb2.1 hb2.2 dX8_longestRise_20 ?_
    refine qn_i 21 (fun x3_3 e_x3_3 => ?_)
    have h := h x3_3 e_x3_3
    refine qr_istore_n 21 22 rfl (by decide) rfl rfl dX8_longestRise_21 ?_
    refine qr_iconst 22 23 rfl (q_l32 _ rfl) dX8_longestRise_22 ?_
    refine qr_istore 23 25 rfl (by decide) rfl rfl dX8_longestRise_23 ?_
    refine qr_iconst 25 26 rfl (q_l32 _ rfl) dX8_longestRise_25 ?_
    refine qr_istore 26 28 rfl (by decide) rfl rfl dX8_longestRise_26 ?_
    exact h
theorem bX8_longestRise_28 {d : Nat} {P : Int → q_Mem → Prop} {M : q_Mem} (x1 x2 x3 x4 x5 : Int) (h : (((M 117 2) ≤ x5) → (0 ≤ x3 ∧ x3 < (1024 : Int)) ∧ (∀ M2 : q_Mem, M2 = q_up M 119 x3 x4 → ((¬ x3 = x1) → q_v mX8_longestRise d (qPI P) M2 11 [some (qR 117), some (qI x1), some (qI (q_add x2 (-1))), none, none, none, none] []) ∧ ((x3 = x1) → (0 ≤ x1 ∧ x1 < (1024 : Int)) ∧ (P (M2 119 x1) M2)))) ∧ ((¬ ((M 117 2) ≤ x5)) → ∀ x6_4 : Int, x6_4 = (q_xor x3 (q_shl 1 x5)) → (0 ≤ x6_4 ∧ x6_4 < (1024 : Int)) ∧ ((0 ≤ x3 ∧ x3 < (1024 : Int)) ∧ ((((M 118 x6_4) ≤ (M 118 x3)) → q_v mX8_longestRise d (qPI P) M 28 [some (qR 117), some (qI x1), some (qI x2), some (qI x3), some (qI x4), some (qI (q_add x5 1)), none] []) ∧ ((¬ ((M 118 x6_4) ≤ (M 118 x3))) → (0 ≤ x6_4 ∧ x6_4 < (1024 : Int)) ∧ (q_kI yJ9_max_7cf53 mJ9_max_7cf53 d [qI x4, qI (q_add (M 119 x6_4) 1)] M (fun v9 M8 => q_v mX8_longestRise d (qPI P) M8 28 [some (qR 117), some (qI x1), some (qI x2), some (qI x3), some (qI v9), some (qI (q_add x5 1)), none] []))))))) : q_v mX8_longestRise d (qPI P) M 28 [some (qR 117), some (qI x1), some (qI x2), some (qI x3), some (qI x4), some (qI x5), none] [] := by
  refine qr_iload 28 30 rfl (x := x5) rfl dX8_longestRise_28 ?_
  refine qr_aload_n 30 31 rfl (x := 117) rfl dX8_longestRise_30 ?_
  refine qg_i 31 34 rfl ck8 2 (kk := 2) (by decide) (by decide +kernel) (by decide +kernel) rfl wm_283 rfl dX8_longestRise_31 ?_
  refine qr_icmp_ge 34 37 83 rfl (by decide) dX8_longestRise_34 (fun c34 => ?_) (fun c34 => ?_)
  · have h := h.1 c34
    refine qr_aload_n 83 84 rfl (x := 117) rfl dX8_longestRise_83 ?_
    refine qr_getF 84 87 rfl ck8 5 (by decide) (b := 119) (by decide +kernel) rfl (by decide +kernel) (by decide +kernel) wm_286 rfl dX8_longestRise_84 ?_
    refine qr_iload_n 87 88 rfl (x := x3) rfl dX8_longestRise_87 ?_
    refine qr_iload 88 90 rfl (x := x4) rfl dX8_longestRise_88 ?_
    have hb1 := h.1
    have h := h.2
    refine qi_st 90 91 rfl (N := 1024) (by decide +kernel) (by decide +kernel) hb1.1 hb1.2 dX8_longestRise_90 (fun M2 e_M2 => ?_)
    have h := h M2 e_M2
    refine qr_iload_n 91 92 rfl (x := x3) rfl dX8_longestRise_91 ?_
    refine qr_iload_n 92 93 rfl (x := x1) rfl dX8_longestRise_92 ?_
    refine qr_icmp_ne 93 96 99 rfl (by decide) dX8_longestRise_93 (fun c93 => ?_) (fun c93 => ?_)
    · have h := h.1 c93
      refine qr_iinc 99 102 rfl (by decide) (x := x2) rfl rfl rfl dX8_longestRise_99 ?_
      refine qr_goto 102 11 (by decide) dX8_longestRise_102 ?_
      exact qr_cut 11 (ls' := [some (qR 117), some (qI x1), some (qI (q_add x2 (-1))), none, none, none, none]) (And.intro rfl (And.intro rfl (And.intro rfl trivial))) h
    · have h := h.2 c93
      refine qr_goto 96 105 (by decide) dX8_longestRise_96 ?_
      refine qr_aload_n 105 106 rfl (x := 117) rfl dX8_longestRise_105 ?_
      refine qr_getF 106 109 rfl ck8 5 (by decide) (b := 119) (by decide +kernel) rfl (by decide +kernel) (by decide +kernel) wm_286 rfl dX8_longestRise_106 ?_
      refine qr_iload_n 109 110 rfl (x := x1) rfl dX8_longestRise_109 ?_
      have hb3 := h.1
      have h := h.2
      refine qi_ld 110 111 rfl (N := 1024) (by decide +kernel) (by decide +kernel) hb3.1 hb3.2 dX8_longestRise_110 ?_
      exact qe_i 111 rfl dX8_longestRise_111 h
  · have h := h.2 c34
    refine qr_iload_n 37 38 rfl (x := x3) rfl dX8_longestRise_37 ?_
    refine qr_iconst 38 39 rfl (q_l32 _ rfl) dX8_longestRise_38 ?_
    refine qr_iload 39 41 rfl (x := x5) rfl dX8_longestRise_39 ?_
    refine qr_ishl 41 42 rfl dX8_longestRise_41 ?_
    refine qr_ixor 42 43 rfl dX8_longestRise_42 ?_
    refine qn_i 43 (fun x6_4 e_x6_4 => ?_)
    have h := h x6_4 e_x6_4
    refine qr_istore 43 45 rfl (by decide) rfl rfl dX8_longestRise_43 ?_
    refine qr_aload_n 45 46 rfl (x := 117) rfl dX8_longestRise_45 ?_
    refine qr_getF 46 49 rfl ck8 4 (by decide) (b := 118) (by decide +kernel) rfl (by decide +kernel) (by decide +kernel) wm_285 rfl dX8_longestRise_46 ?_
    refine qr_iload 49 51 rfl (x := x6_4) rfl dX8_longestRise_49 ?_
    have hb5 := h.1
    have h := h.2
    refine qi_ld 51 52 rfl (N := 1024) (by decide +kernel) (by decide +kernel) hb5.1 hb5.2 dX8_longestRise_51 ?_
    refine qr_aload_n 52 53 rfl (x := 117) rfl dX8_longestRise_52 ?_
    refine qr_getF 53 56 rfl ck8 4 (by decide) (b := 118) (by decide +kernel) rfl (by decide +kernel) (by decide +kernel) wm_285 rfl dX8_longestRise_53 ?_
    refine qr_iload_n 56 57 rfl (x := x3) rfl dX8_longestRise_56 ?_
    have hb6 := h.1
    have h := h.2
    refine qi_ld 57 58 rfl (N := 1024) (by decide +kernel) (by decide +kernel) hb6.1 hb6.2 dX8_longestRise_57 ?_
    refine qr_icmp_le 58 61 77 rfl (by decide) dX8_longestRise_58 (fun c58 => ?_) (fun c58 => ?_)
    · have h := h.1 c58
      refine qr_iinc 77 80 rfl (by decide) (x := x5) rfl rfl rfl dX8_longestRise_77 ?_
      refine qr_goto 80 28 (by decide) dX8_longestRise_80 ?_
      exact qr_cut 28 (ls' := [some (qR 117), some (qI x1), some (qI x2), some (qI x3), some (qI x4), some (qI (q_add x5 1)), none]) (And.intro rfl (And.intro rfl (And.intro rfl (And.intro rfl (And.intro rfl (And.intro rfl trivial)))))) h
    · have h := h.2 c58
      refine qr_iload 61 63 rfl (x := x4) rfl dX8_longestRise_61 ?_
      refine qr_aload_n 63 64 rfl (x := 117) rfl dX8_longestRise_63 ?_
      refine qr_getF 64 67 rfl ck8 5 (by decide) (b := 119) (by decide +kernel) rfl (by decide +kernel) (by decide +kernel) wm_286 rfl dX8_longestRise_64 ?_
      refine qr_iload 67 69 rfl (x := x6_4) rfl dX8_longestRise_67 ?_
      have hb7 := h.1
      have h := h.2
      refine qi_ld 69 70 rfl (N := 1024) (by decide +kernel) (by decide +kernel) hb7.1 hb7.2 dX8_longestRise_69 ?_
      refine qr_iconst 70 71 rfl (q_l32 _ rfl) dX8_longestRise_70 ?_
      refine qr_iadd 71 72 rfl dX8_longestRise_71 ?_
      refine qs_I 72 75 rfl (av := [qI x4, qI (q_add (M 119 x6_4) 1)]) ca_J9_max_7cf53 wm_520 wm_826 rfl rfl (Nat.le_of_ble_eq_true rfl) dX8_longestRise_72 h (fun v9 M8 h => ?_)
      refine qr_istore 75 77 rfl (by decide) rfl rfl dX8_longestRise_75 ?_
      refine qr_iinc 77 80 rfl (by decide) (x := x5) rfl rfl rfl dX8_longestRise_77 ?_
      refine qr_goto 80 28 (by decide) dX8_longestRise_80 ?_
      exact qr_cut 28 (ls' := [some (qR 117), some (qI x1), some (qI x2), some (qI x3), some (qI v9), some (qI (q_add x5 1)), none]) (And.intro rfl (And.intro rfl (And.intro rfl (And.intro rfl (And.intro rfl (And.intro rfl trivial)))))) h
theorem dX8_sortByWorth_0 : decode cX8_sortByWorth 0 = .ok (.aload_n 0, 1) := by decide +kernel
theorem dX8_sortByWorth_1 : decode cX8_sortByWorth 1 = .ok (.getfield 24, 3) := by decide +kernel
theorem dX8_sortByWorth_4 : decode cX8_sortByWorth 4 = .ok (.iconst 0, 1) := by decide +kernel
theorem dX8_sortByWorth_5 : decode cX8_sortByWorth 5 = .ok (.aload_n 0, 1) := by decide +kernel
theorem dX8_sortByWorth_6 : decode cX8_sortByWorth 6 = .ok (.getfield 37, 3) := by decide +kernel
theorem dX8_sortByWorth_9 : decode cX8_sortByWorth 9 = .ok (.aload_n 0, 1) := by decide +kernel
theorem dX8_sortByWorth_10 : decode cX8_sortByWorth 10 = .ok (.getfield 40, 3) := by decide +kernel
theorem dX8_sortByWorth_13 : decode cX8_sortByWorth 13 = .ok (.isub, 1) := by decide +kernel
theorem dX8_sortByWorth_14 : decode cX8_sortByWorth 14 = .ok (.iconst 2, 1) := by decide +kernel
theorem dX8_sortByWorth_15 : decode cX8_sortByWorth 15 = .ok (.iadd, 1) := by decide +kernel
theorem dX8_sortByWorth_16 : decode cX8_sortByWorth 16 = .ok (.iconst 0, 1) := by decide +kernel
theorem dX8_sortByWorth_17 : decode cX8_sortByWorth 17 = .ok (.invokestatic 61, 3) := by decide +kernel
theorem dX8_sortByWorth_20 : decode cX8_sortByWorth 20 = .ok (.iconst 0, 1) := by decide +kernel
theorem dX8_sortByWorth_21 : decode cX8_sortByWorth 21 = .ok (.istore_n 1, 1) := by decide +kernel
theorem dX8_sortByWorth_22 : decode cX8_sortByWorth 22 = .ok (.iload_n 1, 1) := by decide +kernel
theorem dX8_sortByWorth_23 : decode cX8_sortByWorth 23 = .ok (.aload_n 0, 1) := by decide +kernel
theorem dX8_sortByWorth_24 : decode cX8_sortByWorth 24 = .ok (.getfield 34, 3) := by decide +kernel
theorem dX8_sortByWorth_27 : decode cX8_sortByWorth 27 = .ok (.if_icmp .ge 31, 3) := by decide +kernel
theorem dX8_sortByWorth_30 : decode cX8_sortByWorth 30 = .ok (.aload_n 0, 1) := by decide +kernel
theorem dX8_sortByWorth_31 : decode cX8_sortByWorth 31 = .ok (.getfield 24, 3) := by decide +kernel
theorem dX8_sortByWorth_34 : decode cX8_sortByWorth 34 = .ok (.aload_n 0, 1) := by decide +kernel
theorem dX8_sortByWorth_35 : decode cX8_sortByWorth 35 = .ok (.getfield 9, 3) := by decide +kernel
theorem dX8_sortByWorth_38 : decode cX8_sortByWorth 38 = .ok (.iload_n 1, 1) := by decide +kernel
theorem dX8_sortByWorth_39 : decode cX8_sortByWorth 39 = .ok (.iaload, 1) := by decide +kernel
theorem dX8_sortByWorth_40 : decode cX8_sortByWorth 40 = .ok (.aload_n 0, 1) := by decide +kernel
theorem dX8_sortByWorth_41 : decode cX8_sortByWorth 41 = .ok (.getfield 40, 3) := by decide +kernel
theorem dX8_sortByWorth_44 : decode cX8_sortByWorth 44 = .ok (.isub, 1) := by decide +kernel
theorem dX8_sortByWorth_45 : decode cX8_sortByWorth 45 = .ok (.iconst 1, 1) := by decide +kernel
theorem dX8_sortByWorth_46 : decode cX8_sortByWorth 46 = .ok (.iadd, 1) := by decide +kernel
theorem dX8_sortByWorth_47 : decode cX8_sortByWorth 47 = .ok (.dup2, 1) := by decide +kernel
theorem dX8_sortByWorth_48 : decode cX8_sortByWorth 48 = .ok (.iaload, 1) := by decide +kernel
theorem dX8_sortByWorth_49 : decode cX8_sortByWorth 49 = .ok (.iconst 1, 1) := by decide +kernel
theorem dX8_sortByWorth_50 : decode cX8_sortByWorth 50 = .ok (.iadd, 1) := by decide +kernel
theorem dX8_sortByWorth_51 : decode cX8_sortByWorth 51 = .ok (.iastore, 1) := by decide +kernel
theorem dX8_sortByWorth_52 : decode cX8_sortByWorth 52 = .ok (.iinc 1 1, 3) := by decide +kernel
theorem dX8_sortByWorth_55 : decode cX8_sortByWorth 55 = .ok (.goto (-33), 3) := by decide +kernel
theorem dX8_sortByWorth_58 : decode cX8_sortByWorth 58 = .ok (.iconst 1, 1) := by decide +kernel
theorem dX8_sortByWorth_59 : decode cX8_sortByWorth 59 = .ok (.istore_n 1, 1) := by decide +kernel
theorem dX8_sortByWorth_60 : decode cX8_sortByWorth 60 = .ok (.iload_n 1, 1) := by decide +kernel
theorem dX8_sortByWorth_61 : decode cX8_sortByWorth 61 = .ok (.aload_n 0, 1) := by decide +kernel
theorem dX8_sortByWorth_62 : decode cX8_sortByWorth 62 = .ok (.getfield 37, 3) := by decide +kernel
theorem dX8_sortByWorth_65 : decode cX8_sortByWorth 65 = .ok (.aload_n 0, 1) := by decide +kernel
theorem dX8_sortByWorth_66 : decode cX8_sortByWorth 66 = .ok (.getfield 40, 3) := by decide +kernel
theorem dX8_sortByWorth_69 : decode cX8_sortByWorth 69 = .ok (.isub, 1) := by decide +kernel
theorem dX8_sortByWorth_70 : decode cX8_sortByWorth 70 = .ok (.if_icmp .gt 26, 3) := by decide +kernel
theorem dX8_sortByWorth_73 : decode cX8_sortByWorth 73 = .ok (.aload_n 0, 1) := by decide +kernel
theorem dX8_sortByWorth_74 : decode cX8_sortByWorth 74 = .ok (.getfield 24, 3) := by decide +kernel
theorem dX8_sortByWorth_77 : decode cX8_sortByWorth 77 = .ok (.iload_n 1, 1) := by decide +kernel
theorem dX8_sortByWorth_78 : decode cX8_sortByWorth 78 = .ok (.dup2, 1) := by decide +kernel
theorem dX8_sortByWorth_79 : decode cX8_sortByWorth 79 = .ok (.iaload, 1) := by decide +kernel
theorem dX8_sortByWorth_80 : decode cX8_sortByWorth 80 = .ok (.aload_n 0, 1) := by decide +kernel
theorem dX8_sortByWorth_81 : decode cX8_sortByWorth 81 = .ok (.getfield 24, 3) := by decide +kernel
theorem dX8_sortByWorth_84 : decode cX8_sortByWorth 84 = .ok (.iload_n 1, 1) := by decide +kernel
theorem dX8_sortByWorth_85 : decode cX8_sortByWorth 85 = .ok (.iconst 1, 1) := by decide +kernel
theorem dX8_sortByWorth_86 : decode cX8_sortByWorth 86 = .ok (.isub, 1) := by decide +kernel
theorem dX8_sortByWorth_87 : decode cX8_sortByWorth 87 = .ok (.iaload, 1) := by decide +kernel
theorem dX8_sortByWorth_88 : decode cX8_sortByWorth 88 = .ok (.iadd, 1) := by decide +kernel
theorem dX8_sortByWorth_89 : decode cX8_sortByWorth 89 = .ok (.iastore, 1) := by decide +kernel
theorem dX8_sortByWorth_90 : decode cX8_sortByWorth 90 = .ok (.iinc 1 1, 3) := by decide +kernel
theorem dX8_sortByWorth_93 : decode cX8_sortByWorth 93 = .ok (.goto (-33), 3) := by decide +kernel
theorem dX8_sortByWorth_96 : decode cX8_sortByWorth 96 = .ok (.iconst 0, 1) := by decide +kernel
theorem dX8_sortByWorth_97 : decode cX8_sortByWorth 97 = .ok (.istore_n 1, 1) := by decide +kernel
theorem dX8_sortByWorth_98 : decode cX8_sortByWorth 98 = .ok (.iload_n 1, 1) := by decide +kernel
theorem dX8_sortByWorth_99 : decode cX8_sortByWorth 99 = .ok (.aload_n 0, 1) := by decide +kernel
theorem dX8_sortByWorth_100 : decode cX8_sortByWorth 100 = .ok (.getfield 34, 3) := by decide +kernel
theorem dX8_sortByWorth_103 : decode cX8_sortByWorth 103 = .ok (.if_icmp .ge 43, 3) := by decide +kernel
theorem dX8_sortByWorth_106 : decode cX8_sortByWorth 106 = .ok (.aload_n 0, 1) := by decide +kernel
theorem dX8_sortByWorth_107 : decode cX8_sortByWorth 107 = .ok (.getfield 9, 3) := by decide +kernel
theorem dX8_sortByWorth_110 : decode cX8_sortByWorth 110 = .ok (.iload_n 1, 1) := by decide +kernel
theorem dX8_sortByWorth_111 : decode cX8_sortByWorth 111 = .ok (.iaload, 1) := by decide +kernel
theorem dX8_sortByWorth_112 : decode cX8_sortByWorth 112 = .ok (.aload_n 0, 1) := by decide +kernel
theorem dX8_sortByWorth_113 : decode cX8_sortByWorth 113 = .ok (.getfield 40, 3) := by decide +kernel
theorem dX8_sortByWorth_116 : decode cX8_sortByWorth 116 = .ok (.isub, 1) := by decide +kernel
theorem dX8_sortByWorth_117 : decode cX8_sortByWorth 117 = .ok (.istore_n 2, 1) := by decide +kernel
theorem dX8_sortByWorth_118 : decode cX8_sortByWorth 118 = .ok (.aload_n 0, 1) := by decide +kernel
theorem dX8_sortByWorth_119 : decode cX8_sortByWorth 119 = .ok (.getfield 18, 3) := by decide +kernel
theorem dX8_sortByWorth_122 : decode cX8_sortByWorth 122 = .ok (.aload_n 0, 1) := by decide +kernel
theorem dX8_sortByWorth_123 : decode cX8_sortByWorth 123 = .ok (.getfield 24, 3) := by decide +kernel
theorem dX8_sortByWorth_126 : decode cX8_sortByWorth 126 = .ok (.iload_n 2, 1) := by decide +kernel
theorem dX8_sortByWorth_127 : decode cX8_sortByWorth 127 = .ok (.iaload, 1) := by decide +kernel
theorem dX8_sortByWorth_128 : decode cX8_sortByWorth 128 = .ok (.iload_n 1, 1) := by decide +kernel
theorem dX8_sortByWorth_129 : decode cX8_sortByWorth 129 = .ok (.iastore, 1) := by decide +kernel
theorem dX8_sortByWorth_130 : decode cX8_sortByWorth 130 = .ok (.aload_n 0, 1) := by decide +kernel
theorem dX8_sortByWorth_131 : decode cX8_sortByWorth 131 = .ok (.getfield 24, 3) := by decide +kernel
theorem dX8_sortByWorth_134 : decode cX8_sortByWorth 134 = .ok (.iload_n 2, 1) := by decide +kernel
theorem dX8_sortByWorth_135 : decode cX8_sortByWorth 135 = .ok (.dup2, 1) := by decide +kernel
theorem dX8_sortByWorth_136 : decode cX8_sortByWorth 136 = .ok (.iaload, 1) := by decide +kernel
theorem dX8_sortByWorth_137 : decode cX8_sortByWorth 137 = .ok (.iconst 1, 1) := by decide +kernel
theorem dX8_sortByWorth_138 : decode cX8_sortByWorth 138 = .ok (.iadd, 1) := by decide +kernel
theorem dX8_sortByWorth_139 : decode cX8_sortByWorth 139 = .ok (.iastore, 1) := by decide +kernel
theorem dX8_sortByWorth_140 : decode cX8_sortByWorth 140 = .ok (.iinc 1 1, 3) := by decide +kernel
theorem dX8_sortByWorth_143 : decode cX8_sortByWorth 143 = .ok (.goto (-45), 3) := by decide +kernel
theorem dX8_sortByWorth_146 : decode cX8_sortByWorth 146 = .ok (.return_, 1) := by decide +kernel
theorem bX8_sortByWorth_0 {d : Nat} {P : q_Mem → Prop} {M : q_Mem} (h : q_kU yJ7_fill_fda19 mJ7_fill_fda19 d [qR 122, qI 0, qI (q_add (q_sub (M 117 0) (M 117 1)) 2), qI 0] M (fun M1 => q_v mX8_sortByWorth d (qPU P) M1 22 [some (qR 117), some (qI 0), none] [])) : q_v mX8_sortByWorth d (qPU P) M 0 [some (qR 117), none, none] [] := by
  refine qr_aload_n 0 1 rfl (x := 117) rfl dX8_sortByWorth_0 ?_
  refine qr_getF 1 4 rfl ck8 8 (by decide) (b := 122) (by decide +kernel) rfl (by decide +kernel) (by decide +kernel) wm_289 rfl dX8_sortByWorth_1 ?_
  refine qr_iconst 4 5 rfl (q_l32 _ rfl) dX8_sortByWorth_4 ?_
  refine qr_aload_n 5 6 rfl (x := 117) rfl dX8_sortByWorth_5 ?_
  refine qg_i 6 9 rfl ck8 0 (kk := 0) (by decide) (by decide +kernel) (by decide +kernel) rfl wm_279 rfl dX8_sortByWorth_6 ?_
  refine qr_aload_n 9 10 rfl (x := 117) rfl dX8_sortByWorth_9 ?_
  refine qg_i 10 13 rfl ck8 1 (kk := 1) (by decide) (by decide +kernel) (by decide +kernel) rfl wm_281 rfl dX8_sortByWorth_10 ?_
  refine qr_isub 13 14 rfl dX8_sortByWorth_13 ?_
  refine qr_iconst 14 15 rfl (q_l32 _ rfl) dX8_sortByWorth_14 ?_
  refine qr_iadd 15 16 rfl dX8_sortByWorth_15 ?_
  refine qr_iconst 16 17 rfl (q_l32 _ rfl) dX8_sortByWorth_16 ?_
  refine qs_U 17 20 rfl (av := [qR 122, qI 0, qI (q_add (q_sub (M 117 0) (M 117 1)) 2), qI 0]) ca_J7_fill_fda19 wm_855 wm_1188 rfl rfl (Nat.le_of_ble_eq_true rfl) dX8_sortByWorth_17 h (fun M1 h => ?_)
  refine qr_iconst 20 21 rfl (q_l32 _ rfl) dX8_sortByWorth_20 ?_
  refine qr_istore_n 21 22 rfl (by decide) rfl rfl dX8_sortByWorth_21 ?_
  exact h
theorem bX8_sortByWorth_22 {d : Nat} {P : q_Mem → Prop} {M : q_Mem} (x1 : Int) (h : (((M 117 3) ≤ x1) → q_v mX8_sortByWorth d (qPU P) M 60 [some (qR 117), some (qI 1), none] []) ∧ ((¬ ((M 117 3) ≤ x1)) → (0 ≤ x1 ∧ x1 < (1024 : Int)) ∧ ((0 ≤ (q_add (q_sub (M 118 x1) (M 117 1)) 1) ∧ (q_add (q_sub (M 118 x1) (M 117 1)) 1) < (3170 : Int)) ∧ ((0 ≤ (q_add (q_sub (M 118 x1) (M 117 1)) 1) ∧ (q_add (q_sub (M 118 x1) (M 117 1)) 1) < (3170 : Int)) ∧ (∀ M4 : q_Mem, M4 = q_up M 122 (q_add (q_sub (M 118 x1) (M 117 1)) 1) (q_add (M 122 (q_add (q_sub (M 118 x1) (M 117 1)) 1)) 1) → q_v mX8_sortByWorth d (qPU P) M4 22 [some (qR 117), some (qI (q_add x1 1)), none] []))))) : q_v mX8_sortByWorth d (qPU P) M 22 [some (qR 117), some (qI x1), none] [] := by
  refine qr_iload_n 22 23 rfl (x := x1) rfl dX8_sortByWorth_22 ?_
  refine qr_aload_n 23 24 rfl (x := 117) rfl dX8_sortByWorth_23 ?_
  refine qg_i 24 27 rfl ck8 3 (kk := 3) (by decide) (by decide +kernel) (by decide +kernel) rfl wm_284 rfl dX8_sortByWorth_24 ?_
  refine qr_icmp_ge 27 30 58 rfl (by decide) dX8_sortByWorth_27 (fun c27 => ?_) (fun c27 => ?_)
  · have h := h.1 c27
    refine qr_iconst 58 59 rfl (q_l32 _ rfl) dX8_sortByWorth_58 ?_
    refine qr_istore_n 59 60 rfl (by decide) rfl rfl dX8_sortByWorth_59 ?_
    exact h
  · have h := h.2 c27
    refine qr_aload_n 30 31 rfl (x := 117) rfl dX8_sortByWorth_30 ?_
    refine qr_getF 31 34 rfl ck8 8 (by decide) (b := 122) (by decide +kernel) rfl (by decide +kernel) (by decide +kernel) wm_289 rfl dX8_sortByWorth_31 ?_
    refine qr_aload_n 34 35 rfl (x := 117) rfl dX8_sortByWorth_34 ?_
    refine qr_getF 35 38 rfl ck8 4 (by decide) (b := 118) (by decide +kernel) rfl (by decide +kernel) (by decide +kernel) wm_285 rfl dX8_sortByWorth_35 ?_
    refine qr_iload_n 38 39 rfl (x := x1) rfl dX8_sortByWorth_38 ?_
    have hb1 := h.1
    have h := h.2
    refine qi_ld 39 40 rfl (N := 1024) (by decide +kernel) (by decide +kernel) hb1.1 hb1.2 dX8_sortByWorth_39 ?_
    refine qr_aload_n 40 41 rfl (x := 117) rfl dX8_sortByWorth_40 ?_
    refine qg_i 41 44 rfl ck8 1 (kk := 1) (by decide) (by decide +kernel) (by decide +kernel) rfl wm_281 rfl dX8_sortByWorth_41 ?_
    refine qr_isub 44 45 rfl dX8_sortByWorth_44 ?_
    refine qr_iconst 45 46 rfl (q_l32 _ rfl) dX8_sortByWorth_45 ?_
    refine qr_iadd 46 47 rfl dX8_sortByWorth_46 ?_
    refine qr_dup2 47 48 rfl rfl rfl dX8_sortByWorth_47 ?_
    have hb2 := h.1
    have h := h.2
    refine qi_ld 48 49 rfl (N := 3170) (by decide +kernel) (by decide +kernel) hb2.1 hb2.2 dX8_sortByWorth_48 ?_
    refine qr_iconst 49 50 rfl (q_l32 _ rfl) dX8_sortByWorth_49 ?_
    refine qr_iadd 50 51 rfl dX8_sortByWorth_50 ?_
    have hb3 := h.1
    have h := h.2
    refine qi_st 51 52 rfl (N := 3170) (by decide +kernel) (by decide +kernel) hb3.1 hb3.2 dX8_sortByWorth_51 (fun M4 e_M4 => ?_)
    have h := h M4 e_M4
    refine qr_iinc 52 55 rfl (by decide) (x := x1) rfl rfl rfl dX8_sortByWorth_52 ?_
    refine qr_goto 55 22 (by decide) dX8_sortByWorth_55 ?_
    exact h
theorem bX8_sortByWorth_60 {d : Nat} {P : q_Mem → Prop} {M : q_Mem} (x1 : Int) (h : (((q_sub (M 117 0) (M 117 1)) < x1) → q_v mX8_sortByWorth d (qPU P) M 98 [some (qR 117), some (qI 0), none] []) ∧ ((¬ ((q_sub (M 117 0) (M 117 1)) < x1)) → (0 ≤ x1 ∧ x1 < (3170 : Int)) ∧ ((0 ≤ (q_sub x1 1) ∧ (q_sub x1 1) < (3170 : Int)) ∧ ((0 ≤ x1 ∧ x1 < (3170 : Int)) ∧ (∀ M4 : q_Mem, M4 = q_up M 122 x1 (q_add (M 122 x1) (M 122 (q_sub x1 1))) → q_v mX8_sortByWorth d (qPU P) M4 60 [some (qR 117), some (qI (q_add x1 1)), none] []))))) : q_v mX8_sortByWorth d (qPU P) M 60 [some (qR 117), some (qI x1), none] [] := by
  refine qr_iload_n 60 61 rfl (x := x1) rfl dX8_sortByWorth_60 ?_
  refine qr_aload_n 61 62 rfl (x := 117) rfl dX8_sortByWorth_61 ?_
  refine qg_i 62 65 rfl ck8 0 (kk := 0) (by decide) (by decide +kernel) (by decide +kernel) rfl wm_279 rfl dX8_sortByWorth_62 ?_
  refine qr_aload_n 65 66 rfl (x := 117) rfl dX8_sortByWorth_65 ?_
  refine qg_i 66 69 rfl ck8 1 (kk := 1) (by decide) (by decide +kernel) (by decide +kernel) rfl wm_281 rfl dX8_sortByWorth_66 ?_
  refine qr_isub 69 70 rfl dX8_sortByWorth_69 ?_
  refine qr_icmp_gt 70 73 96 rfl (by decide) dX8_sortByWorth_70 (fun c70 => ?_) (fun c70 => ?_)
  · have h := h.1 c70
    refine qr_iconst 96 97 rfl (q_l32 _ rfl) dX8_sortByWorth_96 ?_
    refine qr_istore_n 97 98 rfl (by decide) rfl rfl dX8_sortByWorth_97 ?_
    exact h
  · have h := h.2 c70
    refine qr_aload_n 73 74 rfl (x := 117) rfl dX8_sortByWorth_73 ?_
    refine qr_getF 74 77 rfl ck8 8 (by decide) (b := 122) (by decide +kernel) rfl (by decide +kernel) (by decide +kernel) wm_289 rfl dX8_sortByWorth_74 ?_
    refine qr_iload_n 77 78 rfl (x := x1) rfl dX8_sortByWorth_77 ?_
    refine qr_dup2 78 79 rfl rfl rfl dX8_sortByWorth_78 ?_
    have hb1 := h.1
    have h := h.2
    refine qi_ld 79 80 rfl (N := 3170) (by decide +kernel) (by decide +kernel) hb1.1 hb1.2 dX8_sortByWorth_79 ?_
    refine qr_aload_n 80 81 rfl (x := 117) rfl dX8_sortByWorth_80 ?_
    refine qr_getF 81 84 rfl ck8 8 (by decide) (b := 122) (by decide +kernel) rfl (by decide +kernel) (by decide +kernel) wm_289 rfl dX8_sortByWorth_81 ?_
    refine qr_iload_n 84 85 rfl (x := x1) rfl dX8_sortByWorth_84 ?_
    refine qr_iconst 85 86 rfl (q_l32 _ rfl) dX8_sortByWorth_85 ?_
    refine qr_isub 86 87 rfl dX8_sortByWorth_86 ?_
    have hb2 := h.1
    have h := h.2
    refine qi_ld 87 88 rfl (N := 3170) (by decide +kernel) (by decide +kernel) hb2.1 hb2.2 dX8_sortByWorth_87 ?_
    refine qr_iadd 88 89 rfl dX8_sortByWorth_88 ?_
    have hb3 := h.1
    have h := h.2
    refine qi_st 89 90 rfl (N := 3170) (by decide +kernel) (by decide +kernel) hb3.1 hb3.2 dX8_sortByWorth_89 (fun M4 e_M4 => ?_)
    have h := h M4 e_M4
    refine qr_iinc 90 93 rfl (by decide) (x := x1) rfl rfl rfl dX8_sortByWorth_90 ?_
    refine qr_goto 93 60 (by decide) dX8_sortByWorth_93 ?_
    exact h
theorem bX8_sortByWorth_98 {d : Nat} {P : q_Mem → Prop} {M : q_Mem} (x1 : Int) (h : (((M 117 3) ≤ x1) → P M) ∧ ((¬ ((M 117 3) ≤ x1)) → (0 ≤ x1 ∧ x1 < (1024 : Int)) ∧ (∀ x2_2 : Int, x2_2 = (q_sub (M 118 x1) (M 117 1)) → (0 ≤ x2_2 ∧ x2_2 < (3170 : Int)) ∧ ((0 ≤ (M 122 x2_2) ∧ (M 122 x2_2) < (1024 : Int)) ∧ (∀ M5 : q_Mem, M5 = q_up M 120 (M 122 x2_2) x1 → (0 ≤ x2_2 ∧ x2_2 < (3170 : Int)) ∧ ((0 ≤ x2_2 ∧ x2_2 < (3170 : Int)) ∧ (∀ M8 : q_Mem, M8 = q_up M5 122 x2_2 (q_add (M5 122 x2_2) 1) → q_v mX8_sortByWorth d (qPU P) M8 98 [some (qR 117), some (qI (q_add x1 1)), none] []))))))) : q_v mX8_sortByWorth d (qPU P) M 98 [some (qR 117), some (qI x1), none] [] := by
  refine qr_iload_n 98 99 rfl (x := x1) rfl dX8_sortByWorth_98 ?_
  refine qr_aload_n 99 100 rfl (x := 117) rfl dX8_sortByWorth_99 ?_
  refine qg_i 100 103 rfl ck8 3 (kk := 3) (by decide) (by decide +kernel) (by decide +kernel) rfl wm_284 rfl dX8_sortByWorth_100 ?_
  refine qr_icmp_ge 103 106 146 rfl (by decide) dX8_sortByWorth_103 (fun c103 => ?_) (fun c103 => ?_)
  · have h := h.1 c103
    exact qe_u 146 rfl dX8_sortByWorth_146 h
  · have h := h.2 c103
    refine qr_aload_n 106 107 rfl (x := 117) rfl dX8_sortByWorth_106 ?_
    refine qr_getF 107 110 rfl ck8 4 (by decide) (b := 118) (by decide +kernel) rfl (by decide +kernel) (by decide +kernel) wm_285 rfl dX8_sortByWorth_107 ?_
    refine qr_iload_n 110 111 rfl (x := x1) rfl dX8_sortByWorth_110 ?_
    have hb1 := h.1
    have h := h.2
    refine qi_ld 111 112 rfl (N := 1024) (by decide +kernel) (by decide +kernel) hb1.1 hb1.2 dX8_sortByWorth_111 ?_
    refine qr_aload_n 112 113 rfl (x := 117) rfl dX8_sortByWorth_112 ?_
    refine qg_i 113 116 rfl ck8 1 (kk := 1) (by decide) (by decide +kernel) (by decide +kernel) rfl wm_281 rfl dX8_sortByWorth_113 ?_
    refine qr_isub 116 117 rfl dX8_sortByWorth_116 ?_
    refine qn_i 117 (fun x2_2 e_x2_2 => ?_)
    have h := h x2_2 e_x2_2
    refine qr_istore_n 117 118 rfl (by decide) rfl rfl dX8_sortByWorth_117 ?_
    refine qr_aload_n 118 119 rfl (x := 117) rfl dX8_sortByWorth_118 ?_
    refine qr_getF 119 122 rfl ck8 6 (by decide) (b := 120) (by decide +kernel) rfl (by decide +kernel) (by decide +kernel) wm_287 rfl dX8_sortByWorth_119 ?_
    refine qr_aload_n 122 123 rfl (x := 117) rfl dX8_sortByWorth_122 ?_
    refine qr_getF 123 126 rfl ck8 8 (by decide) (b := 122) (by decide +kernel) rfl (by decide +kernel) (by decide +kernel) wm_289 rfl dX8_sortByWorth_123 ?_
    refine qr_iload_n 126 127 rfl (x := x2_2) rfl dX8_sortByWorth_126 ?_
    have hb3 := h.1
    have h := h.2
    refine qi_ld 127 128 rfl (N := 3170) (by decide +kernel) (by decide +kernel) hb3.1 hb3.2 dX8_sortByWorth_127 ?_
    refine qr_iload_n 128 129 rfl (x := x1) rfl dX8_sortByWorth_128 ?_
    have hb4 := h.1
    have h := h.2
    refine qi_st 129 130 rfl (N := 1024) (by decide +kernel) (by decide +kernel) hb4.1 hb4.2 dX8_sortByWorth_129 (fun M5 e_M5 => ?_)
    have h := h M5 e_M5
    refine qr_aload_n 130 131 rfl (x := 117) rfl dX8_sortByWorth_130 ?_
    refine qr_getF 131 134 rfl ck8 8 (by decide) (b := 122) (by decide +kernel) rfl (by decide +kernel) (by decide +kernel) wm_289 rfl dX8_sortByWorth_131 ?_
    refine qr_iload_n 134 135 rfl (x := x2_2) rfl dX8_sortByWorth_134 ?_
    refine qr_dup2 135 136 rfl rfl rfl dX8_sortByWorth_135 ?_
    have hb6 := h.1
    have h := h.2
    refine qi_ld 136 137 rfl (N := 3170) (by decide +kernel) (by decide +kernel) hb6.1 hb6.2 dX8_sortByWorth_136 ?_
    refine qr_iconst 137 138 rfl (q_l32 _ rfl) dX8_sortByWorth_137 ?_
    refine qr_iadd 138 139 rfl dX8_sortByWorth_138 ?_
    have hb7 := h.1
    have h := h.2
    refine qi_st 139 140 rfl (N := 3170) (by decide +kernel) (by decide +kernel) hb7.1 hb7.2 dX8_sortByWorth_139 (fun M8 e_M8 => ?_)
    have h := h M8 e_M8
    refine qr_iinc 140 143 rfl (by decide) (x := x1) rfl rfl rfl dX8_sortByWorth_140 ?_
    refine qr_goto 143 98 (by decide) dX8_sortByWorth_143 ?_
    exact qr_cut 98 (ls' := [some (qR 117), some (qI (q_add x1 1)), none]) (And.intro rfl (And.intro rfl trivial)) h
theorem dX8_drawsWorth_0 : decode cX8_drawsWorth 0 = .ok (.aload_n 0, 1) := by decide +kernel
theorem dX8_drawsWorth_1 : decode cX8_drawsWorth 1 = .ok (.iload_n 1, 1) := by decide +kernel
theorem dX8_drawsWorth_2 : decode cX8_drawsWorth 2 = .ok (.iload_n 2, 1) := by decide +kernel
theorem dX8_drawsWorth_3 : decode cX8_drawsWorth 3 = .ok (.invokevirtual 80, 3) := by decide +kernel
theorem dX8_drawsWorth_6 : decode cX8_drawsWorth 6 = .ok (.iconst 0, 1) := by decide +kernel
theorem dX8_drawsWorth_7 : decode cX8_drawsWorth 7 = .ok (.istore 4, 2) := by decide +kernel
theorem dX8_drawsWorth_9 : decode cX8_drawsWorth 9 = .ok (.iconst 0, 1) := by decide +kernel
theorem dX8_drawsWorth_10 : decode cX8_drawsWorth 10 = .ok (.istore 5, 2) := by decide +kernel
theorem dX8_drawsWorth_12 : decode cX8_drawsWorth 12 = .ok (.iload 5, 2) := by decide +kernel
theorem dX8_drawsWorth_14 : decode cX8_drawsWorth 14 = .ok (.aload_n 0, 1) := by decide +kernel
theorem dX8_drawsWorth_15 : decode cX8_drawsWorth 15 = .ok (.getfield 34, 3) := by decide +kernel
theorem dX8_drawsWorth_18 : decode cX8_drawsWorth 18 = .ok (.if_icmp .ge 32, 3) := by decide +kernel
theorem dX8_drawsWorth_21 : decode cX8_drawsWorth 21 = .ok (.aload_n 0, 1) := by decide +kernel
theorem dX8_drawsWorth_22 : decode cX8_drawsWorth 22 = .ok (.getfield 9, 3) := by decide +kernel
theorem dX8_drawsWorth_25 : decode cX8_drawsWorth 25 = .ok (.iload 5, 2) := by decide +kernel
theorem dX8_drawsWorth_27 : decode cX8_drawsWorth 27 = .ok (.iaload, 1) := by decide +kernel
theorem dX8_drawsWorth_28 : decode cX8_drawsWorth 28 = .ok (.iload_n 3, 1) := by decide +kernel
theorem dX8_drawsWorth_29 : decode cX8_drawsWorth 29 = .ok (.if_icmp .lt 15, 3) := by decide +kernel
theorem dX8_drawsWorth_32 : decode cX8_drawsWorth 32 = .ok (.iload 4, 2) := by decide +kernel
theorem dX8_drawsWorth_34 : decode cX8_drawsWorth 34 = .ok (.aload_n 0, 1) := by decide +kernel
theorem dX8_drawsWorth_35 : decode cX8_drawsWorth 35 = .ok (.getfield 21, 3) := by decide +kernel
theorem dX8_drawsWorth_38 : decode cX8_drawsWorth 38 = .ok (.iload 5, 2) := by decide +kernel
theorem dX8_drawsWorth_40 : decode cX8_drawsWorth 40 = .ok (.iaload, 1) := by decide +kernel
theorem dX8_drawsWorth_41 : decode cX8_drawsWorth 41 = .ok (.iadd, 1) := by decide +kernel
theorem dX8_drawsWorth_42 : decode cX8_drawsWorth 42 = .ok (.istore 4, 2) := by decide +kernel
theorem dX8_drawsWorth_44 : decode cX8_drawsWorth 44 = .ok (.iinc 5 1, 3) := by decide +kernel
theorem dX8_drawsWorth_47 : decode cX8_drawsWorth 47 = .ok (.goto (-35), 3) := by decide +kernel
theorem dX8_drawsWorth_50 : decode cX8_drawsWorth 50 = .ok (.iload 4, 2) := by decide +kernel
theorem dX8_drawsWorth_52 : decode cX8_drawsWorth 52 = .ok (.ireturn, 1) := by decide +kernel
theorem bX8_drawsWorth_0 {d : Nat} {P : Int → q_Mem → Prop} {M : q_Mem} (x1 x2 x3 : Int) (h : q_kU yX8_drawLots mX8_drawLots d [qR 117, qI x1, qI x2] M (fun M1 => q_v mX8_drawsWorth d (qPI P) M1 12 [some (qR 117), none, none, some (qI x3), some (qI 0), some (qI 0)] [])) : q_v mX8_drawsWorth d (qPI P) M 0 [some (qR 117), some (qI x1), some (qI x2), some (qI x3), none, none] [] := by
  refine qr_aload_n 0 1 rfl (x := 117) rfl dX8_drawsWorth_0 ?_
  refine qr_iload_n 1 2 rfl (x := x1) rfl dX8_drawsWorth_1 ?_
  refine qr_iload_n 2 3 rfl (x := x2) rfl dX8_drawsWorth_2 ?_
  refine qw_U 3 6 rfl (av := [qI x1, qI x2]) ca_X8_drawLots wm_1246 wp_73 wm_1244 ck8 (by decide +kernel) rfl rfl (Nat.le_of_ble_eq_true rfl) dX8_drawsWorth_3 h (fun M1 h => ?_)
  refine qr_iconst 6 7 rfl (q_l32 _ rfl) dX8_drawsWorth_6 ?_
  refine qr_istore 7 9 rfl (by decide) rfl rfl dX8_drawsWorth_7 ?_
  refine qr_iconst 9 10 rfl (q_l32 _ rfl) dX8_drawsWorth_9 ?_
  refine qr_istore 10 12 rfl (by decide) rfl rfl dX8_drawsWorth_10 ?_
  exact qr_cut 12 (ls' := [some (qR 117), none, none, some (qI x3), some (qI 0), some (qI 0)]) (And.intro rfl (And.intro rfl (And.intro rfl (And.intro rfl trivial)))) h
theorem bX8_drawsWorth_12 {d : Nat} {P : Int → q_Mem → Prop} {M : q_Mem} (x3 x4 x5 : Int) (h : (((M 117 3) ≤ x5) → P x4 M) ∧ ((¬ ((M 117 3) ≤ x5)) → (0 ≤ x5 ∧ x5 < (1024 : Int)) ∧ ((((M 118 x5) < x3) → q_v mX8_drawsWorth d (qPI P) M 12 [some (qR 117), none, none, some (qI x3), some (qI x4), some (qI (q_add x5 1))] []) ∧ ((¬ ((M 118 x5) < x3)) → (0 ≤ x5 ∧ x5 < (1024 : Int)) ∧ (∀ x4_3 : Int, x4_3 = (q_add x4 (M 121 x5)) → q_v mX8_drawsWorth d (qPI P) M 12 [some (qR 117), none, none, some (qI x3), some (qI x4_3), some (qI (q_add x5 1))] []))))) : q_v mX8_drawsWorth d (qPI P) M 12 [some (qR 117), none, none, some (qI x3), some (qI x4), some (qI x5)] [] := by
  refine qr_iload 12 14 rfl (x := x5) rfl dX8_drawsWorth_12 ?_
  refine qr_aload_n 14 15 rfl (x := 117) rfl dX8_drawsWorth_14 ?_
  refine qg_i 15 18 rfl ck8 3 (kk := 3) (by decide) (by decide +kernel) (by decide +kernel) rfl wm_284 rfl dX8_drawsWorth_15 ?_
  refine qr_icmp_ge 18 21 50 rfl (by decide) dX8_drawsWorth_18 (fun c18 => ?_) (fun c18 => ?_)
  · have h := h.1 c18
    refine qr_iload 50 52 rfl (x := x4) rfl dX8_drawsWorth_50 ?_
    exact qe_i 52 rfl dX8_drawsWorth_52 h
  · have h := h.2 c18
    refine qr_aload_n 21 22 rfl (x := 117) rfl dX8_drawsWorth_21 ?_
    refine qr_getF 22 25 rfl ck8 4 (by decide) (b := 118) (by decide +kernel) rfl (by decide +kernel) (by decide +kernel) wm_285 rfl dX8_drawsWorth_22 ?_
    refine qr_iload 25 27 rfl (x := x5) rfl dX8_drawsWorth_25 ?_
    have hb1 := h.1
    have h := h.2
    refine qi_ld 27 28 rfl (N := 1024) (by decide +kernel) (by decide +kernel) hb1.1 hb1.2 dX8_drawsWorth_27 ?_
    refine qr_iload_n 28 29 rfl (x := x3) rfl dX8_drawsWorth_28 ?_
    refine qr_icmp_lt 29 32 44 rfl (by decide) dX8_drawsWorth_29 (fun c29 => ?_) (fun c29 => ?_)
    · have h := h.1 c29
      refine qr_iinc 44 47 rfl (by decide) (x := x5) rfl rfl rfl dX8_drawsWorth_44 ?_
      refine qr_goto 47 12 (by decide) dX8_drawsWorth_47 ?_
      exact h
    · have h := h.2 c29
      refine qr_iload 32 34 rfl (x := x4) rfl dX8_drawsWorth_32 ?_
      refine qr_aload_n 34 35 rfl (x := 117) rfl dX8_drawsWorth_34 ?_
      refine qr_getF 35 38 rfl ck8 7 (by decide) (b := 121) (by decide +kernel) rfl (by decide +kernel) (by decide +kernel) wm_288 rfl dX8_drawsWorth_35 ?_
      refine qr_iload 38 40 rfl (x := x5) rfl dX8_drawsWorth_38 ?_
      have hb2 := h.1
      have h := h.2
      refine qi_ld 40 41 rfl (N := 1024) (by decide +kernel) (by decide +kernel) hb2.1 hb2.2 dX8_drawsWorth_40 ?_
      refine qr_iadd 41 42 rfl dX8_drawsWorth_41 ?_
      refine qn_i 42 (fun x4_3 e_x4_3 => ?_)
      have h := h x4_3 e_x4_3
      refine qr_istore 42 44 rfl (by decide) rfl rfl dX8_drawsWorth_42 ?_
      refine qr_iinc 44 47 rfl (by decide) (x := x5) rfl rfl rfl dX8_drawsWorth_44 ?_
      refine qr_goto 47 12 (by decide) dX8_drawsWorth_47 ?_
      exact h
theorem dX8_worthOfDraws_0 : decode cX8_worthOfDraws 0 = .ok (.aload_n 0, 1) := by decide +kernel
theorem dX8_worthOfDraws_1 : decode cX8_worthOfDraws 1 = .ok (.iload_n 1, 1) := by decide +kernel
theorem dX8_worthOfDraws_2 : decode cX8_worthOfDraws 2 = .ok (.iload_n 2, 1) := by decide +kernel
theorem dX8_worthOfDraws_3 : decode cX8_worthOfDraws 3 = .ok (.invokevirtual 80, 3) := by decide +kernel
theorem dX8_worthOfDraws_6 : decode cX8_worthOfDraws 6 = .ok (.iconst 0, 1) := by decide +kernel
theorem dX8_worthOfDraws_7 : decode cX8_worthOfDraws 7 = .ok (.istore_n 3, 1) := by decide +kernel
theorem dX8_worthOfDraws_8 : decode cX8_worthOfDraws 8 = .ok (.iconst 0, 1) := by decide +kernel
theorem dX8_worthOfDraws_9 : decode cX8_worthOfDraws 9 = .ok (.istore 4, 2) := by decide +kernel
theorem dX8_worthOfDraws_11 : decode cX8_worthOfDraws 11 = .ok (.iload 4, 2) := by decide +kernel
theorem dX8_worthOfDraws_13 : decode cX8_worthOfDraws 13 = .ok (.aload_n 0, 1) := by decide +kernel
theorem dX8_worthOfDraws_14 : decode cX8_worthOfDraws 14 = .ok (.getfield 34, 3) := by decide +kernel
theorem dX8_worthOfDraws_17 : decode cX8_worthOfDraws 17 = .ok (.if_icmp .ge 27, 3) := by decide +kernel
theorem dX8_worthOfDraws_20 : decode cX8_worthOfDraws 20 = .ok (.iload_n 3, 1) := by decide +kernel
theorem dX8_worthOfDraws_21 : decode cX8_worthOfDraws 21 = .ok (.aload_n 0, 1) := by decide +kernel
theorem dX8_worthOfDraws_22 : decode cX8_worthOfDraws 22 = .ok (.getfield 9, 3) := by decide +kernel
theorem dX8_worthOfDraws_25 : decode cX8_worthOfDraws 25 = .ok (.iload 4, 2) := by decide +kernel
theorem dX8_worthOfDraws_27 : decode cX8_worthOfDraws 27 = .ok (.iaload, 1) := by decide +kernel
theorem dX8_worthOfDraws_28 : decode cX8_worthOfDraws 28 = .ok (.aload_n 0, 1) := by decide +kernel
theorem dX8_worthOfDraws_29 : decode cX8_worthOfDraws 29 = .ok (.getfield 21, 3) := by decide +kernel
theorem dX8_worthOfDraws_32 : decode cX8_worthOfDraws 32 = .ok (.iload 4, 2) := by decide +kernel
theorem dX8_worthOfDraws_34 : decode cX8_worthOfDraws 34 = .ok (.iaload, 1) := by decide +kernel
theorem dX8_worthOfDraws_35 : decode cX8_worthOfDraws 35 = .ok (.imul, 1) := by decide +kernel
theorem dX8_worthOfDraws_36 : decode cX8_worthOfDraws 36 = .ok (.iadd, 1) := by decide +kernel
theorem dX8_worthOfDraws_37 : decode cX8_worthOfDraws 37 = .ok (.istore_n 3, 1) := by decide +kernel
theorem dX8_worthOfDraws_38 : decode cX8_worthOfDraws 38 = .ok (.iinc 4 1, 3) := by decide +kernel
theorem dX8_worthOfDraws_41 : decode cX8_worthOfDraws 41 = .ok (.goto (-30), 3) := by decide +kernel
theorem dX8_worthOfDraws_44 : decode cX8_worthOfDraws 44 = .ok (.iload_n 3, 1) := by decide +kernel
theorem dX8_worthOfDraws_45 : decode cX8_worthOfDraws 45 = .ok (.ireturn, 1) := by decide +kernel
theorem bX8_worthOfDraws_0 {d : Nat} {P : Int → q_Mem → Prop} {M : q_Mem} (x1 x2 : Int) (h : q_kU yX8_drawLots mX8_drawLots d [qR 117, qI x1, qI x2] M (fun M1 => q_v mX8_worthOfDraws d (qPI P) M1 11 [some (qR 117), none, none, some (qI 0), some (qI 0)] [])) : q_v mX8_worthOfDraws d (qPI P) M 0 [some (qR 117), some (qI x1), some (qI x2), none, none] [] := by
  refine qr_aload_n 0 1 rfl (x := 117) rfl dX8_worthOfDraws_0 ?_
  refine qr_iload_n 1 2 rfl (x := x1) rfl dX8_worthOfDraws_1 ?_
  refine qr_iload_n 2 3 rfl (x := x2) rfl dX8_worthOfDraws_2 ?_
  refine qw_U 3 6 rfl (av := [qI x1, qI x2]) ca_X8_drawLots wm_1246 wp_73 wm_1244 ck8 (by decide +kernel) rfl rfl (Nat.le_of_ble_eq_true rfl) dX8_worthOfDraws_3 h (fun M1 h => ?_)
  refine qr_iconst 6 7 rfl (q_l32 _ rfl) dX8_worthOfDraws_6 ?_
  refine qr_istore_n 7 8 rfl (by decide) rfl rfl dX8_worthOfDraws_7 ?_
  refine qr_iconst 8 9 rfl (q_l32 _ rfl) dX8_worthOfDraws_8 ?_
  refine qr_istore 9 11 rfl (by decide) rfl rfl dX8_worthOfDraws_9 ?_
  exact qr_cut 11 (ls' := [some (qR 117), none, none, some (qI 0), some (qI 0)]) (And.intro rfl (And.intro rfl (And.intro rfl trivial))) h
theorem bX8_worthOfDraws_11 {d : Nat} {P : Int → q_Mem → Prop} {M : q_Mem} (x3 x4 : Int) (h : (((M 117 3) ≤ x4) → P x3 M) ∧ ((¬ ((M 117 3) ≤ x4)) → (0 ≤ x4 ∧ x4 < (1024 : Int)) ∧ ((0 ≤ x4 ∧ x4 < (1024 : Int)) ∧ (∀ x3_3 : Int, x3_3 = (q_add x3 (q_mul (M 118 x4) (M 121 x4))) → q_v mX8_worthOfDraws d (qPI P) M 11 [some (qR 117), none, none, some (qI x3_3), some (qI (q_add x4 1))] [])))) : q_v mX8_worthOfDraws d (qPI P) M 11 [some (qR 117), none, none, some (qI x3), some (qI x4)] [] := by
  refine qr_iload 11 13 rfl (x := x4) rfl dX8_worthOfDraws_11 ?_
  refine qr_aload_n 13 14 rfl (x := 117) rfl dX8_worthOfDraws_13 ?_
  refine qg_i 14 17 rfl ck8 3 (kk := 3) (by decide) (by decide +kernel) (by decide +kernel) rfl wm_284 rfl dX8_worthOfDraws_14 ?_
  refine qr_icmp_ge 17 20 44 rfl (by decide) dX8_worthOfDraws_17 (fun c17 => ?_) (fun c17 => ?_)
  · have h := h.1 c17
    refine qr_iload_n 44 45 rfl (x := x3) rfl dX8_worthOfDraws_44 ?_
    exact qe_i 45 rfl dX8_worthOfDraws_45 h
  · have h := h.2 c17
    refine qr_iload_n 20 21 rfl (x := x3) rfl dX8_worthOfDraws_20 ?_
    refine qr_aload_n 21 22 rfl (x := 117) rfl dX8_worthOfDraws_21 ?_
    refine qr_getF 22 25 rfl ck8 4 (by decide) (b := 118) (by decide +kernel) rfl (by decide +kernel) (by decide +kernel) wm_285 rfl dX8_worthOfDraws_22 ?_
    refine qr_iload 25 27 rfl (x := x4) rfl dX8_worthOfDraws_25 ?_
    have hb1 := h.1
    have h := h.2
    refine qi_ld 27 28 rfl (N := 1024) (by decide +kernel) (by decide +kernel) hb1.1 hb1.2 dX8_worthOfDraws_27 ?_
    refine qr_aload_n 28 29 rfl (x := 117) rfl dX8_worthOfDraws_28 ?_
    refine qr_getF 29 32 rfl ck8 7 (by decide) (b := 121) (by decide +kernel) rfl (by decide +kernel) (by decide +kernel) wm_288 rfl dX8_worthOfDraws_29 ?_
    refine qr_iload 32 34 rfl (x := x4) rfl dX8_worthOfDraws_32 ?_
    have hb2 := h.1
    have h := h.2
    refine qi_ld 34 35 rfl (N := 1024) (by decide +kernel) (by decide +kernel) hb2.1 hb2.2 dX8_worthOfDraws_34 ?_
    refine qr_imul 35 36 rfl dX8_worthOfDraws_35 ?_
    refine qr_iadd 36 37 rfl dX8_worthOfDraws_36 ?_
    refine qn_i 37 (fun x3_3 e_x3_3 => ?_)
    have h := h x3_3 e_x3_3
    refine qr_istore_n 37 38 rfl (by decide) rfl rfl dX8_worthOfDraws_37 ?_
    refine qr_iinc 38 41 rfl (by decide) (x := x4) rfl rfl rfl dX8_worthOfDraws_38 ?_
    refine qr_goto 41 11 (by decide) dX8_worthOfDraws_41 ?_
    exact h
theorem dX8_drawLots_0 : decode cX8_drawLots 0 = .ok (.aload_n 0, 1) := by decide +kernel
theorem dX8_drawLots_1 : decode cX8_drawLots 1 = .ok (.getfield 21, 3) := by decide +kernel
theorem dX8_drawLots_4 : decode cX8_drawLots 4 = .ok (.iconst 0, 1) := by decide +kernel
theorem dX8_drawLots_5 : decode cX8_drawLots 5 = .ok (.aload_n 0, 1) := by decide +kernel
theorem dX8_drawLots_6 : decode cX8_drawLots 6 = .ok (.getfield 34, 3) := by decide +kernel
theorem dX8_drawLots_9 : decode cX8_drawLots 9 = .ok (.iconst 0, 1) := by decide +kernel
theorem dX8_drawLots_10 : decode cX8_drawLots 10 = .ok (.invokestatic 61, 3) := by decide +kernel
theorem dX8_drawLots_13 : decode cX8_drawLots 13 = .ok (.aload_n 0, 1) := by decide +kernel
theorem dX8_drawLots_14 : decode cX8_drawLots 14 = .ok (.getfield 21, 3) := by decide +kernel
theorem dX8_drawLots_17 : decode cX8_drawLots 17 = .ok (.iload_n 1, 1) := by decide +kernel
theorem dX8_drawLots_18 : decode cX8_drawLots 18 = .ok (.iconst 1, 1) := by decide +kernel
theorem dX8_drawLots_19 : decode cX8_drawLots 19 = .ok (.iastore, 1) := by decide +kernel
theorem dX8_drawLots_20 : decode cX8_drawLots 20 = .ok (.iconst 0, 1) := by decide +kernel
theorem dX8_drawLots_21 : decode cX8_drawLots 21 = .ok (.istore_n 3, 1) := by decide +kernel
theorem dX8_drawLots_22 : decode cX8_drawLots 22 = .ok (.iload_n 3, 1) := by decide +kernel
theorem dX8_drawLots_23 : decode cX8_drawLots 23 = .ok (.iload_n 2, 1) := by decide +kernel
theorem dX8_drawLots_24 : decode cX8_drawLots 24 = .ok (.if_icmp .ge 97, 3) := by decide +kernel
theorem dX8_drawLots_27 : decode cX8_drawLots 27 = .ok (.aload_n 0, 1) := by decide +kernel
theorem dX8_drawLots_28 : decode cX8_drawLots 28 = .ok (.getfield 21, 3) := by decide +kernel
theorem dX8_drawLots_31 : decode cX8_drawLots 31 = .ok (.iconst 0, 1) := by decide +kernel
theorem dX8_drawLots_32 : decode cX8_drawLots 32 = .ok (.aload_n 0, 1) := by decide +kernel
theorem dX8_drawLots_33 : decode cX8_drawLots 33 = .ok (.getfield 18, 3) := by decide +kernel
theorem dX8_drawLots_36 : decode cX8_drawLots 36 = .ok (.iconst 0, 1) := by decide +kernel
theorem dX8_drawLots_37 : decode cX8_drawLots 37 = .ok (.aload_n 0, 1) := by decide +kernel
theorem dX8_drawLots_38 : decode cX8_drawLots 38 = .ok (.getfield 34, 3) := by decide +kernel
theorem dX8_drawLots_41 : decode cX8_drawLots 41 = .ok (.invokestatic 84, 3) := by decide +kernel
theorem dX8_drawLots_44 : decode cX8_drawLots 44 = .ok (.iconst 0, 1) := by decide +kernel
theorem dX8_drawLots_45 : decode cX8_drawLots 45 = .ok (.istore 4, 2) := by decide +kernel
theorem dX8_drawLots_47 : decode cX8_drawLots 47 = .ok (.iload 4, 2) := by decide +kernel
theorem dX8_drawLots_49 : decode cX8_drawLots 49 = .ok (.aload_n 0, 1) := by decide +kernel
theorem dX8_drawLots_50 : decode cX8_drawLots 50 = .ok (.getfield 34, 3) := by decide +kernel
theorem dX8_drawLots_53 : decode cX8_drawLots 53 = .ok (.if_icmp .ge 31, 3) := by decide +kernel
theorem dX8_drawLots_56 : decode cX8_drawLots 56 = .ok (.aload_n 0, 1) := by decide +kernel
theorem dX8_drawLots_57 : decode cX8_drawLots 57 = .ok (.getfield 21, 3) := by decide +kernel
theorem dX8_drawLots_60 : decode cX8_drawLots 60 = .ok (.iload 4, 2) := by decide +kernel
theorem dX8_drawLots_62 : decode cX8_drawLots 62 = .ok (.aload_n 0, 1) := by decide +kernel
theorem dX8_drawLots_63 : decode cX8_drawLots 63 = .ok (.getfield 18, 3) := by decide +kernel
theorem dX8_drawLots_66 : decode cX8_drawLots 66 = .ok (.iload 4, 2) := by decide +kernel
theorem dX8_drawLots_68 : decode cX8_drawLots 68 = .ok (.iaload, 1) := by decide +kernel
theorem dX8_drawLots_69 : decode cX8_drawLots 69 = .ok (.bipush 10, 2) := by decide +kernel
theorem dX8_drawLots_71 : decode cX8_drawLots 71 = .ok (.aload_n 0, 1) := by decide +kernel
theorem dX8_drawLots_72 : decode cX8_drawLots 72 = .ok (.getfield 33, 3) := by decide +kernel
theorem dX8_drawLots_75 : decode cX8_drawLots 75 = .ok (.isub, 1) := by decide +kernel
theorem dX8_drawLots_76 : decode cX8_drawLots 76 = .ok (.imul, 1) := by decide +kernel
theorem dX8_drawLots_77 : decode cX8_drawLots 77 = .ok (.iastore, 1) := by decide +kernel
theorem dX8_drawLots_78 : decode cX8_drawLots 78 = .ok (.iinc 4 1, 3) := by decide +kernel
theorem dX8_drawLots_81 : decode cX8_drawLots 81 = .ok (.goto (-34), 3) := by decide +kernel
theorem dX8_drawLots_84 : decode cX8_drawLots 84 = .ok (.iconst 0, 1) := by decide +kernel
theorem dX8_drawLots_85 : decode cX8_drawLots 85 = .ok (.istore 4, 2) := by decide +kernel
theorem dX8_drawLots_87 : decode cX8_drawLots 87 = .ok (.iload 4, 2) := by decide +kernel
theorem dX8_drawLots_89 : decode cX8_drawLots 89 = .ok (.aload_n 0, 1) := by decide +kernel
theorem dX8_drawLots_90 : decode cX8_drawLots 90 = .ok (.getfield 34, 3) := by decide +kernel
theorem dX8_drawLots_93 : decode cX8_drawLots 93 = .ok (.if_icmp .ge 22, 3) := by decide +kernel
theorem dX8_drawLots_96 : decode cX8_drawLots 96 = .ok (.aload_n 0, 1) := by decide +kernel
theorem dX8_drawLots_97 : decode cX8_drawLots 97 = .ok (.iload 4, 2) := by decide +kernel
theorem dX8_drawLots_99 : decode cX8_drawLots 99 = .ok (.aload_n 0, 1) := by decide +kernel
theorem dX8_drawLots_100 : decode cX8_drawLots 100 = .ok (.getfield 18, 3) := by decide +kernel
theorem dX8_drawLots_103 : decode cX8_drawLots 103 = .ok (.iload 4, 2) := by decide +kernel
theorem dX8_drawLots_105 : decode cX8_drawLots 105 = .ok (.iaload, 1) := by decide +kernel
theorem dX8_drawLots_106 : decode cX8_drawLots 106 = .ok (.invokevirtual 90, 3) := by decide +kernel
theorem dX8_drawLots_109 : decode cX8_drawLots 109 = .ok (.iinc 4 1, 3) := by decide +kernel
theorem dX8_drawLots_112 : decode cX8_drawLots 112 = .ok (.goto (-25), 3) := by decide +kernel
theorem dX8_drawLots_115 : decode cX8_drawLots 115 = .ok (.iinc 3 1, 3) := by decide +kernel
theorem dX8_drawLots_118 : decode cX8_drawLots 118 = .ok (.goto (-96), 3) := by decide +kernel
theorem dX8_drawLots_121 : decode cX8_drawLots 121 = .ok (.return_, 1) := by decide +kernel
theorem bX8_drawLots_0 {d : Nat} {P : q_Mem → Prop} {M : q_Mem} (x1 x2 : Int) (h : q_kU yJ7_fill_fda19 mJ7_fill_fda19 d [qR 121, qI 0, qI (M 117 3), qI 0] M (fun M1 => (0 ≤ x1 ∧ x1 < (1024 : Int)) ∧ (∀ M3 : q_Mem, M3 = q_up M1 121 x1 1 → q_v mX8_drawLots d (qPU P) M3 22 [some (qR 117), none, some (qI x2), some (qI 0), none] []))) : q_v mX8_drawLots d (qPU P) M 0 [some (qR 117), some (qI x1), some (qI x2), none, none] [] := by
  refine qr_aload_n 0 1 rfl (x := 117) rfl dX8_drawLots_0 ?_
  refine qr_getF 1 4 rfl ck8 7 (by decide) (b := 121) (by decide +kernel) rfl (by decide +kernel) (by decide +kernel) wm_288 rfl dX8_drawLots_1 ?_
  refine qr_iconst 4 5 rfl (q_l32 _ rfl) dX8_drawLots_4 ?_
  refine qr_aload_n 5 6 rfl (x := 117) rfl dX8_drawLots_5 ?_
  refine qg_i 6 9 rfl ck8 3 (kk := 3) (by decide) (by decide +kernel) (by decide +kernel) rfl wm_284 rfl dX8_drawLots_6 ?_
  refine qr_iconst 9 10 rfl (q_l32 _ rfl) dX8_drawLots_9 ?_
  refine qs_U 10 13 rfl (av := [qR 121, qI 0, qI (M 117 3), qI 0]) ca_J7_fill_fda19 wm_855 wm_1188 rfl rfl (Nat.le_of_ble_eq_true rfl) dX8_drawLots_10 h (fun M1 h => ?_)
  refine qr_aload_n 13 14 rfl (x := 117) rfl dX8_drawLots_13 ?_
  refine qr_getF 14 17 rfl ck8 7 (by decide) (b := 121) (by decide +kernel) rfl (by decide +kernel) (by decide +kernel) wm_288 rfl dX8_drawLots_14 ?_
  refine qr_iload_n 17 18 rfl (x := x1) rfl dX8_drawLots_17 ?_
  refine qr_iconst 18 19 rfl (q_l32 _ rfl) dX8_drawLots_18 ?_
  have hb2 := h.1
  have h := h.2
  refine qi_st 19 20 rfl (N := 1024) (by decide +kernel) (by decide +kernel) hb2.1 hb2.2 dX8_drawLots_19 (fun M3 e_M3 => ?_)
  have h := h M3 e_M3
  refine qr_iconst 20 21 rfl (q_l32 _ rfl) dX8_drawLots_20 ?_
  refine qr_istore_n 21 22 rfl (by decide) rfl rfl dX8_drawLots_21 ?_
  exact qr_cut 22 (ls' := [some (qR 117), none, some (qI x2), some (qI 0), none]) (And.intro rfl (And.intro rfl (And.intro rfl trivial))) h
theorem bX8_drawLots_22 {d : Nat} {P : q_Mem → Prop} {M : q_Mem} (x2 x3 : Int) (h : ((x2 ≤ x3) → P M) ∧ ((¬ (x2 ≤ x3)) → ((0 ≤ (0 : Int) ∧ 0 ≤ (0 : Int) ∧ 0 ≤ (M 117 3)) ∧ ((0 : Int) + (M 117 3) ≤ 1024 ∧ (0 : Int) + (M 117 3) ≤ 1024) ∧ 1 ≤ d) ∧ (∀ M2 : q_Mem, M2 = q_cp M 121 0 120 0 (M 117 3) → q_v mX8_drawLots d (qPU P) M2 47 [some (qR 117), none, some (qI x2), some (qI x3), some (qI 0)] []))) : q_v mX8_drawLots d (qPU P) M 22 [some (qR 117), none, some (qI x2), some (qI x3), none] [] := by
  refine qr_iload_n 22 23 rfl (x := x3) rfl dX8_drawLots_22 ?_
  refine qr_iload_n 23 24 rfl (x := x2) rfl dX8_drawLots_23 ?_
  refine qr_icmp_ge 24 27 121 rfl (by decide) dX8_drawLots_24 (fun c24 => ?_) (fun c24 => ?_)
  · have h := h.1 c24
    exact qe_u 121 rfl dX8_drawLots_121 h
  · have h := h.2 c24
    refine qr_aload_n 27 28 rfl (x := 117) rfl dX8_drawLots_27 ?_
    refine qr_getF 28 31 rfl ck8 7 (by decide) (b := 121) (by decide +kernel) rfl (by decide +kernel) (by decide +kernel) wm_288 rfl dX8_drawLots_28 ?_
    refine qr_iconst 31 32 rfl (q_l32 _ rfl) dX8_drawLots_31 ?_
    refine qr_aload_n 32 33 rfl (x := 117) rfl dX8_drawLots_32 ?_
    refine qr_getF 33 36 rfl ck8 6 (by decide) (b := 120) (by decide +kernel) rfl (by decide +kernel) (by decide +kernel) wm_287 rfl dX8_drawLots_33 ?_
    refine qr_iconst 36 37 rfl (q_l32 _ rfl) dX8_drawLots_36 ?_
    refine qr_aload_n 37 38 rfl (x := 117) rfl dX8_drawLots_37 ?_
    refine qg_i 38 41 rfl ck8 3 (kk := 3) (by decide) (by decide +kernel) (by decide +kernel) rfl wm_284 rfl dX8_drawLots_38 ?_
    have hb1 := h.1
    have h := h.2
    refine qr_copy 41 44 rfl (N1 := 1024) (N2 := 1024) (by decide +kernel) (by decide +kernel) (by decide +kernel) (by decide +kernel) hb1.1.1 hb1.1.2.1 hb1.1.2.2 hb1.2.1.1 hb1.2.1.2 hb1.2.2 (Nat.le_of_ble_eq_true rfl) wm_1248 dX8_drawLots_41 (fun M2 e_M2 => ?_)
    have h := h M2 e_M2
    refine qr_iconst 44 45 rfl (q_l32 _ rfl) dX8_drawLots_44 ?_
    refine qr_istore 45 47 rfl (by decide) rfl rfl dX8_drawLots_45 ?_
    exact h
theorem bX8_drawLots_47 {d : Nat} {P : q_Mem → Prop} {M : q_Mem} (x2 x3 x4 : Int) (h : (((M 117 3) ≤ x4) → q_v mX8_drawLots d (qPU P) M 87 [some (qR 117), none, some (qI x2), some (qI x3), some (qI 0)] []) ∧ ((¬ ((M 117 3) ≤ x4)) → (0 ≤ x4 ∧ x4 < (1024 : Int)) ∧ ((0 ≤ x4 ∧ x4 < (1024 : Int)) ∧ (∀ M3 : q_Mem, M3 = q_up M 121 x4 (q_mul (M 120 x4) (q_sub 10 (M 117 2))) → q_v mX8_drawLots d (qPU P) M3 47 [some (qR 117), none, some (qI x2), some (qI x3), some (qI (q_add x4 1))] [])))) : q_v mX8_drawLots d (qPU P) M 47 [some (qR 117), none, some (qI x2), some (qI x3), some (qI x4)] [] := by
  refine qr_iload 47 49 rfl (x := x4) rfl dX8_drawLots_47 ?_
  refine qr_aload_n 49 50 rfl (x := 117) rfl dX8_drawLots_49 ?_
  refine qg_i 50 53 rfl ck8 3 (kk := 3) (by decide) (by decide +kernel) (by decide +kernel) rfl wm_284 rfl dX8_drawLots_50 ?_
  refine qr_icmp_ge 53 56 84 rfl (by decide) dX8_drawLots_53 (fun c53 => ?_) (fun c53 => ?_)
  · have h := h.1 c53
    refine qr_iconst 84 85 rfl (q_l32 _ rfl) dX8_drawLots_84 ?_
    refine qr_istore 85 87 rfl (by decide) rfl rfl dX8_drawLots_85 ?_
    exact h
  · have h := h.2 c53
    refine qr_aload_n 56 57 rfl (x := 117) rfl dX8_drawLots_56 ?_
    refine qr_getF 57 60 rfl ck8 7 (by decide) (b := 121) (by decide +kernel) rfl (by decide +kernel) (by decide +kernel) wm_288 rfl dX8_drawLots_57 ?_
    refine qr_iload 60 62 rfl (x := x4) rfl dX8_drawLots_60 ?_
    refine qr_aload_n 62 63 rfl (x := 117) rfl dX8_drawLots_62 ?_
    refine qr_getF 63 66 rfl ck8 6 (by decide) (b := 120) (by decide +kernel) rfl (by decide +kernel) (by decide +kernel) wm_287 rfl dX8_drawLots_63 ?_
    refine qr_iload 66 68 rfl (x := x4) rfl dX8_drawLots_66 ?_
    have hb1 := h.1
    have h := h.2
    refine qi_ld 68 69 rfl (N := 1024) (by decide +kernel) (by decide +kernel) hb1.1 hb1.2 dX8_drawLots_68 ?_
    refine qr_bipush 69 71 rfl (q_l32 _ rfl) (by decide) dX8_drawLots_69 ?_
    refine qr_aload_n 71 72 rfl (x := 117) rfl dX8_drawLots_71 ?_
    refine qg_i 72 75 rfl ck8 2 (kk := 2) (by decide) (by decide +kernel) (by decide +kernel) rfl wm_283 rfl dX8_drawLots_72 ?_
    refine qr_isub 75 76 rfl dX8_drawLots_75 ?_
    refine qr_imul 76 77 rfl dX8_drawLots_76 ?_
    have hb2 := h.1
    have h := h.2
    refine qi_st 77 78 rfl (N := 1024) (by decide +kernel) (by decide +kernel) hb2.1 hb2.2 dX8_drawLots_77 (fun M3 e_M3 => ?_)
    have h := h M3 e_M3
    refine qr_iinc 78 81 rfl (by decide) (x := x4) rfl rfl rfl dX8_drawLots_78 ?_
    refine qr_goto 81 47 (by decide) dX8_drawLots_81 ?_
    exact h
theorem bX8_drawLots_87 {d : Nat} {P : q_Mem → Prop} {M : q_Mem} (x2 x3 x4 : Int) (h : (((M 117 3) ≤ x4) → q_v mX8_drawLots d (qPU P) M 22 [some (qR 117), none, some (qI x2), some (qI (q_add x3 1)), none] []) ∧ ((¬ ((M 117 3) ≤ x4)) → (0 ≤ x4 ∧ x4 < (1024 : Int)) ∧ (q_kU yX8_spread mX8_spread d [qR 117, qI x4, qI (M 120 x4)] M (fun M2 => q_v mX8_drawLots d (qPU P) M2 87 [some (qR 117), none, some (qI x2), some (qI x3), some (qI (q_add x4 1))] [])))) : q_v mX8_drawLots d (qPU P) M 87 [some (qR 117), none, some (qI x2), some (qI x3), some (qI x4)] [] := by
  refine qr_iload 87 89 rfl (x := x4) rfl dX8_drawLots_87 ?_
  refine qr_aload_n 89 90 rfl (x := 117) rfl dX8_drawLots_89 ?_
  refine qg_i 90 93 rfl ck8 3 (kk := 3) (by decide) (by decide +kernel) (by decide +kernel) rfl wm_284 rfl dX8_drawLots_90 ?_
  refine qr_icmp_ge 93 96 115 rfl (by decide) dX8_drawLots_93 (fun c93 => ?_) (fun c93 => ?_)
  · have h := h.1 c93
    refine qr_iinc 115 118 rfl (by decide) (x := x3) rfl rfl rfl dX8_drawLots_115 ?_
    refine qr_goto 118 22 (by decide) dX8_drawLots_118 ?_
    exact qr_cut 22 (ls' := [some (qR 117), none, some (qI x2), some (qI (q_add x3 1)), none]) (And.intro rfl (And.intro rfl (And.intro rfl trivial))) h
  · have h := h.2 c93
    refine qr_aload_n 96 97 rfl (x := 117) rfl dX8_drawLots_96 ?_
    refine qr_iload 97 99 rfl (x := x4) rfl dX8_drawLots_97 ?_
    refine qr_aload_n 99 100 rfl (x := 117) rfl dX8_drawLots_99 ?_
    refine qr_getF 100 103 rfl ck8 6 (by decide) (b := 120) (by decide +kernel) rfl (by decide +kernel) (by decide +kernel) wm_287 rfl dX8_drawLots_100 ?_
    refine qr_iload 103 105 rfl (x := x4) rfl dX8_drawLots_103 ?_
    have hb1 := h.1
    have h := h.2
    refine qi_ld 105 106 rfl (N := 1024) (by decide +kernel) (by decide +kernel) hb1.1 hb1.2 dX8_drawLots_105 ?_
    refine qw_U 106 109 rfl (av := [qI x4, qI (M 120 x4)]) ca_X8_spread wm_1251 wp_74 wm_1249 ck8 (by decide +kernel) rfl rfl (Nat.le_of_ble_eq_true rfl) dX8_drawLots_106 h (fun M2 h => ?_)
    refine qr_iinc 109 112 rfl (by decide) (x := x4) rfl rfl rfl dX8_drawLots_109 ?_
    refine qr_goto 112 87 (by decide) dX8_drawLots_112 ?_
    exact h
theorem dX8_spread_0 : decode cX8_spread 0 = .ok (.iconst 0, 1) := by decide +kernel
theorem dX8_spread_1 : decode cX8_spread 1 = .ok (.istore_n 3, 1) := by decide +kernel
theorem dX8_spread_2 : decode cX8_spread 2 = .ok (.iload_n 3, 1) := by decide +kernel
theorem dX8_spread_3 : decode cX8_spread 3 = .ok (.aload_n 0, 1) := by decide +kernel
theorem dX8_spread_4 : decode cX8_spread 4 = .ok (.getfield 33, 3) := by decide +kernel
theorem dX8_spread_7 : decode cX8_spread 7 = .ok (.if_icmp .ge 27, 3) := by decide +kernel
theorem dX8_spread_10 : decode cX8_spread 10 = .ok (.iload_n 2, 1) := by decide +kernel
theorem dX8_spread_11 : decode cX8_spread 11 = .ok (.ifCond .eq 23, 3) := by decide +kernel
theorem dX8_spread_14 : decode cX8_spread 14 = .ok (.aload_n 0, 1) := by decide +kernel
theorem dX8_spread_15 : decode cX8_spread 15 = .ok (.getfield 21, 3) := by decide +kernel
theorem dX8_spread_18 : decode cX8_spread 18 = .ok (.iload_n 1, 1) := by decide +kernel
theorem dX8_spread_19 : decode cX8_spread 19 = .ok (.iconst 1, 1) := by decide +kernel
theorem dX8_spread_20 : decode cX8_spread 20 = .ok (.iload_n 3, 1) := by decide +kernel
theorem dX8_spread_21 : decode cX8_spread 21 = .ok (.ishl, 1) := by decide +kernel
theorem dX8_spread_22 : decode cX8_spread 22 = .ok (.ixor, 1) := by decide +kernel
theorem dX8_spread_23 : decode cX8_spread 23 = .ok (.dup2, 1) := by decide +kernel
theorem dX8_spread_24 : decode cX8_spread 24 = .ok (.iaload, 1) := by decide +kernel
theorem dX8_spread_25 : decode cX8_spread 25 = .ok (.iload_n 2, 1) := by decide +kernel
theorem dX8_spread_26 : decode cX8_spread 26 = .ok (.iadd, 1) := by decide +kernel
theorem dX8_spread_27 : decode cX8_spread 27 = .ok (.iastore, 1) := by decide +kernel
theorem dX8_spread_28 : decode cX8_spread 28 = .ok (.iinc 3 1, 3) := by decide +kernel
theorem dX8_spread_31 : decode cX8_spread 31 = .ok (.goto (-29), 3) := by decide +kernel
theorem dX8_spread_34 : decode cX8_spread 34 = .ok (.return_, 1) := by decide +kernel
theorem bX8_spread_0 {d : Nat} {P : q_Mem → Prop} {M : q_Mem} (x1 x2 : Int) (h : q_v mX8_spread d (qPU P) M 2 [some (qR 117), some (qI x1), some (qI x2), some (qI 0)] []) : q_v mX8_spread d (qPU P) M 0 [some (qR 117), some (qI x1), some (qI x2), none] [] := by
  refine qr_iconst 0 1 rfl (q_l32 _ rfl) dX8_spread_0 ?_
  refine qr_istore_n 1 2 rfl (by decide) rfl rfl dX8_spread_1 ?_
  exact h
theorem bX8_spread_2 {d : Nat} {P : q_Mem → Prop} {M : q_Mem} (x1 x2 x3 : Int) (h : (((M 117 2) ≤ x3) → P M) ∧ ((¬ ((M 117 2) ≤ x3)) → ((x2 = 0) → P M) ∧ ((¬ (x2 = 0)) → (0 ≤ (q_xor x1 (q_shl 1 x3)) ∧ (q_xor x1 (q_shl 1 x3)) < (1024 : Int)) ∧ ((0 ≤ (q_xor x1 (q_shl 1 x3)) ∧ (q_xor x1 (q_shl 1 x3)) < (1024 : Int)) ∧ (∀ M3 : q_Mem, M3 = q_up M 121 (q_xor x1 (q_shl 1 x3)) (q_add (M 121 (q_xor x1 (q_shl 1 x3))) x2) → q_v mX8_spread d (qPU P) M3 2 [some (qR 117), some (qI x1), some (qI x2), some (qI (q_add x3 1))] []))))) : q_v mX8_spread d (qPU P) M 2 [some (qR 117), some (qI x1), some (qI x2), some (qI x3)] [] := by
  refine qr_iload_n 2 3 rfl (x := x3) rfl dX8_spread_2 ?_
  refine qr_aload_n 3 4 rfl (x := 117) rfl dX8_spread_3 ?_
  refine qg_i 4 7 rfl ck8 2 (kk := 2) (by decide) (by decide +kernel) (by decide +kernel) rfl wm_283 rfl dX8_spread_4 ?_
  refine qr_icmp_ge 7 10 34 rfl (by decide) dX8_spread_7 (fun c7 => ?_) (fun c7 => ?_)
  · have h := h.1 c7
    exact qe_u 34 rfl dX8_spread_34 h
  · have h := h.2 c7
    refine qr_iload_n 10 11 rfl (x := x2) rfl dX8_spread_10 ?_
    refine qr_if_eq 11 14 34 rfl (by decide) dX8_spread_11 (fun c11 => ?_) (fun c11 => ?_)
    · have h := h.1 c11
      exact qe_u 34 rfl dX8_spread_34 h
    · have h := h.2 c11
      refine qr_aload_n 14 15 rfl (x := 117) rfl dX8_spread_14 ?_
      refine qr_getF 15 18 rfl ck8 7 (by decide) (b := 121) (by decide +kernel) rfl (by decide +kernel) (by decide +kernel) wm_288 rfl dX8_spread_15 ?_
      refine qr_iload_n 18 19 rfl (x := x1) rfl dX8_spread_18 ?_
      refine qr_iconst 19 20 rfl (q_l32 _ rfl) dX8_spread_19 ?_
      refine qr_iload_n 20 21 rfl (x := x3) rfl dX8_spread_20 ?_
      refine qr_ishl 21 22 rfl dX8_spread_21 ?_
      refine qr_ixor 22 23 rfl dX8_spread_22 ?_
      refine qr_dup2 23 24 rfl rfl rfl dX8_spread_23 ?_
      have hb1 := h.1
      have h := h.2
      refine qi_ld 24 25 rfl (N := 1024) (by decide +kernel) (by decide +kernel) hb1.1 hb1.2 dX8_spread_24 ?_
      refine qr_iload_n 25 26 rfl (x := x2) rfl dX8_spread_25 ?_
      refine qr_iadd 26 27 rfl dX8_spread_26 ?_
      have hb2 := h.1
      have h := h.2
      refine qi_st 27 28 rfl (N := 1024) (by decide +kernel) (by decide +kernel) hb2.1 hb2.2 dX8_spread_27 (fun M3 e_M3 => ?_)
      have h := h M3 e_M3
      refine qr_iinc 28 31 rfl (by decide) (x := x3) rfl rfl rfl dX8_spread_28 ?_
      refine qr_goto 31 2 (by decide) dX8_spread_31 ?_
      exact h
theorem dX9_remake_0 : decode cX9_remake 0 = .ok (.aload_n 0, 1) := by decide +kernel
theorem dX9_remake_1 : decode cX9_remake 1 = .ok (.iload_n 1, 1) := by decide +kernel
theorem dX9_remake_2 : decode cX9_remake 2 = .ok (.putfield 19, 3) := by decide +kernel
theorem dX9_remake_5 : decode cX9_remake 5 = .ok (.aload_n 0, 1) := by decide +kernel
theorem dX9_remake_6 : decode cX9_remake 6 = .ok (.iload_n 2, 1) := by decide +kernel
theorem dX9_remake_7 : decode cX9_remake 7 = .ok (.putfield 9, 3) := by decide +kernel
theorem dX9_remake_10 : decode cX9_remake 10 = .ok (.aload_n 0, 1) := by decide +kernel
theorem dX9_remake_11 : decode cX9_remake 11 = .ok (.getfield 15, 3) := by decide +kernel
theorem dX9_remake_14 : decode cX9_remake 14 = .ok (.lconst 0, 1) := by decide +kernel
theorem dX9_remake_15 : decode cX9_remake 15 = .ok (.invokestatic 22, 3) := by decide +kernel
theorem dX9_remake_18 : decode cX9_remake 18 = .ok (.return_, 1) := by decide +kernel
theorem bX9_remake_0 {d : Nat} {P : q_Mem → Prop} {M : q_Mem} (x0 x1 x2 : Int) (k0 : q_kd x0 = 9) (h : (∀ M1 : q_Mem, M1 = q_up M x0 1 x1 → (∀ M2 : q_Mem, M2 = q_up M1 x0 0 x2 → q_kU yJ7_fill_d0a16 mJ7_fill_d0a16 d [qR (q_lay x0 2), qL 0] M2 (fun M3 => P M3)))) : q_v mX9_remake d (qPU P) M 0 [some (qR x0), some (qI x1), some (qI x2)] [] := by
  refine qr_aload_n 0 1 rfl (x := x0) rfl dX9_remake_0 ?_
  refine qr_iload_n 1 2 rfl (x := x1) rfl dX9_remake_1 ?_
  refine qp_i 2 5 rfl ck9 1 (kk := 1) (by decide) k0 (by decide) rfl rfl wm_337 rfl dX9_remake_2 (fun M1 e_M1 => ?_)
  have h := h M1 e_M1
  refine qr_aload_n 5 6 rfl (x := x0) rfl dX9_remake_5 ?_
  refine qr_iload_n 6 7 rfl (x := x2) rfl dX9_remake_6 ?_
  refine qp_i 7 10 rfl ck9 0 (kk := 0) (by decide) k0 (by decide) rfl rfl wm_335 rfl dX9_remake_7 (fun M2 e_M2 => ?_)
  have h := h M2 e_M2
  refine qr_aload_n 10 11 rfl (x := x0) rfl dX9_remake_10 ?_
  refine qr_getF 11 14 rfl ck9 2 (by decide) (b := (q_lay x0 2)) k0 rfl (by decide +kernel) rfl wm_338 rfl dX9_remake_11 ?_
  refine qr_lconst 14 15 rfl (w := 0) (q_l64 _ rfl) (by decide) dX9_remake_14 ?_
  refine qs_U 15 18 rfl (av := [qR (q_lay x0 2), qL 0]) ca_J7_fill_d0a16 wm_1277 wm_1276 rfl rfl (Nat.le_of_ble_eq_true rfl) dX9_remake_15 h (fun M3 h => ?_)
  exact qe_u 18 rfl dX9_remake_18 h
theorem dX9_cutToSort_0 : decode cX9_cutToSort 0 = .ok (.aload_n 0, 1) := by decide +kernel
theorem dX9_cutToSort_1 : decode cX9_cutToSort 1 = .ok (.getfield 19, 3) := by decide +kernel
theorem dX9_cutToSort_4 : decode cX9_cutToSort 4 = .ok (.ifCond .ne 8, 3) := by decide +kernel
theorem dX9_cutToSort_7 : decode cX9_cutToSort 7 = .ok (.lload_n 1, 1) := by decide +kernel
theorem dX9_cutToSort_8 : decode cX9_cutToSort 8 = .ok (.l2i, 1) := by decide +kernel
theorem dX9_cutToSort_9 : decode cX9_cutToSort 9 = .ok (.i2b, 1) := by decide +kernel
theorem dX9_cutToSort_10 : decode cX9_cutToSort 10 = .ok (.i2l, 1) := by decide +kernel
theorem dX9_cutToSort_11 : decode cX9_cutToSort 11 = .ok (.lreturn, 1) := by decide +kernel
theorem dX9_cutToSort_12 : decode cX9_cutToSort 12 = .ok (.aload_n 0, 1) := by decide +kernel
theorem dX9_cutToSort_13 : decode cX9_cutToSort 13 = .ok (.getfield 19, 3) := by decide +kernel
theorem dX9_cutToSort_16 : decode cX9_cutToSort 16 = .ok (.iconst 1, 1) := by decide +kernel
theorem dX9_cutToSort_17 : decode cX9_cutToSort 17 = .ok (.if_icmp .ne 8, 3) := by decide +kernel
theorem dX9_cutToSort_20 : decode cX9_cutToSort 20 = .ok (.lload_n 1, 1) := by decide +kernel
theorem dX9_cutToSort_21 : decode cX9_cutToSort 21 = .ok (.l2i, 1) := by decide +kernel
theorem dX9_cutToSort_22 : decode cX9_cutToSort 22 = .ok (.i2s, 1) := by decide +kernel
theorem dX9_cutToSort_23 : decode cX9_cutToSort 23 = .ok (.i2l, 1) := by decide +kernel
theorem dX9_cutToSort_24 : decode cX9_cutToSort 24 = .ok (.lreturn, 1) := by decide +kernel
theorem dX9_cutToSort_25 : decode cX9_cutToSort 25 = .ok (.aload_n 0, 1) := by decide +kernel
theorem dX9_cutToSort_26 : decode cX9_cutToSort 26 = .ok (.getfield 19, 3) := by decide +kernel
theorem dX9_cutToSort_29 : decode cX9_cutToSort 29 = .ok (.iconst 2, 1) := by decide +kernel
theorem dX9_cutToSort_30 : decode cX9_cutToSort 30 = .ok (.if_icmp .ne 9, 3) := by decide +kernel
theorem dX9_cutToSort_33 : decode cX9_cutToSort 33 = .ok (.lload_n 1, 1) := by decide +kernel
theorem dX9_cutToSort_34 : decode cX9_cutToSort 34 = .ok (.l2i, 1) := by decide +kernel
theorem dX9_cutToSort_35 : decode cX9_cutToSort 35 = .ok (.i2l, 1) := by decide +kernel
theorem dX9_cutToSort_36 : decode cX9_cutToSort 36 = .ok (.goto 4, 3) := by decide +kernel
theorem dX9_cutToSort_39 : decode cX9_cutToSort 39 = .ok (.lload_n 1, 1) := by decide +kernel
theorem dX9_cutToSort_40 : decode cX9_cutToSort 40 = .ok (.lreturn, 1) := by decide +kernel
theorem bX9_cutToSort_0 {d : Nat} {P : Int → q_Mem → Prop} {M : q_Mem} (x0 x1 : Int) (k0 : q_kd x0 = 9) (h : ((¬ (M x0 1) = 0) → ((¬ (M x0 1) = (1 : Int)) → ((¬ (M x0 1) = (2 : Int)) → P x1 M) ∧ (((M x0 1) = (2 : Int)) → P (q_l2i x1) M)) ∧ (((M x0 1) = (1 : Int)) → P (q_i2s (q_l2i x1)) M)) ∧ (((M x0 1) = 0) → P (q_i2b (q_l2i x1)) M)) : q_v mX9_cutToSort d (qPL P) M 0 [some (qR x0), some (qL x1), none] [] := by
  refine qr_aload_n 0 1 rfl (x := x0) rfl dX9_cutToSort_0 ?_
  refine qg_i 1 4 rfl ck9 1 (kk := 1) (by decide) k0 (by decide +kernel) rfl wm_337 rfl dX9_cutToSort_1 ?_
  refine qr_if_ne 4 7 12 rfl (by decide) dX9_cutToSort_4 (fun c4 => ?_) (fun c4 => ?_)
  · have h := h.1 c4
    refine qr_aload_n 12 13 rfl (x := x0) rfl dX9_cutToSort_12 ?_
    refine qg_i 13 16 rfl ck9 1 (kk := 1) (by decide) k0 (by decide +kernel) rfl wm_337 rfl dX9_cutToSort_13 ?_
    refine qr_iconst 16 17 rfl (q_l32 _ rfl) dX9_cutToSort_16 ?_
    refine qr_icmp_ne 17 20 25 rfl (by decide) dX9_cutToSort_17 (fun c17 => ?_) (fun c17 => ?_)
    · have h := h.1 c17
      refine qr_aload_n 25 26 rfl (x := x0) rfl dX9_cutToSort_25 ?_
      refine qg_i 26 29 rfl ck9 1 (kk := 1) (by decide) k0 (by decide +kernel) rfl wm_337 rfl dX9_cutToSort_26 ?_
      refine qr_iconst 29 30 rfl (q_l32 _ rfl) dX9_cutToSort_29 ?_
      refine qr_icmp_ne 30 33 39 rfl (by decide) dX9_cutToSort_30 (fun c30 => ?_) (fun c30 => ?_)
      · have h := h.1 c30
        refine qr_lload_n 39 40 rfl (x := x1) rfl dX9_cutToSort_39 ?_
        exact qe_l 40 rfl dX9_cutToSort_40 h
      · have h := h.2 c30
        refine qr_lload_n 33 34 rfl (x := x1) rfl dX9_cutToSort_33 ?_
        refine qr_l2i 34 35 rfl dX9_cutToSort_34 ?_
        refine qr_i2l 35 36 rfl dX9_cutToSort_35 ?_
        refine qr_goto 36 40 (by decide) dX9_cutToSort_36 ?_
        exact qe_l 40 rfl dX9_cutToSort_40 h
    · have h := h.2 c17
      refine qr_lload_n 20 21 rfl (x := x1) rfl dX9_cutToSort_20 ?_
      refine qr_l2i 21 22 rfl dX9_cutToSort_21 ?_
      refine qr_i2s 22 23 rfl dX9_cutToSort_22 ?_
      refine qr_i2l 23 24 rfl dX9_cutToSort_23 ?_
      exact qe_l 24 rfl dX9_cutToSort_24 h
  · have h := h.2 c4
    refine qr_lload_n 7 8 rfl (x := x1) rfl dX9_cutToSort_7 ?_
    refine qr_l2i 8 9 rfl dX9_cutToSort_8 ?_
    refine qr_i2b 9 10 rfl dX9_cutToSort_9 ?_
    refine qr_i2l 10 11 rfl dX9_cutToSort_10 ?_
    exact qe_l 11 rfl dX9_cutToSort_11 h
theorem dX10_workOut_0 : decode cX10_workOut 0 = .ok (.aload_n 0, 1) := by decide +kernel
theorem dX10_workOut_1 : decode cX10_workOut 1 = .ok (.iload_n 2, 1) := by decide +kernel
theorem dX10_workOut_2 : decode cX10_workOut 2 = .ok (.putfield 20, 3) := by decide +kernel
theorem dX10_workOut_5 : decode cX10_workOut 5 = .ok (.aload_n 1, 1) := by decide +kernel
theorem dX10_workOut_6 : decode cX10_workOut 6 = .ok (.getfield 24, 3) := by decide +kernel
theorem dX10_workOut_9 : decode cX10_workOut 9 = .ok (.istore 4, 2) := by decide +kernel
theorem dX10_workOut_11 : decode cX10_workOut 11 = .ok (.iconst 0, 1) := by decide +kernel
theorem dX10_workOut_12 : decode cX10_workOut 12 = .ok (.istore 5, 2) := by decide +kernel
theorem dX10_workOut_14 : decode cX10_workOut 14 = .ok (.iload 5, 2) := by decide +kernel
theorem dX10_workOut_16 : decode cX10_workOut 16 = .ok (.iload 4, 2) := by decide +kernel
theorem dX10_workOut_18 : decode cX10_workOut 18 = .ok (.if_icmp .ge 32, 3) := by decide +kernel
theorem dX10_workOut_21 : decode cX10_workOut 21 = .ok (.aload_n 0, 1) := by decide +kernel
theorem dX10_workOut_22 : decode cX10_workOut 22 = .ok (.getfield 11, 3) := by decide +kernel
theorem dX10_workOut_25 : decode cX10_workOut 25 = .ok (.iload 5, 2) := by decide +kernel
theorem dX10_workOut_27 : decode cX10_workOut 27 = .ok (.aaload, 1) := by decide +kernel
theorem dX10_workOut_28 : decode cX10_workOut 28 = .ok (.ldc 29, 2) := by decide +kernel
theorem dX10_workOut_30 : decode cX10_workOut 30 = .ok (.invokestatic 30, 3) := by decide +kernel
theorem dX10_workOut_33 : decode cX10_workOut 33 = .ok (.aload_n 0, 1) := by decide +kernel
theorem dX10_workOut_34 : decode cX10_workOut 34 = .ok (.getfield 11, 3) := by decide +kernel
theorem dX10_workOut_37 : decode cX10_workOut 37 = .ok (.iload 5, 2) := by decide +kernel
theorem dX10_workOut_39 : decode cX10_workOut 39 = .ok (.aaload, 1) := by decide +kernel
theorem dX10_workOut_40 : decode cX10_workOut 40 = .ok (.iload 5, 2) := by decide +kernel
theorem dX10_workOut_42 : decode cX10_workOut 42 = .ok (.iconst 0, 1) := by decide +kernel
theorem dX10_workOut_43 : decode cX10_workOut 43 = .ok (.iastore, 1) := by decide +kernel
theorem dX10_workOut_44 : decode cX10_workOut 44 = .ok (.iinc 5 1, 3) := by decide +kernel
theorem dX10_workOut_47 : decode cX10_workOut 47 = .ok (.goto (-33), 3) := by decide +kernel
theorem dX10_workOut_50 : decode cX10_workOut 50 = .ok (.iconst 0, 1) := by decide +kernel
theorem dX10_workOut_51 : decode cX10_workOut 51 = .ok (.istore 5, 2) := by decide +kernel
theorem dX10_workOut_53 : decode cX10_workOut 53 = .ok (.iload 5, 2) := by decide +kernel
theorem dX10_workOut_55 : decode cX10_workOut 55 = .ok (.aload_n 0, 1) := by decide +kernel
theorem dX10_workOut_56 : decode cX10_workOut 56 = .ok (.getfield 20, 3) := by decide +kernel
theorem dX10_workOut_59 : decode cX10_workOut 59 = .ok (.if_icmp .ge 114, 3) := by decide +kernel
theorem dX10_workOut_62 : decode cX10_workOut 62 = .ok (.aload_n 0, 1) := by decide +kernel
theorem dX10_workOut_63 : decode cX10_workOut 63 = .ok (.getfield 16, 3) := by decide +kernel
theorem dX10_workOut_66 : decode cX10_workOut 66 = .ok (.iload 5, 2) := by decide +kernel
theorem dX10_workOut_68 : decode cX10_workOut 68 = .ok (.aload_n 3, 1) := by decide +kernel
theorem dX10_workOut_69 : decode cX10_workOut 69 = .ok (.iload 5, 2) := by decide +kernel
theorem dX10_workOut_71 : decode cX10_workOut 71 = .ok (.iaload, 1) := by decide +kernel
theorem dX10_workOut_72 : decode cX10_workOut 72 = .ok (.invokestatic 36, 3) := by decide +kernel
theorem dX10_workOut_75 : decode cX10_workOut 75 = .ok (.sipush 1024, 3) := by decide +kernel
theorem dX10_workOut_78 : decode cX10_workOut 78 = .ok (.imul, 1) := by decide +kernel
theorem dX10_workOut_79 : decode cX10_workOut 79 = .ok (.iconst 1, 1) := by decide +kernel
theorem dX10_workOut_80 : decode cX10_workOut 80 = .ok (.iadd, 1) := by decide +kernel
theorem dX10_workOut_81 : decode cX10_workOut 81 = .ok (.iastore, 1) := by decide +kernel
theorem dX10_workOut_82 : decode cX10_workOut 82 = .ok (.aload_n 1, 1) := by decide +kernel
theorem dX10_workOut_83 : decode cX10_workOut 83 = .ok (.getfield 42, 3) := by decide +kernel
theorem dX10_workOut_86 : decode cX10_workOut 86 = .ok (.iconst 2, 1) := by decide +kernel
theorem dX10_workOut_87 : decode cX10_workOut 87 = .ok (.iload 5, 2) := by decide +kernel
theorem dX10_workOut_89 : decode cX10_workOut 89 = .ok (.imul, 1) := by decide +kernel
theorem dX10_workOut_90 : decode cX10_workOut 90 = .ok (.iaload, 1) := by decide +kernel
theorem dX10_workOut_91 : decode cX10_workOut 91 = .ok (.istore 6, 2) := by decide +kernel
theorem dX10_workOut_93 : decode cX10_workOut 93 = .ok (.aload_n 1, 1) := by decide +kernel
theorem dX10_workOut_94 : decode cX10_workOut 94 = .ok (.getfield 42, 3) := by decide +kernel
theorem dX10_workOut_97 : decode cX10_workOut 97 = .ok (.iconst 2, 1) := by decide +kernel
theorem dX10_workOut_98 : decode cX10_workOut 98 = .ok (.iload 5, 2) := by decide +kernel
theorem dX10_workOut_100 : decode cX10_workOut 100 = .ok (.imul, 1) := by decide +kernel
theorem dX10_workOut_101 : decode cX10_workOut 101 = .ok (.iconst 1, 1) := by decide +kernel
theorem dX10_workOut_102 : decode cX10_workOut 102 = .ok (.iadd, 1) := by decide +kernel
theorem dX10_workOut_103 : decode cX10_workOut 103 = .ok (.iaload, 1) := by decide +kernel
theorem dX10_workOut_104 : decode cX10_workOut 104 = .ok (.istore 7, 2) := by decide +kernel
theorem dX10_workOut_106 : decode cX10_workOut 106 = .ok (.iload 6, 2) := by decide +kernel
theorem dX10_workOut_108 : decode cX10_workOut 108 = .ok (.iload 7, 2) := by decide +kernel
theorem dX10_workOut_110 : decode cX10_workOut 110 = .ok (.if_icmp .eq 57, 3) := by decide +kernel
theorem dX10_workOut_113 : decode cX10_workOut 113 = .ok (.aload_n 0, 1) := by decide +kernel
theorem dX10_workOut_114 : decode cX10_workOut 114 = .ok (.getfield 16, 3) := by decide +kernel
theorem dX10_workOut_117 : decode cX10_workOut 117 = .ok (.iload 5, 2) := by decide +kernel
theorem dX10_workOut_119 : decode cX10_workOut 119 = .ok (.iaload, 1) := by decide +kernel
theorem dX10_workOut_120 : decode cX10_workOut 120 = .ok (.aload_n 0, 1) := by decide +kernel
theorem dX10_workOut_121 : decode cX10_workOut 121 = .ok (.getfield 11, 3) := by decide +kernel
theorem dX10_workOut_124 : decode cX10_workOut 124 = .ok (.iload 6, 2) := by decide +kernel
theorem dX10_workOut_126 : decode cX10_workOut 126 = .ok (.aaload, 1) := by decide +kernel
theorem dX10_workOut_127 : decode cX10_workOut 127 = .ok (.iload 7, 2) := by decide +kernel
theorem dX10_workOut_129 : decode cX10_workOut 129 = .ok (.iaload, 1) := by decide +kernel
theorem dX10_workOut_130 : decode cX10_workOut 130 = .ok (.if_icmp .ge 37, 3) := by decide +kernel
theorem dX10_workOut_133 : decode cX10_workOut 133 = .ok (.aload_n 0, 1) := by decide +kernel
theorem dX10_workOut_134 : decode cX10_workOut 134 = .ok (.getfield 11, 3) := by decide +kernel
theorem dX10_workOut_137 : decode cX10_workOut 137 = .ok (.iload 6, 2) := by decide +kernel
theorem dX10_workOut_139 : decode cX10_workOut 139 = .ok (.aaload, 1) := by decide +kernel
theorem dX10_workOut_140 : decode cX10_workOut 140 = .ok (.iload 7, 2) := by decide +kernel
theorem dX10_workOut_142 : decode cX10_workOut 142 = .ok (.aload_n 0, 1) := by decide +kernel
theorem dX10_workOut_143 : decode cX10_workOut 143 = .ok (.getfield 16, 3) := by decide +kernel
theorem dX10_workOut_146 : decode cX10_workOut 146 = .ok (.iload 5, 2) := by decide +kernel
theorem dX10_workOut_148 : decode cX10_workOut 148 = .ok (.iaload, 1) := by decide +kernel
theorem dX10_workOut_149 : decode cX10_workOut 149 = .ok (.iastore, 1) := by decide +kernel
theorem dX10_workOut_150 : decode cX10_workOut 150 = .ok (.aload_n 0, 1) := by decide +kernel
theorem dX10_workOut_151 : decode cX10_workOut 151 = .ok (.getfield 11, 3) := by decide +kernel
theorem dX10_workOut_154 : decode cX10_workOut 154 = .ok (.iload 7, 2) := by decide +kernel
theorem dX10_workOut_156 : decode cX10_workOut 156 = .ok (.aaload, 1) := by decide +kernel
theorem dX10_workOut_157 : decode cX10_workOut 157 = .ok (.iload 6, 2) := by decide +kernel
theorem dX10_workOut_159 : decode cX10_workOut 159 = .ok (.aload_n 0, 1) := by decide +kernel
theorem dX10_workOut_160 : decode cX10_workOut 160 = .ok (.getfield 16, 3) := by decide +kernel
theorem dX10_workOut_163 : decode cX10_workOut 163 = .ok (.iload 5, 2) := by decide +kernel
theorem dX10_workOut_165 : decode cX10_workOut 165 = .ok (.iaload, 1) := by decide +kernel
theorem dX10_workOut_166 : decode cX10_workOut 166 = .ok (.iastore, 1) := by decide +kernel
theorem dX10_workOut_167 : decode cX10_workOut 167 = .ok (.iinc 5 1, 3) := by decide +kernel
theorem dX10_workOut_170 : decode cX10_workOut 170 = .ok (.goto (-117), 3) := by decide +kernel
theorem dX10_workOut_173 : decode cX10_workOut 173 = .ok (.iconst 0, 1) := by decide +kernel
theorem dX10_workOut_174 : decode cX10_workOut 174 = .ok (.istore 5, 2) := by decide +kernel
theorem dX10_workOut_176 : decode cX10_workOut 176 = .ok (.iload 5, 2) := by decide +kernel
theorem dX10_workOut_178 : decode cX10_workOut 178 = .ok (.iload 4, 2) := by decide +kernel
theorem dX10_workOut_180 : decode cX10_workOut 180 = .ok (.if_icmp .ge 17, 3) := by decide +kernel
theorem dX10_workOut_183 : decode cX10_workOut 183 = .ok (.aload_n 0, 1) := by decide +kernel
theorem dX10_workOut_184 : decode cX10_workOut 184 = .ok (.iload 5, 2) := by decide +kernel
theorem dX10_workOut_186 : decode cX10_workOut 186 = .ok (.iload 4, 2) := by decide +kernel
theorem dX10_workOut_188 : decode cX10_workOut 188 = .ok (.invokevirtual 45, 3) := by decide +kernel
theorem dX10_workOut_191 : decode cX10_workOut 191 = .ok (.iinc 5 1, 3) := by decide +kernel
theorem dX10_workOut_194 : decode cX10_workOut 194 = .ok (.goto (-18), 3) := by decide +kernel
theorem dX10_workOut_197 : decode cX10_workOut 197 = .ok (.return_, 1) := by decide +kernel
theorem bX10_workOut_0 {d : Nat} {P : q_Mem → Prop} {M : q_Mem} (x1 x2 x3 : Int) (k1 : q_kd x1 = 6) (k3 : q_kd x3 = 14) (h : (∀ M1 : q_Mem, M1 = q_up M 98 2 x2 → ∀ x4_2 : Int, x4_2 = (M1 x1 0) → q_v mX10_workOut d (qPU P) M1 14 [some (qR 98), some (qR x1), none, some (qR x3), some (qI x4_2), some (qI 0), none, none] [])) : q_v mX10_workOut d (qPU P) M 0 [some (qR 98), some (qR x1), some (qI x2), some (qR x3), none, none, none, none] [] := by
  refine qr_aload_n 0 1 rfl (x := 98) rfl dX10_workOut_0 ?_
  refine qr_iload_n 1 2 rfl (x := x2) rfl dX10_workOut_1 ?_
  refine qp_i 2 5 rfl ck10 2 (kk := 2) (by decide) (by decide +kernel) (by decide) rfl rfl wm_265 rfl dX10_workOut_2 (fun M1 e_M1 => ?_)
  have h := h M1 e_M1
  refine qr_aload_n 5 6 rfl (x := x1) rfl dX10_workOut_5 ?_
  refine qg_i 6 9 rfl ck6 0 (kk := 0) (by decide) k1 (by decide +kernel) rfl wm_216 rfl dX10_workOut_6 ?_
  refine qn_i 9 (fun x4_2 e_x4_2 => ?_)
  have h := h x4_2 e_x4_2
  refine qr_istore 9 11 rfl (by decide) rfl rfl dX10_workOut_9 ?_
  refine qr_iconst 11 12 rfl (q_l32 _ rfl) dX10_workOut_11 ?_
  refine qr_istore 12 14 rfl (by decide) rfl rfl dX10_workOut_12 ?_
  exact qr_cut 14 (ls' := [some (qR 98), some (qR x1), none, some (qR x3), some (qI x4_2), some (qI 0), none, none]) (And.intro rfl (And.intro rfl (And.intro rfl (And.intro rfl (And.intro rfl trivial))))) h
theorem bX10_workOut_14 {d : Nat} {P : q_Mem → Prop} {M : q_Mem} (x1 x3 x4 x5 : Int) (k1 : q_kd x1 = 6) (k3 : q_kd x3 = 14) (h : ((x4 ≤ x5) → q_v mX10_workOut d (qPU P) M 53 [some (qR 98), some (qR x1), none, some (qR x3), some (qI x4), some (qI 0), none, none] []) ∧ ((¬ (x4 ≤ x5)) → (0 ≤ x5 ∧ x5 < (16 : Int)) ∧ (q_kU yJ7_fill_53178 mJ7_fill_53178 d [qR (q_lay 99 (Int.toNat x5)), qI 536870912] M (fun M2 => (0 ≤ x5 ∧ x5 < (16 : Int)) ∧ (q_kd (q_lay 99 (Int.toNat x5)) = 14 ∧ (0 ≤ x5 ∧ x5 < (q_ln (q_lay 99 (Int.toNat x5)) : Int)) ∧ (∀ M6 : q_Mem, M6 = q_up M2 (q_lay 99 (Int.toNat x5)) x5 0 → q_v mX10_workOut d (qPU P) M6 14 [some (qR 98), some (qR x1), none, some (qR x3), some (qI x4), some (qI (q_add x5 1)), none, none] [])))))) : q_v mX10_workOut d (qPU P) M 14 [some (qR 98), some (qR x1), none, some (qR x3), some (qI x4), some (qI x5), none, none] [] := by
  refine qr_iload 14 16 rfl (x := x5) rfl dX10_workOut_14 ?_
  refine qr_iload 16 18 rfl (x := x4) rfl dX10_workOut_16 ?_
  refine qr_icmp_ge 18 21 50 rfl (by decide) dX10_workOut_18 (fun c18 => ?_) (fun c18 => ?_)
  · have h := h.1 c18
    refine qr_iconst 50 51 rfl (q_l32 _ rfl) dX10_workOut_50 ?_
    refine qr_istore 51 53 rfl (by decide) rfl rfl dX10_workOut_51 ?_
    exact h
  · have h := h.2 c18
    refine qr_aload_n 21 22 rfl (x := 98) rfl dX10_workOut_21 ?_
    refine qr_getF 22 25 rfl ck10 0 (by decide) (b := 99) (by decide +kernel) rfl (by decide +kernel) (by decide +kernel) wm_262 rfl dX10_workOut_22 ?_
    refine qr_iload 25 27 rfl (x := x5) rfl dX10_workOut_25 ?_
    have hb1 := h.1
    have h := h.2
    refine qa_ld 27 28 rfl (N := 16) (by decide +kernel) (by decide +kernel) hb1.1 hb1.2 dX10_workOut_27 ?_
    refine qr_ldc 28 30 rfl (v := 536870912) (q_l32 _ rfl) wm_832 dX10_workOut_28 ?_
    refine qs_U 30 33 rfl (av := [qR (q_lay 99 (Int.toNat x5)), qI 536870912]) ca_J7_fill_53178 wm_459 wm_833 rfl rfl (Nat.le_of_ble_eq_true rfl) dX10_workOut_30 h (fun M2 h => ?_)
    refine qr_aload_n 33 34 rfl (x := 98) rfl dX10_workOut_33 ?_
    refine qr_getF 34 37 rfl ck10 0 (by decide) (b := 99) (by decide +kernel) rfl (by decide +kernel) (by decide +kernel) wm_262 rfl dX10_workOut_34 ?_
    refine qr_iload 37 39 rfl (x := x5) rfl dX10_workOut_37 ?_
    have hb3 := h.1
    have h := h.2
    refine qa_ld 39 40 rfl (N := 16) (by decide +kernel) (by decide +kernel) hb3.1 hb3.2 dX10_workOut_39 ?_
    refine qr_iload 40 42 rfl (x := x5) rfl dX10_workOut_40 ?_
    refine qr_iconst 42 43 rfl (q_l32 _ rfl) dX10_workOut_42 ?_
    have hk4 := h.1
    have h := h.2
    have hb5 := h.1
    have h := h.2
    refine qi_st 43 44 rfl hk4 rfl hb5.1 hb5.2 dX10_workOut_43 (fun M6 e_M6 => ?_)
    have h := h M6 e_M6
    refine qr_iinc 44 47 rfl (by decide) (x := x5) rfl rfl rfl dX10_workOut_44 ?_
    refine qr_goto 47 14 (by decide) dX10_workOut_47 ?_
    exact h
theorem bX10_workOut_53 {d : Nat} {P : q_Mem → Prop} {M : q_Mem} (x1 x3 x4 x5 : Int) (k1 : q_kd x1 = 6) (k3 : q_kd x3 = 14) (h : (((M 98 2) ≤ x5) → q_v mX10_workOut d (qPU P) M 176 [some (qR 98), none, none, none, some (qI x4), some (qI 0), none, none] []) ∧ ((¬ ((M 98 2) ≤ x5)) → (0 ≤ x5 ∧ x5 < (q_ln x3 : Int)) ∧ (q_kI yJ9_abs_0f7a4 mJ9_abs_0f7a4 d [qI (M x3 x5)] M (fun v3 M2 => (0 ≤ x5 ∧ x5 < (16 : Int)) ∧ (∀ M5 : q_Mem, M5 = q_up M2 116 x5 (q_add (q_mul v3 1024) 1) → (0 ≤ (q_mul 2 x5) ∧ (q_mul 2 x5) < (32 : Int)) ∧ (∀ x6_7 : Int, x6_7 = (M5 (q_lay x1 4) (q_mul 2 x5)) → (0 ≤ (q_add (q_mul 2 x5) 1) ∧ (q_add (q_mul 2 x5) 1) < (32 : Int)) ∧ (∀ x7_9 : Int, x7_9 = (M5 (q_lay x1 4) (q_add (q_mul 2 x5) 1)) → ((x6_7 = x7_9) → q_v mX10_workOut d (qPU P) M5 53 [some (qR 98), some (qR x1), none, some (qR x3), some (qI x4), some (qI (q_add x5 1)), none, none] []) ∧ ((¬ (x6_7 = x7_9)) → (0 ≤ x5 ∧ x5 < (16 : Int)) ∧ ((0 ≤ x6_7 ∧ x6_7 < (16 : Int)) ∧ (q_kd (q_lay 99 (Int.toNat x6_7)) = 14 ∧ (0 ≤ x7_9 ∧ x7_9 < (q_ln (q_lay 99 (Int.toNat x6_7)) : Int)) ∧ ((((M5 (q_lay 99 (Int.toNat x6_7)) x7_9) ≤ (M5 116 x5)) → q_v mX10_workOut d (qPU P) M5 53 [some (qR 98), some (qR x1), none, some (qR x3), some (qI x4), some (qI (q_add x5 1)), none, none] []) ∧ ((¬ ((M5 (q_lay 99 (Int.toNat x6_7)) x7_9) ≤ (M5 116 x5))) → (0 ≤ x6_7 ∧ x6_7 < (16 : Int)) ∧ ((0 ≤ x5 ∧ x5 < (16 : Int)) ∧ ((0 ≤ x7_9 ∧ x7_9 < (q_ln (q_lay 99 (Int.toNat x6_7)) : Int)) ∧ (∀ M17 : q_Mem, M17 = q_up M5 (q_lay 99 (Int.toNat x6_7)) x7_9 (M5 116 x5) → (0 ≤ x7_9 ∧ x7_9 < (16 : Int)) ∧ ((0 ≤ x5 ∧ x5 < (16 : Int)) ∧ (q_kd (q_lay 99 (Int.toNat x7_9)) = 14 ∧ (0 ≤ x6_7 ∧ x6_7 < (q_ln (q_lay 99 (Int.toNat x7_9)) : Int)) ∧ (∀ M22 : q_Mem, M22 = q_up M17 (q_lay 99 (Int.toNat x7_9)) x6_7 (M17 116 x5) → q_v mX10_workOut d (qPU P) M22 53 [some (qR 98), some (qR x1), none, some (qR x3), some (qI x4), some (qI (q_add x5 1)), none, none] [])))))))))))))))))) : q_v mX10_workOut d (qPU P) M 53 [some (qR 98), some (qR x1), none, some (qR x3), some (qI x4), some (qI x5), none, none] [] := by
  refine qr_iload 53 55 rfl (x := x5) rfl dX10_workOut_53 ?_
  refine qr_aload_n 55 56 rfl (x := 98) rfl dX10_workOut_55 ?_
  refine qg_i 56 59 rfl ck10 2 (kk := 2) (by decide) (by decide +kernel) (by decide +kernel) rfl wm_265 rfl dX10_workOut_56 ?_
  refine qr_icmp_ge 59 62 173 rfl (by decide) dX10_workOut_59 (fun c59 => ?_) (fun c59 => ?_)
  · have h := h.1 c59
    refine qr_iconst 173 174 rfl (q_l32 _ rfl) dX10_workOut_173 ?_
    refine qr_istore 174 176 rfl (by decide) rfl rfl dX10_workOut_174 ?_
    exact qr_cut 176 (ls' := [some (qR 98), none, none, none, some (qI x4), some (qI 0), none, none]) (And.intro rfl (And.intro rfl (And.intro rfl trivial))) h
  · have h := h.2 c59
    refine qr_aload_n 62 63 rfl (x := 98) rfl dX10_workOut_62 ?_
    refine qr_getF 63 66 rfl ck10 1 (by decide) (b := 116) (by decide +kernel) rfl (by decide +kernel) (by decide +kernel) wm_264 rfl dX10_workOut_63 ?_
    refine qr_iload 66 68 rfl (x := x5) rfl dX10_workOut_66 ?_
    refine qr_aload_n 68 69 rfl (x := x3) rfl dX10_workOut_68 ?_
    refine qr_iload 69 71 rfl (x := x5) rfl dX10_workOut_69 ?_
    have hb1 := h.1
    have h := h.2
    refine qi_ld 71 72 rfl k3 rfl hb1.1 hb1.2 dX10_workOut_71 ?_
    refine qs_I 72 75 rfl (av := [qI (M x3 x5)]) ca_J9_abs_0f7a4 wm_835 wm_834 rfl rfl (Nat.le_of_ble_eq_true rfl) dX10_workOut_72 h (fun v3 M2 h => ?_)
    refine qr_sipush 75 78 rfl (q_l32 _ rfl) (by decide) dX10_workOut_75 ?_
    refine qr_imul 78 79 rfl dX10_workOut_78 ?_
    refine qr_iconst 79 80 rfl (q_l32 _ rfl) dX10_workOut_79 ?_
    refine qr_iadd 80 81 rfl dX10_workOut_80 ?_
    have hb4 := h.1
    have h := h.2
    refine qi_st 81 82 rfl (N := 16) (by decide +kernel) (by decide +kernel) hb4.1 hb4.2 dX10_workOut_81 (fun M5 e_M5 => ?_)
    have h := h M5 e_M5
    refine qr_aload_n 82 83 rfl (x := x1) rfl dX10_workOut_82 ?_
    refine qr_getF 83 86 rfl ck6 4 (by decide) (b := (q_lay x1 4)) k1 rfl (by decide +kernel) rfl wm_226 rfl dX10_workOut_83 ?_
    refine qr_iconst 86 87 rfl (q_l32 _ rfl) dX10_workOut_86 ?_
    refine qr_iload 87 89 rfl (x := x5) rfl dX10_workOut_87 ?_
    refine qr_imul 89 90 rfl dX10_workOut_89 ?_
    have hb6 := h.1
    have h := h.2
    refine qi_ld 90 91 rfl (N := 32) (lk6_4 _ k1) (ll6_4 _ k1) hb6.1 hb6.2 dX10_workOut_90 ?_
    refine qn_i 91 (fun x6_7 e_x6_7 => ?_)
    have h := h x6_7 e_x6_7
    refine qr_istore 91 93 rfl (by decide) rfl rfl dX10_workOut_91 ?_
    refine qr_aload_n 93 94 rfl (x := x1) rfl dX10_workOut_93 ?_
    refine qr_getF 94 97 rfl ck6 4 (by decide) (b := (q_lay x1 4)) k1 rfl (by decide +kernel) rfl wm_226 rfl dX10_workOut_94 ?_
    refine qr_iconst 97 98 rfl (q_l32 _ rfl) dX10_workOut_97 ?_
    refine qr_iload 98 100 rfl (x := x5) rfl dX10_workOut_98 ?_
    refine qr_imul 100 101 rfl dX10_workOut_100 ?_
    refine qr_iconst 101 102 rfl (q_l32 _ rfl) dX10_workOut_101 ?_
    refine qr_iadd 102 103 rfl dX10_workOut_102 ?_
    have hb8 := h.1
    have h := h.2
    refine qi_ld 103 104 rfl (N := 32) (lk6_4 _ k1) (ll6_4 _ k1) hb8.1 hb8.2 dX10_workOut_103 ?_
    refine qn_i 104 (fun x7_9 e_x7_9 => ?_)
    have h := h x7_9 e_x7_9
    refine qr_istore 104 106 rfl (by decide) rfl rfl dX10_workOut_104 ?_
    refine qr_iload 106 108 rfl (x := x6_7) rfl dX10_workOut_106 ?_
    refine qr_iload 108 110 rfl (x := x7_9) rfl dX10_workOut_108 ?_
    refine qr_icmp_eq 110 113 167 rfl (by decide) dX10_workOut_110 (fun c110 => ?_) (fun c110 => ?_)
    · have h := h.1 c110
      refine qr_iinc 167 170 rfl (by decide) (x := x5) rfl rfl rfl dX10_workOut_167 ?_
      refine qr_goto 170 53 (by decide) dX10_workOut_170 ?_
      exact qr_cut 53 (ls' := [some (qR 98), some (qR x1), none, some (qR x3), some (qI x4), some (qI (q_add x5 1)), none, none]) (And.intro rfl (And.intro rfl (And.intro rfl (And.intro rfl (And.intro rfl trivial))))) h
    · have h := h.2 c110
      refine qr_aload_n 113 114 rfl (x := 98) rfl dX10_workOut_113 ?_
      refine qr_getF 114 117 rfl ck10 1 (by decide) (b := 116) (by decide +kernel) rfl (by decide +kernel) (by decide +kernel) wm_264 rfl dX10_workOut_114 ?_
      refine qr_iload 117 119 rfl (x := x5) rfl dX10_workOut_117 ?_
      have hb10 := h.1
      have h := h.2
      refine qi_ld 119 120 rfl (N := 16) (by decide +kernel) (by decide +kernel) hb10.1 hb10.2 dX10_workOut_119 ?_
      refine qr_aload_n 120 121 rfl (x := 98) rfl dX10_workOut_120 ?_
      refine qr_getF 121 124 rfl ck10 0 (by decide) (b := 99) (by decide +kernel) rfl (by decide +kernel) (by decide +kernel) wm_262 rfl dX10_workOut_121 ?_
      refine qr_iload 124 126 rfl (x := x6_7) rfl dX10_workOut_124 ?_
      have hb11 := h.1
      have h := h.2
      refine qa_ld 126 127 rfl (N := 16) (by decide +kernel) (by decide +kernel) hb11.1 hb11.2 dX10_workOut_126 ?_
      refine qr_iload 127 129 rfl (x := x7_9) rfl dX10_workOut_127 ?_
      have hk12 := h.1
      have h := h.2
      have hb13 := h.1
      have h := h.2
      refine qi_ld 129 130 rfl hk12 rfl hb13.1 hb13.2 dX10_workOut_129 ?_
      refine qr_icmp_ge 130 133 167 rfl (by decide) dX10_workOut_130 (fun c130 => ?_) (fun c130 => ?_)
      · have h := h.1 c130
        refine qr_iinc 167 170 rfl (by decide) (x := x5) rfl rfl rfl dX10_workOut_167 ?_
        refine qr_goto 170 53 (by decide) dX10_workOut_170 ?_
        exact qr_cut 53 (ls' := [some (qR 98), some (qR x1), none, some (qR x3), some (qI x4), some (qI (q_add x5 1)), none, none]) (And.intro rfl (And.intro rfl (And.intro rfl (And.intro rfl (And.intro rfl trivial))))) h
      · have h := h.2 c130
        refine qr_aload_n 133 134 rfl (x := 98) rfl dX10_workOut_133 ?_
        refine qr_getF 134 137 rfl ck10 0 (by decide) (b := 99) (by decide +kernel) rfl (by decide +kernel) (by decide +kernel) wm_262 rfl dX10_workOut_134 ?_
        refine qr_iload 137 139 rfl (x := x6_7) rfl dX10_workOut_137 ?_
        have hb14 := h.1
        have h := h.2
        refine qa_ld 139 140 rfl (N := 16) (by decide +kernel) (by decide +kernel) hb14.1 hb14.2 dX10_workOut_139 ?_
        refine qr_iload 140 142 rfl (x := x7_9) rfl dX10_workOut_140 ?_
        refine qr_aload_n 142 143 rfl (x := 98) rfl dX10_workOut_142 ?_
        refine qr_getF 143 146 rfl ck10 1 (by decide) (b := 116) (by decide +kernel) rfl (by decide +kernel) (by decide +kernel) wm_264 rfl dX10_workOut_143 ?_
        refine qr_iload 146 148 rfl (x := x5) rfl dX10_workOut_146 ?_
        have hb15 := h.1
        have h := h.2
        refine qi_ld 148 149 rfl (N := 16) (by decide +kernel) (by decide +kernel) hb15.1 hb15.2 dX10_workOut_148 ?_
        have hb16 := h.1
        have h := h.2
        refine qi_st 149 150 rfl hk12 rfl hb16.1 hb16.2 dX10_workOut_149 (fun M17 e_M17 => ?_)
        have h := h M17 e_M17
        refine qr_aload_n 150 151 rfl (x := 98) rfl dX10_workOut_150 ?_
        refine qr_getF 151 154 rfl ck10 0 (by decide) (b := 99) (by decide +kernel) rfl (by decide +kernel) (by decide +kernel) wm_262 rfl dX10_workOut_151 ?_
        refine qr_iload 154 156 rfl (x := x7_9) rfl dX10_workOut_154 ?_
        have hb18 := h.1
        have h := h.2
        refine qa_ld 156 157 rfl (N := 16) (by decide +kernel) (by decide +kernel) hb18.1 hb18.2 dX10_workOut_156 ?_
        refine qr_iload 157 159 rfl (x := x6_7) rfl dX10_workOut_157 ?_
        refine qr_aload_n 159 160 rfl (x := 98) rfl dX10_workOut_159 ?_
        refine qr_getF 160 163 rfl ck10 1 (by decide) (b := 116) (by decide +kernel) rfl (by decide +kernel) (by decide +kernel) wm_264 rfl dX10_workOut_160 ?_
        refine qr_iload 163 165 rfl (x := x5) rfl dX10_workOut_163 ?_
        have hb19 := h.1
        have h := h.2
        refine qi_ld 165 166 rfl (N := 16) (by decide +kernel) (by decide +kernel) hb19.1 hb19.2 dX10_workOut_165 ?_
        have hk20 := h.1
        have h := h.2
        have hb21 := h.1
        have h := h.2
        refine qi_st 166 167 rfl hk20 rfl hb21.1 hb21.2 dX10_workOut_166 (fun M22 e_M22 => ?_)
        have h := h M22 e_M22
        refine qr_iinc 167 170 rfl (by decide) (x := x5) rfl rfl rfl dX10_workOut_167 ?_
        refine qr_goto 170 53 (by decide) dX10_workOut_170 ?_
        exact qr_cut 53 (ls' := [some (qR 98), some (qR x1), none, some (qR x3), some (qI x4), some (qI (q_add x5 1)), none, none]) (And.intro rfl (And.intro rfl (And.intro rfl (And.intro rfl (And.intro rfl trivial))))) h
theorem bX10_workOut_176 {d : Nat} {P : q_Mem → Prop} {M : q_Mem} (x4 x5 : Int) (h : ((x4 ≤ x5) → P M) ∧ ((¬ (x4 ≤ x5)) → q_kU yX10_goBy mX10_goBy d [qR 98, qI x5, qI x4] M (fun M1 => q_v mX10_workOut d (qPU P) M1 176 [some (qR 98), none, none, none, some (qI x4), some (qI (q_add x5 1)), none, none] []))) : q_v mX10_workOut d (qPU P) M 176 [some (qR 98), none, none, none, some (qI x4), some (qI x5), none, none] [] := by
  refine qr_iload 176 178 rfl (x := x5) rfl dX10_workOut_176 ?_
  refine qr_iload 178 180 rfl (x := x4) rfl dX10_workOut_178 ?_
  refine qr_icmp_ge 180 183 197 rfl (by decide) dX10_workOut_180 (fun c180 => ?_) (fun c180 => ?_)
  · have h := h.1 c180
    exact qe_u 197 rfl dX10_workOut_197 h
  · have h := h.2 c180
    refine qr_aload_n 183 184 rfl (x := 98) rfl dX10_workOut_183 ?_
    refine qr_iload 184 186 rfl (x := x5) rfl dX10_workOut_184 ?_
    refine qr_iload 186 188 rfl (x := x4) rfl dX10_workOut_186 ?_
    refine qw_U 188 191 rfl (av := [qI x5, qI x4]) ca_X10_goBy wm_839 wp_38 wm_837 ck10 (by decide +kernel) rfl rfl (Nat.le_of_ble_eq_true rfl) dX10_workOut_188 h (fun M1 h => ?_)
    refine qr_iinc 191 194 rfl (by decide) (x := x5) rfl rfl rfl dX10_workOut_191 ?_
    refine qr_goto 194 176 (by decide) dX10_workOut_194 ?_
    exact h
theorem dX10_goBy_0 : decode cX10_goBy 0 = .ok (.iconst 0, 1) := by decide +kernel
theorem dX10_goBy_1 : decode cX10_goBy 1 = .ok (.istore_n 3, 1) := by decide +kernel
theorem dX10_goBy_2 : decode cX10_goBy 2 = .ok (.iload_n 3, 1) := by decide +kernel
theorem dX10_goBy_3 : decode cX10_goBy 3 = .ok (.iload_n 2, 1) := by decide +kernel
theorem dX10_goBy_4 : decode cX10_goBy 4 = .ok (.if_icmp .ge 74, 3) := by decide +kernel
theorem dX10_goBy_7 : decode cX10_goBy 7 = .ok (.aload_n 0, 1) := by decide +kernel
theorem dX10_goBy_8 : decode cX10_goBy 8 = .ok (.getfield 11, 3) := by decide +kernel
theorem dX10_goBy_11 : decode cX10_goBy 11 = .ok (.iload_n 3, 1) := by decide +kernel
theorem dX10_goBy_12 : decode cX10_goBy 12 = .ok (.aaload, 1) := by decide +kernel
theorem dX10_goBy_13 : decode cX10_goBy 13 = .ok (.iload_n 1, 1) := by decide +kernel
theorem dX10_goBy_14 : decode cX10_goBy 14 = .ok (.iaload, 1) := by decide +kernel
theorem dX10_goBy_15 : decode cX10_goBy 15 = .ok (.istore 4, 2) := by decide +kernel
theorem dX10_goBy_17 : decode cX10_goBy 17 = .ok (.iconst 0, 1) := by decide +kernel
theorem dX10_goBy_18 : decode cX10_goBy 18 = .ok (.istore 5, 2) := by decide +kernel
theorem dX10_goBy_20 : decode cX10_goBy 20 = .ok (.iload 5, 2) := by decide +kernel
theorem dX10_goBy_22 : decode cX10_goBy 22 = .ok (.iload_n 2, 1) := by decide +kernel
theorem dX10_goBy_23 : decode cX10_goBy 23 = .ok (.if_icmp .ge 49, 3) := by decide +kernel
theorem dX10_goBy_26 : decode cX10_goBy 26 = .ok (.iload 4, 2) := by decide +kernel
theorem dX10_goBy_28 : decode cX10_goBy 28 = .ok (.ldc 29, 2) := by decide +kernel
theorem dX10_goBy_30 : decode cX10_goBy 30 = .ok (.if_icmp .ge 42, 3) := by decide +kernel
theorem dX10_goBy_33 : decode cX10_goBy 33 = .ok (.aload_n 0, 1) := by decide +kernel
theorem dX10_goBy_34 : decode cX10_goBy 34 = .ok (.getfield 11, 3) := by decide +kernel
theorem dX10_goBy_37 : decode cX10_goBy 37 = .ok (.iload_n 3, 1) := by decide +kernel
theorem dX10_goBy_38 : decode cX10_goBy 38 = .ok (.aaload, 1) := by decide +kernel
theorem dX10_goBy_39 : decode cX10_goBy 39 = .ok (.iload 5, 2) := by decide +kernel
theorem dX10_goBy_41 : decode cX10_goBy 41 = .ok (.aload_n 0, 1) := by decide +kernel
theorem dX10_goBy_42 : decode cX10_goBy 42 = .ok (.getfield 11, 3) := by decide +kernel
theorem dX10_goBy_45 : decode cX10_goBy 45 = .ok (.iload_n 3, 1) := by decide +kernel
theorem dX10_goBy_46 : decode cX10_goBy 46 = .ok (.aaload, 1) := by decide +kernel
theorem dX10_goBy_47 : decode cX10_goBy 47 = .ok (.iload 5, 2) := by decide +kernel
theorem dX10_goBy_49 : decode cX10_goBy 49 = .ok (.iaload, 1) := by decide +kernel
theorem dX10_goBy_50 : decode cX10_goBy 50 = .ok (.iload 4, 2) := by decide +kernel
theorem dX10_goBy_52 : decode cX10_goBy 52 = .ok (.aload_n 0, 1) := by decide +kernel
theorem dX10_goBy_53 : decode cX10_goBy 53 = .ok (.getfield 11, 3) := by decide +kernel
theorem dX10_goBy_56 : decode cX10_goBy 56 = .ok (.iload_n 1, 1) := by decide +kernel
theorem dX10_goBy_57 : decode cX10_goBy 57 = .ok (.aaload, 1) := by decide +kernel
theorem dX10_goBy_58 : decode cX10_goBy 58 = .ok (.iload 5, 2) := by decide +kernel
theorem dX10_goBy_60 : decode cX10_goBy 60 = .ok (.iaload, 1) := by decide +kernel
theorem dX10_goBy_61 : decode cX10_goBy 61 = .ok (.iadd, 1) := by decide +kernel
theorem dX10_goBy_62 : decode cX10_goBy 62 = .ok (.invokestatic 49, 3) := by decide +kernel
theorem dX10_goBy_65 : decode cX10_goBy 65 = .ok (.iastore, 1) := by decide +kernel
theorem dX10_goBy_66 : decode cX10_goBy 66 = .ok (.iinc 5 1, 3) := by decide +kernel
theorem dX10_goBy_69 : decode cX10_goBy 69 = .ok (.goto (-49), 3) := by decide +kernel
theorem dX10_goBy_72 : decode cX10_goBy 72 = .ok (.iinc 3 1, 3) := by decide +kernel
theorem dX10_goBy_75 : decode cX10_goBy 75 = .ok (.goto (-73), 3) := by decide +kernel
theorem dX10_goBy_78 : decode cX10_goBy 78 = .ok (.return_, 1) := by decide +kernel
theorem bX10_goBy_0 {d : Nat} {P : q_Mem → Prop} {M : q_Mem} (x1 x2 : Int) (h : q_v mX10_goBy d (qPU P) M 2 [some (qR 98), some (qI x1), some (qI x2), some (qI 0), none, none] []) : q_v mX10_goBy d (qPU P) M 0 [some (qR 98), some (qI x1), some (qI x2), none, none, none] [] := by
  refine qr_iconst 0 1 rfl (q_l32 _ rfl) dX10_goBy_0 ?_
  refine qr_istore_n 1 2 rfl (by decide) rfl rfl dX10_goBy_1 ?_
  exact h
theorem bX10_goBy_2 {d : Nat} {P : q_Mem → Prop} {M : q_Mem} (x1 x2 x3 : Int) (h : ((x2 ≤ x3) → P M) ∧ ((¬ (x2 ≤ x3)) → (0 ≤ x3 ∧ x3 < (16 : Int)) ∧ (q_kd (q_lay 99 (Int.toNat x3)) = 14 ∧ (0 ≤ x1 ∧ x1 < (q_ln (q_lay 99 (Int.toNat x3)) : Int)) ∧ (∀ x4_4 : Int, x4_4 = (M (q_lay 99 (Int.toNat x3)) x1) → q_v mX10_goBy d (qPU P) M 20 [some (qR 98), some (qI x1), some (qI x2), some (qI x3), some (qI x4_4), some (qI 0)] [])))) : q_v mX10_goBy d (qPU P) M 2 [some (qR 98), some (qI x1), some (qI x2), some (qI x3), none, none] [] := by
  refine qr_iload_n 2 3 rfl (x := x3) rfl dX10_goBy_2 ?_
  refine qr_iload_n 3 4 rfl (x := x2) rfl dX10_goBy_3 ?_
  refine qr_icmp_ge 4 7 78 rfl (by decide) dX10_goBy_4 (fun c4 => ?_) (fun c4 => ?_)
  · have h := h.1 c4
    exact qe_u 78 rfl dX10_goBy_78 h
  · have h := h.2 c4
    refine qr_aload_n 7 8 rfl (x := 98) rfl dX10_goBy_7 ?_
    refine qr_getF 8 11 rfl ck10 0 (by decide) (b := 99) (by decide +kernel) rfl (by decide +kernel) (by decide +kernel) wm_262 rfl dX10_goBy_8 ?_
    refine qr_iload_n 11 12 rfl (x := x3) rfl dX10_goBy_11 ?_
    have hb1 := h.1
    have h := h.2
    refine qa_ld 12 13 rfl (N := 16) (by decide +kernel) (by decide +kernel) hb1.1 hb1.2 dX10_goBy_12 ?_
    refine qr_iload_n 13 14 rfl (x := x1) rfl dX10_goBy_13 ?_
    have hk2 := h.1
    have h := h.2
    have hb3 := h.1
    have h := h.2
    refine qi_ld 14 15 rfl hk2 rfl hb3.1 hb3.2 dX10_goBy_14 ?_
    refine qn_i 15 (fun x4_4 e_x4_4 => ?_)
    have h := h x4_4 e_x4_4
    refine qr_istore 15 17 rfl (by decide) rfl rfl dX10_goBy_15 ?_
    refine qr_iconst 17 18 rfl (q_l32 _ rfl) dX10_goBy_17 ?_
    refine qr_istore 18 20 rfl (by decide) rfl rfl dX10_goBy_18 ?_
    exact h
theorem bX10_goBy_20 {d : Nat} {P : q_Mem → Prop} {M : q_Mem} (x1 x2 x3 x4 x5 : Int) (h : ((x2 ≤ x5) → q_v mX10_goBy d (qPU P) M 2 [some (qR 98), some (qI x1), some (qI x2), some (qI (q_add x3 1)), none, none] []) ∧ ((¬ (x2 ≤ x5)) → (((536870912 : Int) ≤ x4) → q_v mX10_goBy d (qPU P) M 2 [some (qR 98), some (qI x1), some (qI x2), some (qI (q_add x3 1)), none, none] []) ∧ ((¬ ((536870912 : Int) ≤ x4)) → (0 ≤ x3 ∧ x3 < (16 : Int)) ∧ ((0 ≤ x3 ∧ x3 < (16 : Int)) ∧ (q_kd (q_lay 99 (Int.toNat x3)) = 14 ∧ (0 ≤ x5 ∧ x5 < (q_ln (q_lay 99 (Int.toNat x3)) : Int)) ∧ ((0 ≤ x1 ∧ x1 < (16 : Int)) ∧ (q_kd (q_lay 99 (Int.toNat x1)) = 14 ∧ (0 ≤ x5 ∧ x5 < (q_ln (q_lay 99 (Int.toNat x1)) : Int)) ∧ (q_kI yJ9_min_7cf53 mJ9_min_7cf53 d [qI (M (q_lay 99 (Int.toNat x3)) x5), qI (q_add x4 (M (q_lay 99 (Int.toNat x1)) x5))] M (fun v9 M8 => (0 ≤ x5 ∧ x5 < (q_ln (q_lay 99 (Int.toNat x3)) : Int)) ∧ (∀ M11 : q_Mem, M11 = q_up M8 (q_lay 99 (Int.toNat x3)) x5 v9 → q_v mX10_goBy d (qPU P) M11 20 [some (qR 98), some (qI x1), some (qI x2), some (qI x3), some (qI x4), some (qI (q_add x5 1))] [])))))))))) : q_v mX10_goBy d (qPU P) M 20 [some (qR 98), some (qI x1), some (qI x2), some (qI x3), some (qI x4), some (qI x5)] [] := by
  refine qr_iload 20 22 rfl (x := x5) rfl dX10_goBy_20 ?_
  refine qr_iload_n 22 23 rfl (x := x2) rfl dX10_goBy_22 ?_
  refine qr_icmp_ge 23 26 72 rfl (by decide) dX10_goBy_23 (fun c23 => ?_) (fun c23 => ?_)
  · have h := h.1 c23
    refine qr_iinc 72 75 rfl (by decide) (x := x3) rfl rfl rfl dX10_goBy_72 ?_
    refine qr_goto 75 2 (by decide) dX10_goBy_75 ?_
    exact qr_cut 2 (ls' := [some (qR 98), some (qI x1), some (qI x2), some (qI (q_add x3 1)), none, none]) (And.intro rfl (And.intro rfl (And.intro rfl (And.intro rfl trivial)))) h
  · have h := h.2 c23
    refine qr_iload 26 28 rfl (x := x4) rfl dX10_goBy_26 ?_
    refine qr_ldc 28 30 rfl (v := 536870912) (q_l32 _ rfl) wm_832 dX10_goBy_28 ?_
    refine qr_icmp_ge 30 33 72 rfl (by decide) dX10_goBy_30 (fun c30 => ?_) (fun c30 => ?_)
    · have h := h.1 c30
      refine qr_iinc 72 75 rfl (by decide) (x := x3) rfl rfl rfl dX10_goBy_72 ?_
      refine qr_goto 75 2 (by decide) dX10_goBy_75 ?_
      exact qr_cut 2 (ls' := [some (qR 98), some (qI x1), some (qI x2), some (qI (q_add x3 1)), none, none]) (And.intro rfl (And.intro rfl (And.intro rfl (And.intro rfl trivial)))) h
    · have h := h.2 c30
      refine qr_aload_n 33 34 rfl (x := 98) rfl dX10_goBy_33 ?_
      refine qr_getF 34 37 rfl ck10 0 (by decide) (b := 99) (by decide +kernel) rfl (by decide +kernel) (by decide +kernel) wm_262 rfl dX10_goBy_34 ?_
      refine qr_iload_n 37 38 rfl (x := x3) rfl dX10_goBy_37 ?_
      have hb1 := h.1
      have h := h.2
      refine qa_ld 38 39 rfl (N := 16) (by decide +kernel) (by decide +kernel) hb1.1 hb1.2 dX10_goBy_38 ?_
      refine qr_iload 39 41 rfl (x := x5) rfl dX10_goBy_39 ?_
      refine qr_aload_n 41 42 rfl (x := 98) rfl dX10_goBy_41 ?_
      refine qr_getF 42 45 rfl ck10 0 (by decide) (b := 99) (by decide +kernel) rfl (by decide +kernel) (by decide +kernel) wm_262 rfl dX10_goBy_42 ?_
      refine qr_iload_n 45 46 rfl (x := x3) rfl dX10_goBy_45 ?_
      have hb2 := h.1
      have h := h.2
      refine qa_ld 46 47 rfl (N := 16) (by decide +kernel) (by decide +kernel) hb2.1 hb2.2 dX10_goBy_46 ?_
      refine qr_iload 47 49 rfl (x := x5) rfl dX10_goBy_47 ?_
      have hk3 := h.1
      have h := h.2
      have hb4 := h.1
      have h := h.2
      refine qi_ld 49 50 rfl hk3 rfl hb4.1 hb4.2 dX10_goBy_49 ?_
      refine qr_iload 50 52 rfl (x := x4) rfl dX10_goBy_50 ?_
      refine qr_aload_n 52 53 rfl (x := 98) rfl dX10_goBy_52 ?_
      refine qr_getF 53 56 rfl ck10 0 (by decide) (b := 99) (by decide +kernel) rfl (by decide +kernel) (by decide +kernel) wm_262 rfl dX10_goBy_53 ?_
      refine qr_iload_n 56 57 rfl (x := x1) rfl dX10_goBy_56 ?_
      have hb5 := h.1
      have h := h.2
      refine qa_ld 57 58 rfl (N := 16) (by decide +kernel) (by decide +kernel) hb5.1 hb5.2 dX10_goBy_57 ?_
      refine qr_iload 58 60 rfl (x := x5) rfl dX10_goBy_58 ?_
      have hk6 := h.1
      have h := h.2
      have hb7 := h.1
      have h := h.2
      refine qi_ld 60 61 rfl hk6 rfl hb7.1 hb7.2 dX10_goBy_60 ?_
      refine qr_iadd 61 62 rfl dX10_goBy_61 ?_
      refine qs_I 62 65 rfl (av := [qI (M (q_lay 99 (Int.toNat x3)) x5), qI (q_add x4 (M (q_lay 99 (Int.toNat x1)) x5))]) ca_J9_min_7cf53 wm_452 wm_841 rfl rfl (Nat.le_of_ble_eq_true rfl) dX10_goBy_62 h (fun v9 M8 h => ?_)
      have hb10 := h.1
      have h := h.2
      refine qi_st 65 66 rfl hk3 rfl hb10.1 hb10.2 dX10_goBy_65 (fun M11 e_M11 => ?_)
      have h := h M11 e_M11
      refine qr_iinc 66 69 rfl (by decide) (x := x5) rfl rfl rfl dX10_goBy_66 ?_
      refine qr_goto 69 20 (by decide) dX10_goBy_69 ?_
      exact h
theorem dX10_heaviness_0 : decode cX10_heaviness 0 = .ok (.aload_n 0, 1) := by decide +kernel
theorem dX10_heaviness_1 : decode cX10_heaviness 1 = .ok (.getfield 11, 3) := by decide +kernel
theorem dX10_heaviness_4 : decode cX10_heaviness 4 = .ok (.iload_n 1, 1) := by decide +kernel
theorem dX10_heaviness_5 : decode cX10_heaviness 5 = .ok (.aaload, 1) := by decide +kernel
theorem dX10_heaviness_6 : decode cX10_heaviness 6 = .ok (.iload_n 2, 1) := by decide +kernel
theorem dX10_heaviness_7 : decode cX10_heaviness 7 = .ok (.iaload, 1) := by decide +kernel
theorem dX10_heaviness_8 : decode cX10_heaviness 8 = .ok (.ldc 29, 2) := by decide +kernel
theorem dX10_heaviness_10 : decode cX10_heaviness 10 = .ok (.if_icmp .ge 18, 3) := by decide +kernel
theorem dX10_heaviness_13 : decode cX10_heaviness 13 = .ok (.aload_n 0, 1) := by decide +kernel
theorem dX10_heaviness_14 : decode cX10_heaviness 14 = .ok (.getfield 11, 3) := by decide +kernel
theorem dX10_heaviness_17 : decode cX10_heaviness 17 = .ok (.iload_n 1, 1) := by decide +kernel
theorem dX10_heaviness_18 : decode cX10_heaviness 18 = .ok (.aaload, 1) := by decide +kernel
theorem dX10_heaviness_19 : decode cX10_heaviness 19 = .ok (.iload_n 2, 1) := by decide +kernel
theorem dX10_heaviness_20 : decode cX10_heaviness 20 = .ok (.iaload, 1) := by decide +kernel
theorem dX10_heaviness_21 : decode cX10_heaviness 21 = .ok (.sipush 1024, 3) := by decide +kernel
theorem dX10_heaviness_24 : decode cX10_heaviness 24 = .ok (.idiv, 1) := by decide +kernel
theorem dX10_heaviness_25 : decode cX10_heaviness 25 = .ok (.goto 4, 3) := by decide +kernel
theorem dX10_heaviness_28 : decode cX10_heaviness 28 = .ok (.iconst (-1), 1) := by decide +kernel
theorem dX10_heaviness_29 : decode cX10_heaviness 29 = .ok (.ireturn, 1) := by decide +kernel
theorem bX10_heaviness_0 {d : Nat} {P : Int → q_Mem → Prop} {M : q_Mem} (x1 x2 : Int) (h : (0 ≤ x1 ∧ x1 < (16 : Int)) ∧ (q_kd (q_lay 99 (Int.toNat x1)) = 14 ∧ (0 ≤ x2 ∧ x2 < (q_ln (q_lay 99 (Int.toNat x1)) : Int)) ∧ ((((536870912 : Int) ≤ (M (q_lay 99 (Int.toNat x1)) x2)) → P (-1) M) ∧ ((¬ ((536870912 : Int) ≤ (M (q_lay 99 (Int.toNat x1)) x2))) → (0 ≤ x1 ∧ x1 < (16 : Int)) ∧ ((0 ≤ x2 ∧ x2 < (q_ln (q_lay 99 (Int.toNat x1)) : Int)) ∧ (P (q_div (M (q_lay 99 (Int.toNat x1)) x2) 1024) M)))))) : q_v mX10_heaviness d (qPI P) M 0 [some (qR 98), some (qI x1), some (qI x2)] [] := by
  refine qr_aload_n 0 1 rfl (x := 98) rfl dX10_heaviness_0 ?_
  refine qr_getF 1 4 rfl ck10 0 (by decide) (b := 99) (by decide +kernel) rfl (by decide +kernel) (by decide +kernel) wm_262 rfl dX10_heaviness_1 ?_
  refine qr_iload_n 4 5 rfl (x := x1) rfl dX10_heaviness_4 ?_
  have hb1 := h.1
  have h := h.2
  refine qa_ld 5 6 rfl (N := 16) (by decide +kernel) (by decide +kernel) hb1.1 hb1.2 dX10_heaviness_5 ?_
  refine qr_iload_n 6 7 rfl (x := x2) rfl dX10_heaviness_6 ?_
  have hk2 := h.1
  have h := h.2
  have hb3 := h.1
  have h := h.2
  refine qi_ld 7 8 rfl hk2 rfl hb3.1 hb3.2 dX10_heaviness_7 ?_
  refine qr_ldc 8 10 rfl (v := 536870912) (q_l32 _ rfl) wm_832 dX10_heaviness_8 ?_
  refine qr_icmp_ge 10 13 28 rfl (by decide) dX10_heaviness_10 (fun c10 => ?_) (fun c10 => ?_)
  · have h := h.1 c10
    refine qr_iconst 28 29 rfl (q_l32 _ rfl) dX10_heaviness_28 ?_
    exact qe_i 29 rfl dX10_heaviness_29 h
  · have h := h.2 c10
    refine qr_aload_n 13 14 rfl (x := 98) rfl dX10_heaviness_13 ?_
    refine qr_getF 14 17 rfl ck10 0 (by decide) (b := 99) (by decide +kernel) rfl (by decide +kernel) (by decide +kernel) wm_262 rfl dX10_heaviness_14 ?_
    refine qr_iload_n 17 18 rfl (x := x1) rfl dX10_heaviness_17 ?_
    have hb4 := h.1
    have h := h.2
    refine qa_ld 18 19 rfl (N := 16) (by decide +kernel) (by decide +kernel) hb4.1 hb4.2 dX10_heaviness_18 ?_
    refine qr_iload_n 19 20 rfl (x := x2) rfl dX10_heaviness_19 ?_
    have hb5 := h.1
    have h := h.2
    refine qi_ld 20 21 rfl hk2 rfl hb5.1 hb5.2 dX10_heaviness_20 ?_
    refine qr_sipush 21 24 rfl (q_l32 _ rfl) (by decide) dX10_heaviness_21 ?_
    refine qr_idiv 24 25 rfl (by decide) dX10_heaviness_24 ?_
    refine qr_goto 25 29 (by decide) dX10_heaviness_25 ?_
    exact qe_i 29 rfl dX10_heaviness_29 h
theorem dX10_firstLink_0 : decode cX10_firstLink 0 = .ok (.iload_n 2, 1) := by decide +kernel
theorem dX10_firstLink_1 : decode cX10_firstLink 1 = .ok (.iload_n 3, 1) := by decide +kernel
theorem dX10_firstLink_2 : decode cX10_firstLink 2 = .ok (.if_icmp .eq 16, 3) := by decide +kernel
theorem dX10_firstLink_5 : decode cX10_firstLink 5 = .ok (.aload_n 0, 1) := by decide +kernel
theorem dX10_firstLink_6 : decode cX10_firstLink 6 = .ok (.getfield 11, 3) := by decide +kernel
theorem dX10_firstLink_9 : decode cX10_firstLink 9 = .ok (.iload_n 2, 1) := by decide +kernel
theorem dX10_firstLink_10 : decode cX10_firstLink 10 = .ok (.aaload, 1) := by decide +kernel
theorem dX10_firstLink_11 : decode cX10_firstLink 11 = .ok (.iload_n 3, 1) := by decide +kernel
theorem dX10_firstLink_12 : decode cX10_firstLink 12 = .ok (.iaload, 1) := by decide +kernel
theorem dX10_firstLink_13 : decode cX10_firstLink 13 = .ok (.ldc 29, 2) := by decide +kernel
theorem dX10_firstLink_15 : decode cX10_firstLink 15 = .ok (.if_icmp .lt 5, 3) := by decide +kernel
theorem dX10_firstLink_18 : decode cX10_firstLink 18 = .ok (.iconst (-1), 1) := by decide +kernel
theorem dX10_firstLink_19 : decode cX10_firstLink 19 = .ok (.ireturn, 1) := by decide +kernel
theorem dX10_firstLink_20 : decode cX10_firstLink 20 = .ok (.iconst 0, 1) := by decide +kernel
theorem dX10_firstLink_21 : decode cX10_firstLink 21 = .ok (.istore 4, 2) := by decide +kernel
theorem dX10_firstLink_23 : decode cX10_firstLink 23 = .ok (.iload 4, 2) := by decide +kernel
theorem dX10_firstLink_25 : decode cX10_firstLink 25 = .ok (.aload_n 0, 1) := by decide +kernel
theorem dX10_firstLink_26 : decode cX10_firstLink 26 = .ok (.getfield 20, 3) := by decide +kernel
theorem dX10_firstLink_29 : decode cX10_firstLink 29 = .ok (.if_icmp .ge 55, 3) := by decide +kernel
theorem dX10_firstLink_32 : decode cX10_firstLink 32 = .ok (.aload_n 1, 1) := by decide +kernel
theorem dX10_firstLink_33 : decode cX10_firstLink 33 = .ok (.iload 4, 2) := by decide +kernel
theorem dX10_firstLink_35 : decode cX10_firstLink 35 = .ok (.iload_n 2, 1) := by decide +kernel
theorem dX10_firstLink_36 : decode cX10_firstLink 36 = .ok (.invokevirtual 53, 3) := by decide +kernel
theorem dX10_firstLink_39 : decode cX10_firstLink 39 = .ok (.istore 5, 2) := by decide +kernel
theorem dX10_firstLink_41 : decode cX10_firstLink 41 = .ok (.iload 5, 2) := by decide +kernel
theorem dX10_firstLink_43 : decode cX10_firstLink 43 = .ok (.iconst (-1), 1) := by decide +kernel
theorem dX10_firstLink_44 : decode cX10_firstLink 44 = .ok (.if_icmp .eq 34, 3) := by decide +kernel
theorem dX10_firstLink_47 : decode cX10_firstLink 47 = .ok (.aload_n 0, 1) := by decide +kernel
theorem dX10_firstLink_48 : decode cX10_firstLink 48 = .ok (.getfield 16, 3) := by decide +kernel
theorem dX10_firstLink_51 : decode cX10_firstLink 51 = .ok (.iload 4, 2) := by decide +kernel
theorem dX10_firstLink_53 : decode cX10_firstLink 53 = .ok (.iaload, 1) := by decide +kernel
theorem dX10_firstLink_54 : decode cX10_firstLink 54 = .ok (.aload_n 0, 1) := by decide +kernel
theorem dX10_firstLink_55 : decode cX10_firstLink 55 = .ok (.getfield 11, 3) := by decide +kernel
theorem dX10_firstLink_58 : decode cX10_firstLink 58 = .ok (.iload 5, 2) := by decide +kernel
theorem dX10_firstLink_60 : decode cX10_firstLink 60 = .ok (.aaload, 1) := by decide +kernel
theorem dX10_firstLink_61 : decode cX10_firstLink 61 = .ok (.iload_n 3, 1) := by decide +kernel
theorem dX10_firstLink_62 : decode cX10_firstLink 62 = .ok (.iaload, 1) := by decide +kernel
theorem dX10_firstLink_63 : decode cX10_firstLink 63 = .ok (.iadd, 1) := by decide +kernel
theorem dX10_firstLink_64 : decode cX10_firstLink 64 = .ok (.aload_n 0, 1) := by decide +kernel
theorem dX10_firstLink_65 : decode cX10_firstLink 65 = .ok (.getfield 11, 3) := by decide +kernel
theorem dX10_firstLink_68 : decode cX10_firstLink 68 = .ok (.iload_n 2, 1) := by decide +kernel
theorem dX10_firstLink_69 : decode cX10_firstLink 69 = .ok (.aaload, 1) := by decide +kernel
theorem dX10_firstLink_70 : decode cX10_firstLink 70 = .ok (.iload_n 3, 1) := by decide +kernel
theorem dX10_firstLink_71 : decode cX10_firstLink 71 = .ok (.iaload, 1) := by decide +kernel
theorem dX10_firstLink_72 : decode cX10_firstLink 72 = .ok (.if_icmp .ne 6, 3) := by decide +kernel
theorem dX10_firstLink_75 : decode cX10_firstLink 75 = .ok (.iload 4, 2) := by decide +kernel
theorem dX10_firstLink_77 : decode cX10_firstLink 77 = .ok (.ireturn, 1) := by decide +kernel
theorem dX10_firstLink_78 : decode cX10_firstLink 78 = .ok (.iinc 4 1, 3) := by decide +kernel
theorem dX10_firstLink_81 : decode cX10_firstLink 81 = .ok (.goto (-58), 3) := by decide +kernel
theorem dX10_firstLink_84 : decode cX10_firstLink 84 = .ok (.iconst (-1), 1) := by decide +kernel
theorem dX10_firstLink_85 : decode cX10_firstLink 85 = .ok (.ireturn, 1) := by decide +kernel
theorem bX10_firstLink_0 {d : Nat} {P : Int → q_Mem → Prop} {M : q_Mem} (x1 x2 x3 : Int) (k1 : q_kd x1 = 6) (h : ((x2 = x3) → P (-1) M) ∧ ((¬ (x2 = x3)) → (0 ≤ x2 ∧ x2 < (16 : Int)) ∧ (q_kd (q_lay 99 (Int.toNat x2)) = 14 ∧ (0 ≤ x3 ∧ x3 < (q_ln (q_lay 99 (Int.toNat x2)) : Int)) ∧ ((((M (q_lay 99 (Int.toNat x2)) x3) < (536870912 : Int)) → q_v mX10_firstLink d (qPI P) M 23 [some (qR 98), some (qR x1), some (qI x2), some (qI x3), some (qI 0), none] []) ∧ ((¬ ((M (q_lay 99 (Int.toNat x2)) x3) < (536870912 : Int))) → P (-1) M))))) : q_v mX10_firstLink d (qPI P) M 0 [some (qR 98), some (qR x1), some (qI x2), some (qI x3), none, none] [] := by
  refine qr_iload_n 0 1 rfl (x := x2) rfl dX10_firstLink_0 ?_
  refine qr_iload_n 1 2 rfl (x := x3) rfl dX10_firstLink_1 ?_
  refine qr_icmp_eq 2 5 18 rfl (by decide) dX10_firstLink_2 (fun c2 => ?_) (fun c2 => ?_)
  · have h := h.1 c2
    refine qr_iconst 18 19 rfl (q_l32 _ rfl) dX10_firstLink_18 ?_
    exact qe_i 19 rfl dX10_firstLink_19 h
  · have h := h.2 c2
    refine qr_aload_n 5 6 rfl (x := 98) rfl dX10_firstLink_5 ?_
    refine qr_getF 6 9 rfl ck10 0 (by decide) (b := 99) (by decide +kernel) rfl (by decide +kernel) (by decide +kernel) wm_262 rfl dX10_firstLink_6 ?_
    refine qr_iload_n 9 10 rfl (x := x2) rfl dX10_firstLink_9 ?_
    have hb1 := h.1
    have h := h.2
    refine qa_ld 10 11 rfl (N := 16) (by decide +kernel) (by decide +kernel) hb1.1 hb1.2 dX10_firstLink_10 ?_
    refine qr_iload_n 11 12 rfl (x := x3) rfl dX10_firstLink_11 ?_
    have hk2 := h.1
    have h := h.2
    have hb3 := h.1
    have h := h.2
    refine qi_ld 12 13 rfl hk2 rfl hb3.1 hb3.2 dX10_firstLink_12 ?_
    refine qr_ldc 13 15 rfl (v := 536870912) (q_l32 _ rfl) wm_832 dX10_firstLink_13 ?_
    refine qr_icmp_lt 15 18 20 rfl (by decide) dX10_firstLink_15 (fun c15 => ?_) (fun c15 => ?_)
    · have h := h.1 c15
      refine qr_iconst 20 21 rfl (q_l32 _ rfl) dX10_firstLink_20 ?_
      refine qr_istore 21 23 rfl (by decide) rfl rfl dX10_firstLink_21 ?_
      exact h
    · have h := h.2 c15
      refine qr_iconst 18 19 rfl (q_l32 _ rfl) dX10_firstLink_18 ?_
      exact qe_i 19 rfl dX10_firstLink_19 h
theorem bX10_firstLink_23 {d : Nat} {P : Int → q_Mem → Prop} {M : q_Mem} (x1 x2 x3 x4 : Int) (k1 : q_kd x1 = 6) (h : (((M 98 2) ≤ x4) → P (-1) M) ∧ ((¬ ((M 98 2) ≤ x4)) → q_kI yX6_beyond mX6_beyond d [qR x1, qI x4, qI x2] M (fun v2 M1 => ((v2 = ((-1) : Int)) → q_v mX10_firstLink d (qPI P) M1 23 [some (qR 98), some (qR x1), some (qI x2), some (qI x3), some (qI (q_add x4 1)), none] []) ∧ ((¬ (v2 = ((-1) : Int))) → (0 ≤ x4 ∧ x4 < (16 : Int)) ∧ ((0 ≤ v2 ∧ v2 < (16 : Int)) ∧ (q_kd (q_lay 99 (Int.toNat v2)) = 14 ∧ (0 ≤ x3 ∧ x3 < (q_ln (q_lay 99 (Int.toNat v2)) : Int)) ∧ ((0 ≤ x2 ∧ x2 < (16 : Int)) ∧ (q_kd (q_lay 99 (Int.toNat x2)) = 14 ∧ (0 ≤ x3 ∧ x3 < (q_ln (q_lay 99 (Int.toNat x2)) : Int)) ∧ (((¬ (q_add (M1 116 x4) (M1 (q_lay 99 (Int.toNat v2)) x3)) = (M1 (q_lay 99 (Int.toNat x2)) x3)) → q_v mX10_firstLink d (qPI P) M1 23 [some (qR 98), some (qR x1), some (qI x2), some (qI x3), some (qI (q_add x4 1)), none] []) ∧ (((q_add (M1 116 x4) (M1 (q_lay 99 (Int.toNat v2)) x3)) = (M1 (q_lay 99 (Int.toNat x2)) x3)) → P x4 M1)))))))))) : q_v mX10_firstLink d (qPI P) M 23 [some (qR 98), some (qR x1), some (qI x2), some (qI x3), some (qI x4), none] [] := by
  refine qr_iload 23 25 rfl (x := x4) rfl dX10_firstLink_23 ?_
  refine qr_aload_n 25 26 rfl (x := 98) rfl dX10_firstLink_25 ?_
  refine qg_i 26 29 rfl ck10 2 (kk := 2) (by decide) (by decide +kernel) (by decide +kernel) rfl wm_265 rfl dX10_firstLink_26 ?_
  refine qr_icmp_ge 29 32 84 rfl (by decide) dX10_firstLink_29 (fun c29 => ?_) (fun c29 => ?_)
  · have h := h.1 c29
    refine qr_iconst 84 85 rfl (q_l32 _ rfl) dX10_firstLink_84 ?_
    exact qe_i 85 rfl dX10_firstLink_85 h
  · have h := h.2 c29
    refine qr_aload_n 32 33 rfl (x := x1) rfl dX10_firstLink_32 ?_
    refine qr_iload 33 35 rfl (x := x4) rfl dX10_firstLink_33 ?_
    refine qr_iload_n 35 36 rfl (x := x2) rfl dX10_firstLink_35 ?_
    refine qw_I 36 39 rfl (av := [qI x4, qI x2]) ca_X6_beyond wm_887 wm_888 wm_886 ck6 k1 rfl rfl (Nat.le_of_ble_eq_true rfl) dX10_firstLink_36 h (fun v2 M1 h => ?_)
    refine qr_istore 39 41 rfl (by decide) rfl rfl dX10_firstLink_39 ?_
    refine qr_iload 41 43 rfl (x := v2) rfl dX10_firstLink_41 ?_
    refine qr_iconst 43 44 rfl (q_l32 _ rfl) dX10_firstLink_43 ?_
    refine qr_icmp_eq 44 47 78 rfl (by decide) dX10_firstLink_44 (fun c44 => ?_) (fun c44 => ?_)
    · have h := h.1 c44
      refine qr_iinc 78 81 rfl (by decide) (x := x4) rfl rfl rfl dX10_firstLink_78 ?_
      refine qr_goto 81 23 (by decide) dX10_firstLink_81 ?_
      exact qr_cut 23 (ls' := [some (qR 98), some (qR x1), some (qI x2), some (qI x3), some (qI (q_add x4 1)), none]) (And.intro rfl (And.intro rfl (And.intro rfl (And.intro rfl (And.intro rfl trivial))))) h
    · have h := h.2 c44
      refine qr_aload_n 47 48 rfl (x := 98) rfl dX10_firstLink_47 ?_
      refine qr_getF 48 51 rfl ck10 1 (by decide) (b := 116) (by decide +kernel) rfl (by decide +kernel) (by decide +kernel) wm_264 rfl dX10_firstLink_48 ?_
      refine qr_iload 51 53 rfl (x := x4) rfl dX10_firstLink_51 ?_
      have hb3 := h.1
      have h := h.2
      refine qi_ld 53 54 rfl (N := 16) (by decide +kernel) (by decide +kernel) hb3.1 hb3.2 dX10_firstLink_53 ?_
      refine qr_aload_n 54 55 rfl (x := 98) rfl dX10_firstLink_54 ?_
      refine qr_getF 55 58 rfl ck10 0 (by decide) (b := 99) (by decide +kernel) rfl (by decide +kernel) (by decide +kernel) wm_262 rfl dX10_firstLink_55 ?_
      refine qr_iload 58 60 rfl (x := v2) rfl dX10_firstLink_58 ?_
      have hb4 := h.1
      have h := h.2
      refine qa_ld 60 61 rfl (N := 16) (by decide +kernel) (by decide +kernel) hb4.1 hb4.2 dX10_firstLink_60 ?_
      refine qr_iload_n 61 62 rfl (x := x3) rfl dX10_firstLink_61 ?_
      have hk5 := h.1
      have h := h.2
      have hb6 := h.1
      have h := h.2
      refine qi_ld 62 63 rfl hk5 rfl hb6.1 hb6.2 dX10_firstLink_62 ?_
      refine qr_iadd 63 64 rfl dX10_firstLink_63 ?_
      refine qr_aload_n 64 65 rfl (x := 98) rfl dX10_firstLink_64 ?_
      refine qr_getF 65 68 rfl ck10 0 (by decide) (b := 99) (by decide +kernel) rfl (by decide +kernel) (by decide +kernel) wm_262 rfl dX10_firstLink_65 ?_
      refine qr_iload_n 68 69 rfl (x := x2) rfl dX10_firstLink_68 ?_
      have hb7 := h.1
      have h := h.2
      refine qa_ld 69 70 rfl (N := 16) (by decide +kernel) (by decide +kernel) hb7.1 hb7.2 dX10_firstLink_69 ?_
      refine qr_iload_n 70 71 rfl (x := x3) rfl dX10_firstLink_70 ?_
      have hk8 := h.1
      have h := h.2
      have hb9 := h.1
      have h := h.2
      refine qi_ld 71 72 rfl hk8 rfl hb9.1 hb9.2 dX10_firstLink_71 ?_
      refine qr_icmp_ne 72 75 78 rfl (by decide) dX10_firstLink_72 (fun c72 => ?_) (fun c72 => ?_)
      · have h := h.1 c72
        refine qr_iinc 78 81 rfl (by decide) (x := x4) rfl rfl rfl dX10_firstLink_78 ?_
        refine qr_goto 81 23 (by decide) dX10_firstLink_81 ?_
        exact qr_cut 23 (ls' := [some (qR 98), some (qR x1), some (qI x2), some (qI x3), some (qI (q_add x4 1)), none]) (And.intro rfl (And.intro rfl (And.intro rfl (And.intro rfl (And.intro rfl trivial))))) h
      · have h := h.2 c72
        refine qr_iload 75 77 rfl (x := x4) rfl dX10_firstLink_75 ?_
        exact qe_i 77 rfl dX10_firstLink_77 h
theorem dX10_crossed_0 : decode cX10_crossed 0 = .ok (.iload 4, 2) := by decide +kernel
theorem dX10_crossed_2 : decode cX10_crossed 2 = .ok (.bipush 16, 2) := by decide +kernel
theorem dX10_crossed_4 : decode cX10_crossed 4 = .ok (.if_icmp .lt 5, 3) := by decide +kernel
theorem dX10_crossed_7 : decode cX10_crossed 7 = .ok (.iconst (-1), 1) := by decide +kernel
theorem dX10_crossed_8 : decode cX10_crossed 8 = .ok (.ireturn, 1) := by decide +kernel
theorem dX10_crossed_9 : decode cX10_crossed 9 = .ok (.iload_n 2, 1) := by decide +kernel
theorem dX10_crossed_10 : decode cX10_crossed 10 = .ok (.istore 5, 2) := by decide +kernel
theorem dX10_crossed_12 : decode cX10_crossed 12 = .ok (.aload_n 0, 1) := by decide +kernel
theorem dX10_crossed_13 : decode cX10_crossed 13 = .ok (.aload_n 1, 1) := by decide +kernel
theorem dX10_crossed_14 : decode cX10_crossed 14 = .ok (.iload 5, 2) := by decide +kernel
theorem dX10_crossed_16 : decode cX10_crossed 16 = .ok (.iload_n 3, 1) := by decide +kernel
theorem dX10_crossed_17 : decode cX10_crossed 17 = .ok (.invokevirtual 56, 3) := by decide +kernel
theorem dX10_crossed_20 : decode cX10_crossed 20 = .ok (.istore 6, 2) := by decide +kernel
theorem dX10_crossed_22 : decode cX10_crossed 22 = .ok (.iconst 0, 1) := by decide +kernel
theorem dX10_crossed_23 : decode cX10_crossed 23 = .ok (.istore 7, 2) := by decide +kernel
theorem dX10_crossed_25 : decode cX10_crossed 25 = .ok (.iload 7, 2) := by decide +kernel
theorem dX10_crossed_27 : decode cX10_crossed 27 = .ok (.iload 4, 2) := by decide +kernel
theorem dX10_crossed_29 : decode cX10_crossed 29 = .ok (.if_icmp .ge 35, 3) := by decide +kernel
theorem dX10_crossed_32 : decode cX10_crossed 32 = .ok (.iload 6, 2) := by decide +kernel
theorem dX10_crossed_34 : decode cX10_crossed 34 = .ok (.iconst (-1), 1) := by decide +kernel
theorem dX10_crossed_35 : decode cX10_crossed 35 = .ok (.if_icmp .eq 29, 3) := by decide +kernel
theorem dX10_crossed_38 : decode cX10_crossed 38 = .ok (.aload_n 1, 1) := by decide +kernel
theorem dX10_crossed_39 : decode cX10_crossed 39 = .ok (.iload 6, 2) := by decide +kernel
theorem dX10_crossed_41 : decode cX10_crossed 41 = .ok (.iload 5, 2) := by decide +kernel
theorem dX10_crossed_43 : decode cX10_crossed 43 = .ok (.invokevirtual 53, 3) := by decide +kernel
theorem dX10_crossed_46 : decode cX10_crossed 46 = .ok (.istore 5, 2) := by decide +kernel
theorem dX10_crossed_48 : decode cX10_crossed 48 = .ok (.aload_n 0, 1) := by decide +kernel
theorem dX10_crossed_49 : decode cX10_crossed 49 = .ok (.aload_n 1, 1) := by decide +kernel
theorem dX10_crossed_50 : decode cX10_crossed 50 = .ok (.iload 5, 2) := by decide +kernel
theorem dX10_crossed_52 : decode cX10_crossed 52 = .ok (.iload_n 3, 1) := by decide +kernel
theorem dX10_crossed_53 : decode cX10_crossed 53 = .ok (.invokevirtual 56, 3) := by decide +kernel
theorem dX10_crossed_56 : decode cX10_crossed 56 = .ok (.istore 6, 2) := by decide +kernel
theorem dX10_crossed_58 : decode cX10_crossed 58 = .ok (.iinc 7 1, 3) := by decide +kernel
theorem dX10_crossed_61 : decode cX10_crossed 61 = .ok (.goto (-36), 3) := by decide +kernel
theorem dX10_crossed_64 : decode cX10_crossed 64 = .ok (.iload 6, 2) := by decide +kernel
theorem dX10_crossed_66 : decode cX10_crossed 66 = .ok (.ireturn, 1) := by decide +kernel
theorem bX10_crossed_0 {d : Nat} {P : Int → q_Mem → Prop} {M : q_Mem} (x1 x2 x3 x4 : Int) (k1 : q_kd x1 = 6) (h : ((x4 < (16 : Int)) → q_kI yX10_firstLink mX10_firstLink d [qR 98, qR x1, qI x2, qI x3] M (fun v2 M1 => q_v mX10_crossed d (qPI P) M1 25 [some (qR 98), some (qR x1), none, some (qI x3), some (qI x4), some (qI x2), some (qI v2), some (qI 0)] [])) ∧ ((¬ (x4 < (16 : Int))) → P (-1) M)) : q_v mX10_crossed d (qPI P) M 0 [some (qR 98), some (qR x1), some (qI x2), some (qI x3), some (qI x4), none, none, none] [] := by
  refine qr_iload 0 2 rfl (x := x4) rfl dX10_crossed_0 ?_
  refine qr_bipush 2 4 rfl (q_l32 _ rfl) (by decide) dX10_crossed_2 ?_
  refine qr_icmp_lt 4 7 9 rfl (by decide) dX10_crossed_4 (fun c4 => ?_) (fun c4 => ?_)
  · have h := h.1 c4
    refine qr_iload_n 9 10 rfl (x := x2) rfl dX10_crossed_9 ?_
    refine qr_istore 10 12 rfl (by decide) rfl rfl dX10_crossed_10 ?_
    refine qr_aload_n 12 13 rfl (x := 98) rfl dX10_crossed_12 ?_
    refine qr_aload_n 13 14 rfl (x := x1) rfl dX10_crossed_13 ?_
    refine qr_iload 14 16 rfl (x := x2) rfl dX10_crossed_14 ?_
    refine qr_iload_n 16 17 rfl (x := x3) rfl dX10_crossed_16 ?_
    refine qw_I 17 20 rfl (av := [qR x1, qI x2, qI x3]) ca_X10_firstLink wm_884 wp_43 wm_882 ck10 (by decide +kernel) rfl rfl (Nat.le_of_ble_eq_true rfl) dX10_crossed_17 h (fun v2 M1 h => ?_)
    refine qr_istore 20 22 rfl (by decide) rfl rfl dX10_crossed_20 ?_
    refine qr_iconst 22 23 rfl (q_l32 _ rfl) dX10_crossed_22 ?_
    refine qr_istore 23 25 rfl (by decide) rfl rfl dX10_crossed_23 ?_
    exact qr_cut 25 (ls' := [some (qR 98), some (qR x1), none, some (qI x3), some (qI x4), some (qI x2), some (qI v2), some (qI 0)]) (And.intro rfl (And.intro rfl (And.intro rfl (And.intro rfl (And.intro rfl (And.intro rfl (And.intro rfl trivial))))))) h
  · have h := h.2 c4
    refine qr_iconst 7 8 rfl (q_l32 _ rfl) dX10_crossed_7 ?_
    exact qe_i 8 rfl dX10_crossed_8 h
theorem bX10_crossed_25 {d : Nat} {P : Int → q_Mem → Prop} {M : q_Mem} (x1 x3 x4 x5 x6 x7 : Int) (k1 : q_kd x1 = 6) (h : ((x4 ≤ x7) → P x6 M) ∧ ((¬ (x4 ≤ x7)) → ((x6 = ((-1) : Int)) → P x6 M) ∧ ((¬ (x6 = ((-1) : Int))) → q_kI yX6_beyond mX6_beyond d [qR x1, qI x6, qI x5] M (fun v2 M1 => q_kI yX10_firstLink mX10_firstLink d [qR 98, qR x1, qI v2, qI x3] M1 (fun v4 M3 => q_v mX10_crossed d (qPI P) M3 25 [some (qR 98), some (qR x1), none, some (qI x3), some (qI x4), some (qI v2), some (qI v4), some (qI (q_add x7 1))] []))))) : q_v mX10_crossed d (qPI P) M 25 [some (qR 98), some (qR x1), none, some (qI x3), some (qI x4), some (qI x5), some (qI x6), some (qI x7)] [] := by
  refine qr_iload 25 27 rfl (x := x7) rfl dX10_crossed_25 ?_
  refine qr_iload 27 29 rfl (x := x4) rfl dX10_crossed_27 ?_
  refine qr_icmp_ge 29 32 64 rfl (by decide) dX10_crossed_29 (fun c29 => ?_) (fun c29 => ?_)
  · have h := h.1 c29
    refine qr_iload 64 66 rfl (x := x6) rfl dX10_crossed_64 ?_
    exact qe_i 66 rfl dX10_crossed_66 h
  · have h := h.2 c29
    refine qr_iload 32 34 rfl (x := x6) rfl dX10_crossed_32 ?_
    refine qr_iconst 34 35 rfl (q_l32 _ rfl) dX10_crossed_34 ?_
    refine qr_icmp_eq 35 38 64 rfl (by decide) dX10_crossed_35 (fun c35 => ?_) (fun c35 => ?_)
    · have h := h.1 c35
      refine qr_iload 64 66 rfl (x := x6) rfl dX10_crossed_64 ?_
      exact qe_i 66 rfl dX10_crossed_66 h
    · have h := h.2 c35
      refine qr_aload_n 38 39 rfl (x := x1) rfl dX10_crossed_38 ?_
      refine qr_iload 39 41 rfl (x := x6) rfl dX10_crossed_39 ?_
      refine qr_iload 41 43 rfl (x := x5) rfl dX10_crossed_41 ?_
      refine qw_I 43 46 rfl (av := [qI x6, qI x5]) ca_X6_beyond wm_887 wm_888 wm_886 ck6 k1 rfl rfl (Nat.le_of_ble_eq_true rfl) dX10_crossed_43 h (fun v2 M1 h => ?_)
      refine qr_istore 46 48 rfl (by decide) rfl rfl dX10_crossed_46 ?_
      refine qr_aload_n 48 49 rfl (x := 98) rfl dX10_crossed_48 ?_
      refine qr_aload_n 49 50 rfl (x := x1) rfl dX10_crossed_49 ?_
      refine qr_iload 50 52 rfl (x := v2) rfl dX10_crossed_50 ?_
      refine qr_iload_n 52 53 rfl (x := x3) rfl dX10_crossed_52 ?_
      refine qw_I 53 56 rfl (av := [qR x1, qI v2, qI x3]) ca_X10_firstLink wm_884 wp_43 wm_882 ck10 (by decide +kernel) rfl rfl (Nat.le_of_ble_eq_true rfl) dX10_crossed_53 h (fun v4 M3 h => ?_)
      refine qr_istore 56 58 rfl (by decide) rfl rfl dX10_crossed_56 ?_
      refine qr_iinc 58 61 rfl (by decide) (x := x7) rfl rfl rfl dX10_crossed_58 ?_
      refine qr_goto 61 25 (by decide) dX10_crossed_61 ?_
      exact h
theorem dX10_crossedBits_0 : decode cX10_crossedBits 0 = .ok (.iconst 0, 1) := by decide +kernel
theorem dX10_crossedBits_1 : decode cX10_crossedBits 1 = .ok (.istore 4, 2) := by decide +kernel
theorem dX10_crossedBits_3 : decode cX10_crossedBits 3 = .ok (.iload_n 2, 1) := by decide +kernel
theorem dX10_crossedBits_4 : decode cX10_crossedBits 4 = .ok (.istore 5, 2) := by decide +kernel
theorem dX10_crossedBits_6 : decode cX10_crossedBits 6 = .ok (.iconst 0, 1) := by decide +kernel
theorem dX10_crossedBits_7 : decode cX10_crossedBits 7 = .ok (.istore 6, 2) := by decide +kernel
theorem dX10_crossedBits_9 : decode cX10_crossedBits 9 = .ok (.iload 6, 2) := by decide +kernel
theorem dX10_crossedBits_11 : decode cX10_crossedBits 11 = .ok (.bipush 16, 2) := by decide +kernel
theorem dX10_crossedBits_13 : decode cX10_crossedBits 13 = .ok (.if_icmp .ge 53, 3) := by decide +kernel
theorem dX10_crossedBits_16 : decode cX10_crossedBits 16 = .ok (.iload 5, 2) := by decide +kernel
theorem dX10_crossedBits_18 : decode cX10_crossedBits 18 = .ok (.iload_n 3, 1) := by decide +kernel
theorem dX10_crossedBits_19 : decode cX10_crossedBits 19 = .ok (.if_icmp .eq 47, 3) := by decide +kernel
theorem dX10_crossedBits_22 : decode cX10_crossedBits 22 = .ok (.aload_n 0, 1) := by decide +kernel
theorem dX10_crossedBits_23 : decode cX10_crossedBits 23 = .ok (.aload_n 1, 1) := by decide +kernel
theorem dX10_crossedBits_24 : decode cX10_crossedBits 24 = .ok (.iload 5, 2) := by decide +kernel
theorem dX10_crossedBits_26 : decode cX10_crossedBits 26 = .ok (.iload_n 3, 1) := by decide +kernel
theorem dX10_crossedBits_27 : decode cX10_crossedBits 27 = .ok (.invokevirtual 56, 3) := by decide +kernel
theorem dX10_crossedBits_30 : decode cX10_crossedBits 30 = .ok (.istore 7, 2) := by decide +kernel
theorem dX10_crossedBits_32 : decode cX10_crossedBits 32 = .ok (.iload 7, 2) := by decide +kernel
theorem dX10_crossedBits_34 : decode cX10_crossedBits 34 = .ok (.iconst (-1), 1) := by decide +kernel
theorem dX10_crossedBits_35 : decode cX10_crossedBits 35 = .ok (.if_icmp .ne 6, 3) := by decide +kernel
theorem dX10_crossedBits_38 : decode cX10_crossedBits 38 = .ok (.goto 28, 3) := by decide +kernel
theorem dX10_crossedBits_41 : decode cX10_crossedBits 41 = .ok (.iload 4, 2) := by decide +kernel
theorem dX10_crossedBits_43 : decode cX10_crossedBits 43 = .ok (.iconst 1, 1) := by decide +kernel
theorem dX10_crossedBits_44 : decode cX10_crossedBits 44 = .ok (.iload 7, 2) := by decide +kernel
theorem dX10_crossedBits_46 : decode cX10_crossedBits 46 = .ok (.ishl, 1) := by decide +kernel
theorem dX10_crossedBits_47 : decode cX10_crossedBits 47 = .ok (.ior, 1) := by decide +kernel
theorem dX10_crossedBits_48 : decode cX10_crossedBits 48 = .ok (.istore 4, 2) := by decide +kernel
theorem dX10_crossedBits_50 : decode cX10_crossedBits 50 = .ok (.aload_n 1, 1) := by decide +kernel
theorem dX10_crossedBits_51 : decode cX10_crossedBits 51 = .ok (.iload 7, 2) := by decide +kernel
theorem dX10_crossedBits_53 : decode cX10_crossedBits 53 = .ok (.iload 5, 2) := by decide +kernel
theorem dX10_crossedBits_55 : decode cX10_crossedBits 55 = .ok (.invokevirtual 53, 3) := by decide +kernel
theorem dX10_crossedBits_58 : decode cX10_crossedBits 58 = .ok (.istore 5, 2) := by decide +kernel
theorem dX10_crossedBits_60 : decode cX10_crossedBits 60 = .ok (.iinc 6 1, 3) := by decide +kernel
theorem dX10_crossedBits_63 : decode cX10_crossedBits 63 = .ok (.goto (-54), 3) := by decide +kernel
theorem dX10_crossedBits_66 : decode cX10_crossedBits 66 = .ok (.iload 4, 2) := by decide +kernel
theorem dX10_crossedBits_68 : decode cX10_crossedBits 68 = .ok (.ireturn, 1) := by decide +kernel
theorem bX10_crossedBits_0 {d : Nat} {P : Int → q_Mem → Prop} {M : q_Mem} (x1 x2 x3 : Int) (k1 : q_kd x1 = 6) (h : q_v mX10_crossedBits d (qPI P) M 9 [some (qR 98), some (qR x1), none, some (qI x3), some (qI 0), some (qI x2), some (qI 0), none] []) : q_v mX10_crossedBits d (qPI P) M 0 [some (qR 98), some (qR x1), some (qI x2), some (qI x3), none, none, none, none] [] := by
  refine qr_iconst 0 1 rfl (q_l32 _ rfl) dX10_crossedBits_0 ?_
  refine qr_istore 1 3 rfl (by decide) rfl rfl dX10_crossedBits_1 ?_
  refine qr_iload_n 3 4 rfl (x := x2) rfl dX10_crossedBits_3 ?_
  refine qr_istore 4 6 rfl (by decide) rfl rfl dX10_crossedBits_4 ?_
  refine qr_iconst 6 7 rfl (q_l32 _ rfl) dX10_crossedBits_6 ?_
  refine qr_istore 7 9 rfl (by decide) rfl rfl dX10_crossedBits_7 ?_
  exact qr_cut 9 (ls' := [some (qR 98), some (qR x1), none, some (qI x3), some (qI 0), some (qI x2), some (qI 0), none]) (And.intro rfl (And.intro rfl (And.intro rfl (And.intro rfl (And.intro rfl (And.intro rfl trivial)))))) h
theorem bX10_crossedBits_9 {d : Nat} {P : Int → q_Mem → Prop} {M : q_Mem} (x1 x3 x4 x5 x6 : Int) (k1 : q_kd x1 = 6) (h : (((16 : Int) ≤ x6) → P x4 M) ∧ ((¬ ((16 : Int) ≤ x6)) → ((x5 = x3) → P x4 M) ∧ ((¬ (x5 = x3)) → q_kI yX10_firstLink mX10_firstLink d [qR 98, qR x1, qI x5, qI x3] M (fun v2 M1 => ((¬ v2 = ((-1) : Int)) → ∀ x4_3 : Int, x4_3 = (q_or x4 (q_shl 1 v2)) → q_kI yX6_beyond mX6_beyond d [qR x1, qI v2, qI x5] M1 (fun v5 M4 => q_v mX10_crossedBits d (qPI P) M4 9 [some (qR 98), some (qR x1), none, some (qI x3), some (qI x4_3), some (qI v5), some (qI (q_add x6 1)), none] [])) ∧ ((v2 = ((-1) : Int)) → P x4 M1))))) : q_v mX10_crossedBits d (qPI P) M 9 [some (qR 98), some (qR x1), none, some (qI x3), some (qI x4), some (qI x5), some (qI x6), none] [] := by
  refine qr_iload 9 11 rfl (x := x6) rfl dX10_crossedBits_9 ?_
  refine qr_bipush 11 13 rfl (q_l32 _ rfl) (by decide) dX10_crossedBits_11 ?_
  refine qr_icmp_ge 13 16 66 rfl (by decide) dX10_crossedBits_13 (fun c13 => ?_) (fun c13 => ?_)
  · have h := h.1 c13
    refine qr_iload 66 68 rfl (x := x4) rfl dX10_crossedBits_66 ?_
    exact qe_i 68 rfl dX10_crossedBits_68 h
  · have h := h.2 c13
    refine qr_iload 16 18 rfl (x := x5) rfl dX10_crossedBits_16 ?_
    refine qr_iload_n 18 19 rfl (x := x3) rfl dX10_crossedBits_18 ?_
    refine qr_icmp_eq 19 22 66 rfl (by decide) dX10_crossedBits_19 (fun c19 => ?_) (fun c19 => ?_)
    · have h := h.1 c19
      refine qr_iload 66 68 rfl (x := x4) rfl dX10_crossedBits_66 ?_
      exact qe_i 68 rfl dX10_crossedBits_68 h
    · have h := h.2 c19
      refine qr_aload_n 22 23 rfl (x := 98) rfl dX10_crossedBits_22 ?_
      refine qr_aload_n 23 24 rfl (x := x1) rfl dX10_crossedBits_23 ?_
      refine qr_iload 24 26 rfl (x := x5) rfl dX10_crossedBits_24 ?_
      refine qr_iload_n 26 27 rfl (x := x3) rfl dX10_crossedBits_26 ?_
      refine qw_I 27 30 rfl (av := [qR x1, qI x5, qI x3]) ca_X10_firstLink wm_884 wp_43 wm_882 ck10 (by decide +kernel) rfl rfl (Nat.le_of_ble_eq_true rfl) dX10_crossedBits_27 h (fun v2 M1 h => ?_)
      refine qr_istore 30 32 rfl (by decide) rfl rfl dX10_crossedBits_30 ?_
      refine qr_iload 32 34 rfl (x := v2) rfl dX10_crossedBits_32 ?_
      refine qr_iconst 34 35 rfl (q_l32 _ rfl) dX10_crossedBits_34 ?_
      refine qr_icmp_ne 35 38 41 rfl (by decide) dX10_crossedBits_35 (fun c35 => ?_) (fun c35 => ?_)
      · have h := h.1 c35
        refine qr_iload 41 43 rfl (x := x4) rfl dX10_crossedBits_41 ?_
        refine qr_iconst 43 44 rfl (q_l32 _ rfl) dX10_crossedBits_43 ?_
        refine qr_iload 44 46 rfl (x := v2) rfl dX10_crossedBits_44 ?_
        refine qr_ishl 46 47 rfl dX10_crossedBits_46 ?_
        refine qr_ior 47 48 rfl dX10_crossedBits_47 ?_
        refine qn_i 48 (fun x4_3 e_x4_3 => ?_)
        have h := h x4_3 e_x4_3
        refine qr_istore 48 50 rfl (by decide) rfl rfl dX10_crossedBits_48 ?_
        refine qr_aload_n 50 51 rfl (x := x1) rfl dX10_crossedBits_50 ?_
        refine qr_iload 51 53 rfl (x := v2) rfl dX10_crossedBits_51 ?_
        refine qr_iload 53 55 rfl (x := x5) rfl dX10_crossedBits_53 ?_
        refine qw_I 55 58 rfl (av := [qI v2, qI x5]) ca_X6_beyond wm_887 wm_888 wm_886 ck6 k1 rfl rfl (Nat.le_of_ble_eq_true rfl) dX10_crossedBits_55 h (fun v5 M4 h => ?_)
        refine qr_istore 58 60 rfl (by decide) rfl rfl dX10_crossedBits_58 ?_
        refine qr_iinc 60 63 rfl (by decide) (x := x6) rfl rfl rfl dX10_crossedBits_60 ?_
        refine qr_goto 63 9 (by decide) dX10_crossedBits_63 ?_
        exact qr_cut 9 (ls' := [some (qR 98), some (qR x1), none, some (qI x3), some (qI x4_3), some (qI v5), some (qI (q_add x6 1)), none]) (And.intro rfl (And.intro rfl (And.intro rfl (And.intro rfl (And.intro rfl (And.intro rfl trivial)))))) h
      · have h := h.2 c35
        refine qr_goto 38 66 (by decide) dX10_crossedBits_38 ?_
        refine qr_iload 66 68 rfl (x := x4) rfl dX10_crossedBits_66 ?_
        exact qe_i 68 rfl dX10_crossedBits_68 h
theorem dJ11_isValidCodePoint_9a6ad_0 : decode cJ11_isValidCodePoint_9a6ad 0 = .ok (.iload_n 0, 1) := by decide +kernel
theorem dJ11_isValidCodePoint_9a6ad_1 : decode cJ11_isValidCodePoint_9a6ad 1 = .ok (.bipush 16, 2) := by decide +kernel
theorem dJ11_isValidCodePoint_9a6ad_3 : decode cJ11_isValidCodePoint_9a6ad 3 = .ok (.iushr, 1) := by decide +kernel
theorem dJ11_isValidCodePoint_9a6ad_4 : decode cJ11_isValidCodePoint_9a6ad 4 = .ok (.istore_n 1, 1) := by decide +kernel
theorem dJ11_isValidCodePoint_9a6ad_5 : decode cJ11_isValidCodePoint_9a6ad 5 = .ok (.iload_n 1, 1) := by decide +kernel
theorem dJ11_isValidCodePoint_9a6ad_6 : decode cJ11_isValidCodePoint_9a6ad 6 = .ok (.bipush 17, 2) := by decide +kernel
theorem dJ11_isValidCodePoint_9a6ad_8 : decode cJ11_isValidCodePoint_9a6ad 8 = .ok (.if_icmp .ge 7, 3) := by decide +kernel
theorem dJ11_isValidCodePoint_9a6ad_11 : decode cJ11_isValidCodePoint_9a6ad 11 = .ok (.iconst 1, 1) := by decide +kernel
theorem dJ11_isValidCodePoint_9a6ad_12 : decode cJ11_isValidCodePoint_9a6ad 12 = .ok (.goto 4, 3) := by decide +kernel
theorem dJ11_isValidCodePoint_9a6ad_15 : decode cJ11_isValidCodePoint_9a6ad 15 = .ok (.iconst 0, 1) := by decide +kernel
theorem dJ11_isValidCodePoint_9a6ad_16 : decode cJ11_isValidCodePoint_9a6ad 16 = .ok (.ireturn, 1) := by decide +kernel
theorem bJ11_isValidCodePoint_9a6ad_0 {d : Nat} {P : Int → q_Mem → Prop} {M : q_Mem} (x0 : Int) (h : ∀ x1_1 : Int, x1_1 = (q_ushr x0 16) → (((17 : Int) ≤ x1_1) → P 0 M) ∧ ((¬ ((17 : Int) ≤ x1_1)) → P 1 M)) : q_v mJ11_isValidCodePoint_9a6ad d (qPI P) M 0 [some (qI x0), none] [] := by
  refine qr_iload_n 0 1 rfl (x := x0) rfl dJ11_isValidCodePoint_9a6ad_0 ?_
  refine qr_bipush 1 3 rfl (q_l32 _ rfl) (by decide) dJ11_isValidCodePoint_9a6ad_1 ?_
  refine qr_iushr 3 4 rfl dJ11_isValidCodePoint_9a6ad_3 ?_
  refine qn_i 4 (fun x1_1 e_x1_1 => ?_)
  have h := h x1_1 e_x1_1
  refine qr_istore_n 4 5 rfl (by decide) rfl rfl dJ11_isValidCodePoint_9a6ad_4 ?_
  refine qr_iload_n 5 6 rfl (x := x1_1) rfl dJ11_isValidCodePoint_9a6ad_5 ?_
  refine qr_bipush 6 8 rfl (q_l32 _ rfl) (by decide) dJ11_isValidCodePoint_9a6ad_6 ?_
  refine qr_icmp_ge 8 11 15 rfl (by decide) dJ11_isValidCodePoint_9a6ad_8 (fun c8 => ?_) (fun c8 => ?_)
  · have h := h.1 c8
    refine qr_iconst 15 16 rfl (q_l32 _ rfl) dJ11_isValidCodePoint_9a6ad_15 ?_
    exact qe_z 16 rfl (by decide) dJ11_isValidCodePoint_9a6ad_16 h
  · have h := h.2 c8
    refine qr_iconst 11 12 rfl (q_l32 _ rfl) dJ11_isValidCodePoint_9a6ad_11 ?_
    refine qr_goto 12 16 (by decide) dJ11_isValidCodePoint_9a6ad_12 ?_
    exact qe_z 16 rfl (by decide) dJ11_isValidCodePoint_9a6ad_16 h
theorem dJ11_highSurrogate_5068e_0 : decode cJ11_highSurrogate_5068e 0 = .ok (.iload_n 0, 1) := by decide +kernel
theorem dJ11_highSurrogate_5068e_1 : decode cJ11_highSurrogate_5068e 1 = .ok (.bipush 10, 2) := by decide +kernel
theorem dJ11_highSurrogate_5068e_3 : decode cJ11_highSurrogate_5068e 3 = .ok (.iushr, 1) := by decide +kernel
theorem dJ11_highSurrogate_5068e_4 : decode cJ11_highSurrogate_5068e 4 = .ok (.ldc 110, 2) := by decide +kernel
theorem dJ11_highSurrogate_5068e_6 : decode cJ11_highSurrogate_5068e 6 = .ok (.iadd, 1) := by decide +kernel
theorem dJ11_highSurrogate_5068e_7 : decode cJ11_highSurrogate_5068e 7 = .ok (.i2c, 1) := by decide +kernel
theorem dJ11_highSurrogate_5068e_8 : decode cJ11_highSurrogate_5068e 8 = .ok (.ireturn, 1) := by decide +kernel
theorem bJ11_highSurrogate_5068e_0 {d : Nat} {P : Int → q_Mem → Prop} {M : q_Mem} (x0 : Int) (h : (0 ≤ (q_i2c (q_add (q_ushr x0 10) 55232)) ∧ (q_i2c (q_add (q_ushr x0 10) 55232)) < 65536) ∧ P (q_i2c (q_add (q_ushr x0 10) 55232)) M) : q_v mJ11_highSurrogate_5068e d (qPI P) M 0 [some (qI x0)] [] := by
  refine qr_iload_n 0 1 rfl (x := x0) rfl dJ11_highSurrogate_5068e_0 ?_
  refine qr_bipush 1 3 rfl (q_l32 _ rfl) (by decide) dJ11_highSurrogate_5068e_1 ?_
  refine qr_iushr 3 4 rfl dJ11_highSurrogate_5068e_3 ?_
  refine qr_ldc 4 6 rfl (v := 55232) (q_l32 _ rfl) wm_570 dJ11_highSurrogate_5068e_4 ?_
  refine qr_iadd 6 7 rfl dJ11_highSurrogate_5068e_6 ?_
  refine qr_i2c 7 8 rfl dJ11_highSurrogate_5068e_7 ?_
  exact qe_c 8 rfl h.1 dJ11_highSurrogate_5068e_8 h.2
theorem dJ11_lowSurrogate_5068e_0 : decode cJ11_lowSurrogate_5068e 0 = .ok (.iload_n 0, 1) := by decide +kernel
theorem dJ11_lowSurrogate_5068e_1 : decode cJ11_lowSurrogate_5068e 1 = .ok (.sipush 1023, 3) := by decide +kernel
theorem dJ11_lowSurrogate_5068e_4 : decode cJ11_lowSurrogate_5068e 4 = .ok (.iand, 1) := by decide +kernel
theorem dJ11_lowSurrogate_5068e_5 : decode cJ11_lowSurrogate_5068e 5 = .ok (.ldc 76, 2) := by decide +kernel
theorem dJ11_lowSurrogate_5068e_7 : decode cJ11_lowSurrogate_5068e 7 = .ok (.iadd, 1) := by decide +kernel
theorem dJ11_lowSurrogate_5068e_8 : decode cJ11_lowSurrogate_5068e 8 = .ok (.i2c, 1) := by decide +kernel
theorem dJ11_lowSurrogate_5068e_9 : decode cJ11_lowSurrogate_5068e 9 = .ok (.ireturn, 1) := by decide +kernel
theorem bJ11_lowSurrogate_5068e_0 {d : Nat} {P : Int → q_Mem → Prop} {M : q_Mem} (x0 : Int) (h : (0 ≤ (q_i2c (q_add (q_and x0 1023) 56320)) ∧ (q_i2c (q_add (q_and x0 1023) 56320)) < 65536) ∧ P (q_i2c (q_add (q_and x0 1023) 56320)) M) : q_v mJ11_lowSurrogate_5068e d (qPI P) M 0 [some (qI x0)] [] := by
  refine qr_iload_n 0 1 rfl (x := x0) rfl dJ11_lowSurrogate_5068e_0 ?_
  refine qr_sipush 1 4 rfl (q_l32 _ rfl) (by decide) dJ11_lowSurrogate_5068e_1 ?_
  refine qr_iand 4 5 rfl dJ11_lowSurrogate_5068e_4 ?_
  refine qr_ldc 5 7 rfl (v := 56320) (q_l32 _ rfl) wm_574 dJ11_lowSurrogate_5068e_5 ?_
  refine qr_iadd 7 8 rfl dJ11_lowSurrogate_5068e_7 ?_
  refine qr_i2c 8 9 rfl dJ11_lowSurrogate_5068e_8 ?_
  exact qe_c 9 rfl h.1 dJ11_lowSurrogate_5068e_9 h.2
theorem dJ6_numberOfTrailingZeros_0f7a4_0 : decode cJ6_numberOfTrailingZeros_0f7a4 0 = .ok (.iload_n 0, 1) := by decide +kernel
theorem dJ6_numberOfTrailingZeros_0f7a4_1 : decode cJ6_numberOfTrailingZeros_0f7a4 1 = .ok (.iconst (-1), 1) := by decide +kernel
theorem dJ6_numberOfTrailingZeros_0f7a4_2 : decode cJ6_numberOfTrailingZeros_0f7a4 2 = .ok (.ixor, 1) := by decide +kernel
theorem dJ6_numberOfTrailingZeros_0f7a4_3 : decode cJ6_numberOfTrailingZeros_0f7a4 3 = .ok (.iload_n 0, 1) := by decide +kernel
theorem dJ6_numberOfTrailingZeros_0f7a4_4 : decode cJ6_numberOfTrailingZeros_0f7a4 4 = .ok (.iconst 1, 1) := by decide +kernel
theorem dJ6_numberOfTrailingZeros_0f7a4_5 : decode cJ6_numberOfTrailingZeros_0f7a4 5 = .ok (.isub, 1) := by decide +kernel
theorem dJ6_numberOfTrailingZeros_0f7a4_6 : decode cJ6_numberOfTrailingZeros_0f7a4 6 = .ok (.iand, 1) := by decide +kernel
theorem dJ6_numberOfTrailingZeros_0f7a4_7 : decode cJ6_numberOfTrailingZeros_0f7a4 7 = .ok (.istore_n 0, 1) := by decide +kernel
theorem dJ6_numberOfTrailingZeros_0f7a4_8 : decode cJ6_numberOfTrailingZeros_0f7a4 8 = .ok (.iload_n 0, 1) := by decide +kernel
theorem dJ6_numberOfTrailingZeros_0f7a4_9 : decode cJ6_numberOfTrailingZeros_0f7a4 9 = .ok (.ifCond .gt 8, 3) := by decide +kernel
theorem dJ6_numberOfTrailingZeros_0f7a4_12 : decode cJ6_numberOfTrailingZeros_0f7a4 12 = .ok (.iload_n 0, 1) := by decide +kernel
theorem dJ6_numberOfTrailingZeros_0f7a4_13 : decode cJ6_numberOfTrailingZeros_0f7a4 13 = .ok (.bipush 32, 2) := by decide +kernel
theorem dJ6_numberOfTrailingZeros_0f7a4_15 : decode cJ6_numberOfTrailingZeros_0f7a4 15 = .ok (.iand, 1) := by decide +kernel
theorem dJ6_numberOfTrailingZeros_0f7a4_16 : decode cJ6_numberOfTrailingZeros_0f7a4 16 = .ok (.ireturn, 1) := by decide +kernel
theorem dJ6_numberOfTrailingZeros_0f7a4_17 : decode cJ6_numberOfTrailingZeros_0f7a4 17 = .ok (.iconst 1, 1) := by decide +kernel
theorem dJ6_numberOfTrailingZeros_0f7a4_18 : decode cJ6_numberOfTrailingZeros_0f7a4 18 = .ok (.istore_n 1, 1) := by decide +kernel
theorem dJ6_numberOfTrailingZeros_0f7a4_19 : decode cJ6_numberOfTrailingZeros_0f7a4 19 = .ok (.iload_n 0, 1) := by decide +kernel
theorem dJ6_numberOfTrailingZeros_0f7a4_20 : decode cJ6_numberOfTrailingZeros_0f7a4 20 = .ok (.ldc_w 264, 3) := by decide +kernel
theorem dJ6_numberOfTrailingZeros_0f7a4_23 : decode cJ6_numberOfTrailingZeros_0f7a4 23 = .ok (.if_icmp .le 11, 3) := by decide +kernel
theorem dJ6_numberOfTrailingZeros_0f7a4_26 : decode cJ6_numberOfTrailingZeros_0f7a4 26 = .ok (.iinc 1 16, 3) := by decide +kernel
theorem dJ6_numberOfTrailingZeros_0f7a4_29 : decode cJ6_numberOfTrailingZeros_0f7a4 29 = .ok (.iload_n 0, 1) := by decide +kernel
theorem dJ6_numberOfTrailingZeros_0f7a4_30 : decode cJ6_numberOfTrailingZeros_0f7a4 30 = .ok (.bipush 16, 2) := by decide +kernel
theorem dJ6_numberOfTrailingZeros_0f7a4_32 : decode cJ6_numberOfTrailingZeros_0f7a4 32 = .ok (.iushr, 1) := by decide +kernel
theorem dJ6_numberOfTrailingZeros_0f7a4_33 : decode cJ6_numberOfTrailingZeros_0f7a4 33 = .ok (.istore_n 0, 1) := by decide +kernel
theorem dJ6_numberOfTrailingZeros_0f7a4_34 : decode cJ6_numberOfTrailingZeros_0f7a4 34 = .ok (.iload_n 0, 1) := by decide +kernel
theorem dJ6_numberOfTrailingZeros_0f7a4_35 : decode cJ6_numberOfTrailingZeros_0f7a4 35 = .ok (.sipush 256, 3) := by decide +kernel
theorem dJ6_numberOfTrailingZeros_0f7a4_38 : decode cJ6_numberOfTrailingZeros_0f7a4 38 = .ok (.if_icmp .le 11, 3) := by decide +kernel
theorem dJ6_numberOfTrailingZeros_0f7a4_41 : decode cJ6_numberOfTrailingZeros_0f7a4 41 = .ok (.iinc 1 8, 3) := by decide +kernel
theorem dJ6_numberOfTrailingZeros_0f7a4_44 : decode cJ6_numberOfTrailingZeros_0f7a4 44 = .ok (.iload_n 0, 1) := by decide +kernel
theorem dJ6_numberOfTrailingZeros_0f7a4_45 : decode cJ6_numberOfTrailingZeros_0f7a4 45 = .ok (.bipush 8, 2) := by decide +kernel
theorem dJ6_numberOfTrailingZeros_0f7a4_47 : decode cJ6_numberOfTrailingZeros_0f7a4 47 = .ok (.iushr, 1) := by decide +kernel
theorem dJ6_numberOfTrailingZeros_0f7a4_48 : decode cJ6_numberOfTrailingZeros_0f7a4 48 = .ok (.istore_n 0, 1) := by decide +kernel
theorem dJ6_numberOfTrailingZeros_0f7a4_49 : decode cJ6_numberOfTrailingZeros_0f7a4 49 = .ok (.iload_n 0, 1) := by decide +kernel
theorem dJ6_numberOfTrailingZeros_0f7a4_50 : decode cJ6_numberOfTrailingZeros_0f7a4 50 = .ok (.bipush 16, 2) := by decide +kernel
theorem dJ6_numberOfTrailingZeros_0f7a4_52 : decode cJ6_numberOfTrailingZeros_0f7a4 52 = .ok (.if_icmp .le 10, 3) := by decide +kernel
theorem dJ6_numberOfTrailingZeros_0f7a4_55 : decode cJ6_numberOfTrailingZeros_0f7a4 55 = .ok (.iinc 1 4, 3) := by decide +kernel
theorem dJ6_numberOfTrailingZeros_0f7a4_58 : decode cJ6_numberOfTrailingZeros_0f7a4 58 = .ok (.iload_n 0, 1) := by decide +kernel
theorem dJ6_numberOfTrailingZeros_0f7a4_59 : decode cJ6_numberOfTrailingZeros_0f7a4 59 = .ok (.iconst 4, 1) := by decide +kernel
theorem dJ6_numberOfTrailingZeros_0f7a4_60 : decode cJ6_numberOfTrailingZeros_0f7a4 60 = .ok (.iushr, 1) := by decide +kernel
theorem dJ6_numberOfTrailingZeros_0f7a4_61 : decode cJ6_numberOfTrailingZeros_0f7a4 61 = .ok (.istore_n 0, 1) := by decide +kernel
theorem dJ6_numberOfTrailingZeros_0f7a4_62 : decode cJ6_numberOfTrailingZeros_0f7a4 62 = .ok (.iload_n 0, 1) := by decide +kernel
theorem dJ6_numberOfTrailingZeros_0f7a4_63 : decode cJ6_numberOfTrailingZeros_0f7a4 63 = .ok (.iconst 4, 1) := by decide +kernel
theorem dJ6_numberOfTrailingZeros_0f7a4_64 : decode cJ6_numberOfTrailingZeros_0f7a4 64 = .ok (.if_icmp .le 10, 3) := by decide +kernel
theorem dJ6_numberOfTrailingZeros_0f7a4_67 : decode cJ6_numberOfTrailingZeros_0f7a4 67 = .ok (.iinc 1 2, 3) := by decide +kernel
theorem dJ6_numberOfTrailingZeros_0f7a4_70 : decode cJ6_numberOfTrailingZeros_0f7a4 70 = .ok (.iload_n 0, 1) := by decide +kernel
theorem dJ6_numberOfTrailingZeros_0f7a4_71 : decode cJ6_numberOfTrailingZeros_0f7a4 71 = .ok (.iconst 2, 1) := by decide +kernel
theorem dJ6_numberOfTrailingZeros_0f7a4_72 : decode cJ6_numberOfTrailingZeros_0f7a4 72 = .ok (.iushr, 1) := by decide +kernel
theorem dJ6_numberOfTrailingZeros_0f7a4_73 : decode cJ6_numberOfTrailingZeros_0f7a4 73 = .ok (.istore_n 0, 1) := by decide +kernel
theorem dJ6_numberOfTrailingZeros_0f7a4_74 : decode cJ6_numberOfTrailingZeros_0f7a4 74 = .ok (.iload_n 1, 1) := by decide +kernel
theorem dJ6_numberOfTrailingZeros_0f7a4_75 : decode cJ6_numberOfTrailingZeros_0f7a4 75 = .ok (.iload_n 0, 1) := by decide +kernel
theorem dJ6_numberOfTrailingZeros_0f7a4_76 : decode cJ6_numberOfTrailingZeros_0f7a4 76 = .ok (.iconst 1, 1) := by decide +kernel
theorem dJ6_numberOfTrailingZeros_0f7a4_77 : decode cJ6_numberOfTrailingZeros_0f7a4 77 = .ok (.iushr, 1) := by decide +kernel
theorem dJ6_numberOfTrailingZeros_0f7a4_78 : decode cJ6_numberOfTrailingZeros_0f7a4 78 = .ok (.iadd, 1) := by decide +kernel
theorem dJ6_numberOfTrailingZeros_0f7a4_79 : decode cJ6_numberOfTrailingZeros_0f7a4 79 = .ok (.ireturn, 1) := by decide +kernel
theorem bJ6_numberOfTrailingZeros_0f7a4_0 {d : Nat} {P : Int → q_Mem → Prop} {M : q_Mem} (x0 : Int) (h : ∀ x0_1 : Int, x0_1 = (q_and (q_xor x0 (-1)) (q_sub x0 1)) → ((0 < x0_1) → ((x0_1 ≤ (65536 : Int)) → q_v mJ6_numberOfTrailingZeros_0f7a4 d (qPI P) M 34 [some (qI x0_1), some (qI 1)] []) ∧ ((¬ (x0_1 ≤ (65536 : Int))) → ∀ x0_2 : Int, x0_2 = (q_ushr x0_1 16) → q_v mJ6_numberOfTrailingZeros_0f7a4 d (qPI P) M 34 [some (qI x0_2), some (qI (q_add 1 16))] [])) ∧ ((¬ (0 < x0_1)) → P (q_and x0_1 32) M)) : q_v mJ6_numberOfTrailingZeros_0f7a4 d (qPI P) M 0 [some (qI x0), none] [] := by
  refine qr_iload_n 0 1 rfl (x := x0) rfl dJ6_numberOfTrailingZeros_0f7a4_0 ?_
  refine qr_iconst 1 2 rfl (q_l32 _ rfl) dJ6_numberOfTrailingZeros_0f7a4_1 ?_
  refine qr_ixor 2 3 rfl dJ6_numberOfTrailingZeros_0f7a4_2 ?_
  refine qr_iload_n 3 4 rfl (x := x0) rfl dJ6_numberOfTrailingZeros_0f7a4_3 ?_
  refine qr_iconst 4 5 rfl (q_l32 _ rfl) dJ6_numberOfTrailingZeros_0f7a4_4 ?_
  refine qr_isub 5 6 rfl dJ6_numberOfTrailingZeros_0f7a4_5 ?_
  refine qr_iand 6 7 rfl dJ6_numberOfTrailingZeros_0f7a4_6 ?_
  refine qn_i 7 (fun x0_1 e_x0_1 => ?_)
  have h := h x0_1 e_x0_1
  refine qr_istore_n 7 8 rfl (by decide) rfl rfl dJ6_numberOfTrailingZeros_0f7a4_7 ?_
  refine qr_iload_n 8 9 rfl (x := x0_1) rfl dJ6_numberOfTrailingZeros_0f7a4_8 ?_
  refine qr_if_gt 9 12 17 rfl (by decide) dJ6_numberOfTrailingZeros_0f7a4_9 (fun c9 => ?_) (fun c9 => ?_)
  · have h := h.1 c9
    refine qr_iconst 17 18 rfl (q_l32 _ rfl) dJ6_numberOfTrailingZeros_0f7a4_17 ?_
    refine qr_istore_n 18 19 rfl (by decide) rfl rfl dJ6_numberOfTrailingZeros_0f7a4_18 ?_
    refine qr_iload_n 19 20 rfl (x := x0_1) rfl dJ6_numberOfTrailingZeros_0f7a4_19 ?_
    refine qr_ldc_w 20 23 rfl (v := 65536) (q_l32 _ rfl) wm_863 dJ6_numberOfTrailingZeros_0f7a4_20 ?_
    refine qr_icmp_le 23 26 34 rfl (by decide) dJ6_numberOfTrailingZeros_0f7a4_23 (fun c23 => ?_) (fun c23 => ?_)
    · have h := h.1 c23
      exact h
    · have h := h.2 c23
      refine qr_iinc 26 29 rfl (by decide) (x := 1) rfl rfl rfl dJ6_numberOfTrailingZeros_0f7a4_26 ?_
      refine qr_iload_n 29 30 rfl (x := x0_1) rfl dJ6_numberOfTrailingZeros_0f7a4_29 ?_
      refine qr_bipush 30 32 rfl (q_l32 _ rfl) (by decide) dJ6_numberOfTrailingZeros_0f7a4_30 ?_
      refine qr_iushr 32 33 rfl dJ6_numberOfTrailingZeros_0f7a4_32 ?_
      refine qn_i 33 (fun x0_2 e_x0_2 => ?_)
      have h := h x0_2 e_x0_2
      refine qr_istore_n 33 34 rfl (by decide) rfl rfl dJ6_numberOfTrailingZeros_0f7a4_33 ?_
      exact h
  · have h := h.2 c9
    refine qr_iload_n 12 13 rfl (x := x0_1) rfl dJ6_numberOfTrailingZeros_0f7a4_12 ?_
    refine qr_bipush 13 15 rfl (q_l32 _ rfl) (by decide) dJ6_numberOfTrailingZeros_0f7a4_13 ?_
    refine qr_iand 15 16 rfl dJ6_numberOfTrailingZeros_0f7a4_15 ?_
    exact qe_i 16 rfl dJ6_numberOfTrailingZeros_0f7a4_16 h
theorem bJ6_numberOfTrailingZeros_0f7a4_34 {d : Nat} {P : Int → q_Mem → Prop} {M : q_Mem} (x0 x1 : Int) (h : ((x0 ≤ (256 : Int)) → q_v mJ6_numberOfTrailingZeros_0f7a4 d (qPI P) M 49 [some (qI x0), some (qI x1)] []) ∧ ((¬ (x0 ≤ (256 : Int))) → ∀ x0_1 : Int, x0_1 = (q_ushr x0 8) → q_v mJ6_numberOfTrailingZeros_0f7a4 d (qPI P) M 49 [some (qI x0_1), some (qI (q_add x1 8))] [])) : q_v mJ6_numberOfTrailingZeros_0f7a4 d (qPI P) M 34 [some (qI x0), some (qI x1)] [] := by
  refine qr_iload_n 34 35 rfl (x := x0) rfl dJ6_numberOfTrailingZeros_0f7a4_34 ?_
  refine qr_sipush 35 38 rfl (q_l32 _ rfl) (by decide) dJ6_numberOfTrailingZeros_0f7a4_35 ?_
  refine qr_icmp_le 38 41 49 rfl (by decide) dJ6_numberOfTrailingZeros_0f7a4_38 (fun c38 => ?_) (fun c38 => ?_)
  · have h := h.1 c38
    exact h
  · have h := h.2 c38
    refine qr_iinc 41 44 rfl (by decide) (x := x1) rfl rfl rfl dJ6_numberOfTrailingZeros_0f7a4_41 ?_
    refine qr_iload_n 44 45 rfl (x := x0) rfl dJ6_numberOfTrailingZeros_0f7a4_44 ?_
    refine qr_bipush 45 47 rfl (q_l32 _ rfl) (by decide) dJ6_numberOfTrailingZeros_0f7a4_45 ?_
    refine qr_iushr 47 48 rfl dJ6_numberOfTrailingZeros_0f7a4_47 ?_
    refine qn_i 48 (fun x0_1 e_x0_1 => ?_)
    have h := h x0_1 e_x0_1
    refine qr_istore_n 48 49 rfl (by decide) rfl rfl dJ6_numberOfTrailingZeros_0f7a4_48 ?_
    exact h
theorem bJ6_numberOfTrailingZeros_0f7a4_49 {d : Nat} {P : Int → q_Mem → Prop} {M : q_Mem} (x0 x1 : Int) (h : ((x0 ≤ (16 : Int)) → q_v mJ6_numberOfTrailingZeros_0f7a4 d (qPI P) M 62 [some (qI x0), some (qI x1)] []) ∧ ((¬ (x0 ≤ (16 : Int))) → ∀ x0_1 : Int, x0_1 = (q_ushr x0 4) → q_v mJ6_numberOfTrailingZeros_0f7a4 d (qPI P) M 62 [some (qI x0_1), some (qI (q_add x1 4))] [])) : q_v mJ6_numberOfTrailingZeros_0f7a4 d (qPI P) M 49 [some (qI x0), some (qI x1)] [] := by
  refine qr_iload_n 49 50 rfl (x := x0) rfl dJ6_numberOfTrailingZeros_0f7a4_49 ?_
  refine qr_bipush 50 52 rfl (q_l32 _ rfl) (by decide) dJ6_numberOfTrailingZeros_0f7a4_50 ?_
  refine qr_icmp_le 52 55 62 rfl (by decide) dJ6_numberOfTrailingZeros_0f7a4_52 (fun c52 => ?_) (fun c52 => ?_)
  · have h := h.1 c52
    exact h
  · have h := h.2 c52
    refine qr_iinc 55 58 rfl (by decide) (x := x1) rfl rfl rfl dJ6_numberOfTrailingZeros_0f7a4_55 ?_
    refine qr_iload_n 58 59 rfl (x := x0) rfl dJ6_numberOfTrailingZeros_0f7a4_58 ?_
    refine qr_iconst 59 60 rfl (q_l32 _ rfl) dJ6_numberOfTrailingZeros_0f7a4_59 ?_
    refine qr_iushr 60 61 rfl dJ6_numberOfTrailingZeros_0f7a4_60 ?_
    refine qn_i 61 (fun x0_1 e_x0_1 => ?_)
    have h := h x0_1 e_x0_1
    refine qr_istore_n 61 62 rfl (by decide) rfl rfl dJ6_numberOfTrailingZeros_0f7a4_61 ?_
    exact h
theorem bJ6_numberOfTrailingZeros_0f7a4_62 {d : Nat} {P : Int → q_Mem → Prop} {M : q_Mem} (x0 x1 : Int) (h : ((x0 ≤ (4 : Int)) → P (q_add x1 (q_ushr x0 1)) M) ∧ ((¬ (x0 ≤ (4 : Int))) → ∀ x0_1 : Int, x0_1 = (q_ushr x0 2) → P (q_add (q_add x1 2) (q_ushr x0_1 1)) M)) : q_v mJ6_numberOfTrailingZeros_0f7a4 d (qPI P) M 62 [some (qI x0), some (qI x1)] [] := by
  refine qr_iload_n 62 63 rfl (x := x0) rfl dJ6_numberOfTrailingZeros_0f7a4_62 ?_
  refine qr_iconst 63 64 rfl (q_l32 _ rfl) dJ6_numberOfTrailingZeros_0f7a4_63 ?_
  refine qr_icmp_le 64 67 74 rfl (by decide) dJ6_numberOfTrailingZeros_0f7a4_64 (fun c64 => ?_) (fun c64 => ?_)
  · have h := h.1 c64
    refine qr_iload_n 74 75 rfl (x := x1) rfl dJ6_numberOfTrailingZeros_0f7a4_74 ?_
    refine qr_iload_n 75 76 rfl (x := x0) rfl dJ6_numberOfTrailingZeros_0f7a4_75 ?_
    refine qr_iconst 76 77 rfl (q_l32 _ rfl) dJ6_numberOfTrailingZeros_0f7a4_76 ?_
    refine qr_iushr 77 78 rfl dJ6_numberOfTrailingZeros_0f7a4_77 ?_
    refine qr_iadd 78 79 rfl dJ6_numberOfTrailingZeros_0f7a4_78 ?_
    exact qe_i 79 rfl dJ6_numberOfTrailingZeros_0f7a4_79 h
  · have h := h.2 c64
    refine qr_iinc 67 70 rfl (by decide) (x := x1) rfl rfl rfl dJ6_numberOfTrailingZeros_0f7a4_67 ?_
    refine qr_iload_n 70 71 rfl (x := x0) rfl dJ6_numberOfTrailingZeros_0f7a4_70 ?_
    refine qr_iconst 71 72 rfl (q_l32 _ rfl) dJ6_numberOfTrailingZeros_0f7a4_71 ?_
    refine qr_iushr 72 73 rfl dJ6_numberOfTrailingZeros_0f7a4_72 ?_
    refine qn_i 73 (fun x0_1 e_x0_1 => ?_)
    have h := h x0_1 e_x0_1
    refine qr_istore_n 73 74 rfl (by decide) rfl rfl dJ6_numberOfTrailingZeros_0f7a4_73 ?_
    refine qr_iload_n 74 75 rfl (x := (q_add x1 2)) rfl dJ6_numberOfTrailingZeros_0f7a4_74 ?_
    refine qr_iload_n 75 76 rfl (x := x0_1) rfl dJ6_numberOfTrailingZeros_0f7a4_75 ?_
    refine qr_iconst 76 77 rfl (q_l32 _ rfl) dJ6_numberOfTrailingZeros_0f7a4_76 ?_
    refine qr_iushr 77 78 rfl dJ6_numberOfTrailingZeros_0f7a4_77 ?_
    refine qr_iadd 78 79 rfl dJ6_numberOfTrailingZeros_0f7a4_78 ?_
    exact qe_i 79 rfl dJ6_numberOfTrailingZeros_0f7a4_79 h
theorem dJ6_bitCount_0f7a4_0 : decode cJ6_bitCount_0f7a4 0 = .ok (.iload_n 0, 1) := by decide +kernel
theorem dJ6_bitCount_0f7a4_1 : decode cJ6_bitCount_0f7a4 1 = .ok (.iload_n 0, 1) := by decide +kernel
theorem dJ6_bitCount_0f7a4_2 : decode cJ6_bitCount_0f7a4 2 = .ok (.iconst 1, 1) := by decide +kernel
theorem dJ6_bitCount_0f7a4_3 : decode cJ6_bitCount_0f7a4 3 = .ok (.iushr, 1) := by decide +kernel
theorem dJ6_bitCount_0f7a4_4 : decode cJ6_bitCount_0f7a4 4 = .ok (.ldc_w 265, 3) := by decide +kernel
theorem dJ6_bitCount_0f7a4_7 : decode cJ6_bitCount_0f7a4 7 = .ok (.iand, 1) := by decide +kernel
theorem dJ6_bitCount_0f7a4_8 : decode cJ6_bitCount_0f7a4 8 = .ok (.isub, 1) := by decide +kernel
theorem dJ6_bitCount_0f7a4_9 : decode cJ6_bitCount_0f7a4 9 = .ok (.istore_n 0, 1) := by decide +kernel
theorem dJ6_bitCount_0f7a4_10 : decode cJ6_bitCount_0f7a4 10 = .ok (.iload_n 0, 1) := by decide +kernel
theorem dJ6_bitCount_0f7a4_11 : decode cJ6_bitCount_0f7a4 11 = .ok (.ldc_w 266, 3) := by decide +kernel
theorem dJ6_bitCount_0f7a4_14 : decode cJ6_bitCount_0f7a4 14 = .ok (.iand, 1) := by decide +kernel
theorem dJ6_bitCount_0f7a4_15 : decode cJ6_bitCount_0f7a4 15 = .ok (.iload_n 0, 1) := by decide +kernel
theorem dJ6_bitCount_0f7a4_16 : decode cJ6_bitCount_0f7a4 16 = .ok (.iconst 2, 1) := by decide +kernel
theorem dJ6_bitCount_0f7a4_17 : decode cJ6_bitCount_0f7a4 17 = .ok (.iushr, 1) := by decide +kernel
theorem dJ6_bitCount_0f7a4_18 : decode cJ6_bitCount_0f7a4 18 = .ok (.ldc_w 266, 3) := by decide +kernel
theorem dJ6_bitCount_0f7a4_21 : decode cJ6_bitCount_0f7a4 21 = .ok (.iand, 1) := by decide +kernel
theorem dJ6_bitCount_0f7a4_22 : decode cJ6_bitCount_0f7a4 22 = .ok (.iadd, 1) := by decide +kernel
theorem dJ6_bitCount_0f7a4_23 : decode cJ6_bitCount_0f7a4 23 = .ok (.istore_n 0, 1) := by decide +kernel
theorem dJ6_bitCount_0f7a4_24 : decode cJ6_bitCount_0f7a4 24 = .ok (.iload_n 0, 1) := by decide +kernel
theorem dJ6_bitCount_0f7a4_25 : decode cJ6_bitCount_0f7a4 25 = .ok (.iload_n 0, 1) := by decide +kernel
theorem dJ6_bitCount_0f7a4_26 : decode cJ6_bitCount_0f7a4 26 = .ok (.iconst 4, 1) := by decide +kernel
theorem dJ6_bitCount_0f7a4_27 : decode cJ6_bitCount_0f7a4 27 = .ok (.iushr, 1) := by decide +kernel
theorem dJ6_bitCount_0f7a4_28 : decode cJ6_bitCount_0f7a4 28 = .ok (.iadd, 1) := by decide +kernel
theorem dJ6_bitCount_0f7a4_29 : decode cJ6_bitCount_0f7a4 29 = .ok (.ldc_w 267, 3) := by decide +kernel
theorem dJ6_bitCount_0f7a4_32 : decode cJ6_bitCount_0f7a4 32 = .ok (.iand, 1) := by decide +kernel
theorem dJ6_bitCount_0f7a4_33 : decode cJ6_bitCount_0f7a4 33 = .ok (.istore_n 0, 1) := by decide +kernel
theorem dJ6_bitCount_0f7a4_34 : decode cJ6_bitCount_0f7a4 34 = .ok (.iload_n 0, 1) := by decide +kernel
theorem dJ6_bitCount_0f7a4_35 : decode cJ6_bitCount_0f7a4 35 = .ok (.iload_n 0, 1) := by decide +kernel
theorem dJ6_bitCount_0f7a4_36 : decode cJ6_bitCount_0f7a4 36 = .ok (.bipush 8, 2) := by decide +kernel
theorem dJ6_bitCount_0f7a4_38 : decode cJ6_bitCount_0f7a4 38 = .ok (.iushr, 1) := by decide +kernel
theorem dJ6_bitCount_0f7a4_39 : decode cJ6_bitCount_0f7a4 39 = .ok (.iadd, 1) := by decide +kernel
theorem dJ6_bitCount_0f7a4_40 : decode cJ6_bitCount_0f7a4 40 = .ok (.istore_n 0, 1) := by decide +kernel
theorem dJ6_bitCount_0f7a4_41 : decode cJ6_bitCount_0f7a4 41 = .ok (.iload_n 0, 1) := by decide +kernel
theorem dJ6_bitCount_0f7a4_42 : decode cJ6_bitCount_0f7a4 42 = .ok (.iload_n 0, 1) := by decide +kernel
theorem dJ6_bitCount_0f7a4_43 : decode cJ6_bitCount_0f7a4 43 = .ok (.bipush 16, 2) := by decide +kernel
theorem dJ6_bitCount_0f7a4_45 : decode cJ6_bitCount_0f7a4 45 = .ok (.iushr, 1) := by decide +kernel
theorem dJ6_bitCount_0f7a4_46 : decode cJ6_bitCount_0f7a4 46 = .ok (.iadd, 1) := by decide +kernel
theorem dJ6_bitCount_0f7a4_47 : decode cJ6_bitCount_0f7a4 47 = .ok (.istore_n 0, 1) := by decide +kernel
theorem dJ6_bitCount_0f7a4_48 : decode cJ6_bitCount_0f7a4 48 = .ok (.iload_n 0, 1) := by decide +kernel
theorem dJ6_bitCount_0f7a4_49 : decode cJ6_bitCount_0f7a4 49 = .ok (.bipush 63, 2) := by decide +kernel
theorem dJ6_bitCount_0f7a4_51 : decode cJ6_bitCount_0f7a4 51 = .ok (.iand, 1) := by decide +kernel
theorem dJ6_bitCount_0f7a4_52 : decode cJ6_bitCount_0f7a4 52 = .ok (.ireturn, 1) := by decide +kernel
theorem bJ6_bitCount_0f7a4_0 {d : Nat} {P : Int → q_Mem → Prop} {M : q_Mem} (x0 : Int) (h : ∀ x0_1 : Int, x0_1 = (q_sub x0 (q_and (q_ushr x0 1) 1431655765)) → ∀ x0_2 : Int, x0_2 = (q_add (q_and x0_1 858993459) (q_and (q_ushr x0_1 2) 858993459)) → ∀ x0_3 : Int, x0_3 = (q_and (q_add x0_2 (q_ushr x0_2 4)) 252645135) → ∀ x0_4 : Int, x0_4 = (q_add x0_3 (q_ushr x0_3 8)) → ∀ x0_5 : Int, x0_5 = (q_add x0_4 (q_ushr x0_4 16)) → P (q_and x0_5 63) M) : q_v mJ6_bitCount_0f7a4 d (qPI P) M 0 [some (qI x0)] [] := by
  refine qr_iload_n 0 1 rfl (x := x0) rfl dJ6_bitCount_0f7a4_0 ?_
  refine qr_iload_n 1 2 rfl (x := x0) rfl dJ6_bitCount_0f7a4_1 ?_
  refine qr_iconst 2 3 rfl (q_l32 _ rfl) dJ6_bitCount_0f7a4_2 ?_
  refine qr_iushr 3 4 rfl dJ6_bitCount_0f7a4_3 ?_
  refine qr_ldc_w 4 7 rfl (v := 1431655765) (q_l32 _ rfl) wm_1004 dJ6_bitCount_0f7a4_4 ?_
  refine qr_iand 7 8 rfl dJ6_bitCount_0f7a4_7 ?_
  refine qr_isub 8 9 rfl dJ6_bitCount_0f7a4_8 ?_
  refine qn_i 9 (fun x0_1 e_x0_1 => ?_)
  have h := h x0_1 e_x0_1
  refine qr_istore_n 9 10 rfl (by decide) rfl rfl dJ6_bitCount_0f7a4_9 ?_
  refine qr_iload_n 10 11 rfl (x := x0_1) rfl dJ6_bitCount_0f7a4_10 ?_
  refine qr_ldc_w 11 14 rfl (v := 858993459) (q_l32 _ rfl) wm_1005 dJ6_bitCount_0f7a4_11 ?_
  refine qr_iand 14 15 rfl dJ6_bitCount_0f7a4_14 ?_
  refine qr_iload_n 15 16 rfl (x := x0_1) rfl dJ6_bitCount_0f7a4_15 ?_
  refine qr_iconst 16 17 rfl (q_l32 _ rfl) dJ6_bitCount_0f7a4_16 ?_
  refine qr_iushr 17 18 rfl dJ6_bitCount_0f7a4_17 ?_
  refine qr_ldc_w 18 21 rfl (v := 858993459) (q_l32 _ rfl) wm_1005 dJ6_bitCount_0f7a4_18 ?_
  refine qr_iand 21 22 rfl dJ6_bitCount_0f7a4_21 ?_
  refine qr_iadd 22 23 rfl dJ6_bitCount_0f7a4_22 ?_
  refine qn_i 23 (fun x0_2 e_x0_2 => ?_)
  have h := h x0_2 e_x0_2
  refine qr_istore_n 23 24 rfl (by decide) rfl rfl dJ6_bitCount_0f7a4_23 ?_
  refine qr_iload_n 24 25 rfl (x := x0_2) rfl dJ6_bitCount_0f7a4_24 ?_
  refine qr_iload_n 25 26 rfl (x := x0_2) rfl dJ6_bitCount_0f7a4_25 ?_
  refine qr_iconst 26 27 rfl (q_l32 _ rfl) dJ6_bitCount_0f7a4_26 ?_
  refine qr_iushr 27 28 rfl dJ6_bitCount_0f7a4_27 ?_
  refine qr_iadd 28 29 rfl dJ6_bitCount_0f7a4_28 ?_
  refine qr_ldc_w 29 32 rfl (v := 252645135) (q_l32 _ rfl) wm_1006 dJ6_bitCount_0f7a4_29 ?_
  refine qr_iand 32 33 rfl dJ6_bitCount_0f7a4_32 ?_
  refine qn_i 33 (fun x0_3 e_x0_3 => ?_)
  have h := h x0_3 e_x0_3
  refine qr_istore_n 33 34 rfl (by decide) rfl rfl dJ6_bitCount_0f7a4_33 ?_
  refine qr_iload_n 34 35 rfl (x := x0_3) rfl dJ6_bitCount_0f7a4_34 ?_
  refine qr_iload_n 35 36 rfl (x := x0_3) rfl dJ6_bitCount_0f7a4_35 ?_
  refine qr_bipush 36 38 rfl (q_l32 _ rfl) (by decide) dJ6_bitCount_0f7a4_36 ?_
  refine qr_iushr 38 39 rfl dJ6_bitCount_0f7a4_38 ?_
  refine qr_iadd 39 40 rfl dJ6_bitCount_0f7a4_39 ?_
  refine qn_i 40 (fun x0_4 e_x0_4 => ?_)
  have h := h x0_4 e_x0_4
  refine qr_istore_n 40 41 rfl (by decide) rfl rfl dJ6_bitCount_0f7a4_40 ?_
  refine qr_iload_n 41 42 rfl (x := x0_4) rfl dJ6_bitCount_0f7a4_41 ?_
  refine qr_iload_n 42 43 rfl (x := x0_4) rfl dJ6_bitCount_0f7a4_42 ?_
  refine qr_bipush 43 45 rfl (q_l32 _ rfl) (by decide) dJ6_bitCount_0f7a4_43 ?_
  refine qr_iushr 45 46 rfl dJ6_bitCount_0f7a4_45 ?_
  refine qr_iadd 46 47 rfl dJ6_bitCount_0f7a4_46 ?_
  refine qn_i 47 (fun x0_5 e_x0_5 => ?_)
  have h := h x0_5 e_x0_5
  refine qr_istore_n 47 48 rfl (by decide) rfl rfl dJ6_bitCount_0f7a4_47 ?_
  refine qr_iload_n 48 49 rfl (x := x0_5) rfl dJ6_bitCount_0f7a4_48 ?_
  refine qr_bipush 49 51 rfl (q_l32 _ rfl) (by decide) dJ6_bitCount_0f7a4_49 ?_
  refine qr_iand 51 52 rfl dJ6_bitCount_0f7a4_51 ?_
  exact qe_i 52 rfl dJ6_bitCount_0f7a4_52 h
theorem dJ9_floorMod_7cf53_0 : decode cJ9_floorMod_7cf53 0 = .ok (.iload_n 0, 1) := by decide +kernel
theorem dJ9_floorMod_7cf53_1 : decode cJ9_floorMod_7cf53 1 = .ok (.iload_n 1, 1) := by decide +kernel
theorem dJ9_floorMod_7cf53_2 : decode cJ9_floorMod_7cf53 2 = .ok (.irem, 1) := by decide +kernel
theorem dJ9_floorMod_7cf53_3 : decode cJ9_floorMod_7cf53 3 = .ok (.istore_n 2, 1) := by decide +kernel
theorem dJ9_floorMod_7cf53_4 : decode cJ9_floorMod_7cf53 4 = .ok (.iload_n 0, 1) := by decide +kernel
theorem dJ9_floorMod_7cf53_5 : decode cJ9_floorMod_7cf53 5 = .ok (.iload_n 1, 1) := by decide +kernel
theorem dJ9_floorMod_7cf53_6 : decode cJ9_floorMod_7cf53 6 = .ok (.ixor, 1) := by decide +kernel
theorem dJ9_floorMod_7cf53_7 : decode cJ9_floorMod_7cf53 7 = .ok (.ifCond .ge 11, 3) := by decide +kernel
theorem dJ9_floorMod_7cf53_10 : decode cJ9_floorMod_7cf53 10 = .ok (.iload_n 2, 1) := by decide +kernel
theorem dJ9_floorMod_7cf53_11 : decode cJ9_floorMod_7cf53 11 = .ok (.ifCond .eq 7, 3) := by decide +kernel
theorem dJ9_floorMod_7cf53_14 : decode cJ9_floorMod_7cf53 14 = .ok (.iload_n 2, 1) := by decide +kernel
theorem dJ9_floorMod_7cf53_15 : decode cJ9_floorMod_7cf53 15 = .ok (.iload_n 1, 1) := by decide +kernel
theorem dJ9_floorMod_7cf53_16 : decode cJ9_floorMod_7cf53 16 = .ok (.iadd, 1) := by decide +kernel
theorem dJ9_floorMod_7cf53_17 : decode cJ9_floorMod_7cf53 17 = .ok (.ireturn, 1) := by decide +kernel
theorem dJ9_floorMod_7cf53_18 : decode cJ9_floorMod_7cf53 18 = .ok (.iload_n 2, 1) := by decide +kernel
theorem dJ9_floorMod_7cf53_19 : decode cJ9_floorMod_7cf53 19 = .ok (.ireturn, 1) := by decide +kernel
theorem bJ9_floorMod_7cf53_0 {d : Nat} {P : Int → q_Mem → Prop} {M : q_Mem} (x0 x1 : Int) (h : x1 ≠ 0 ∧ (∀ x2_1 : Int, x2_1 = (q_rem x0 x1) → ((0 ≤ (q_xor x0 x1)) → P x2_1 M) ∧ ((¬ (0 ≤ (q_xor x0 x1))) → ((x2_1 = 0) → P x2_1 M) ∧ ((¬ (x2_1 = 0)) → P (q_add x2_1 x1) M)))) : q_v mJ9_floorMod_7cf53 d (qPI P) M 0 [some (qI x0), some (qI x1), none] [] := by
  refine qr_iload_n 0 1 rfl (x := x0) rfl dJ9_floorMod_7cf53_0 ?_
  refine qr_iload_n 1 2 rfl (x := x1) rfl dJ9_floorMod_7cf53_1 ?_
  refine qr_irem 2 3 rfl h.1 dJ9_floorMod_7cf53_2 ?_
  have h := h.2
  refine qn_i 3 (fun x2_1 e_x2_1 => ?_)
  have h := h x2_1 e_x2_1
  refine qr_istore_n 3 4 rfl (by decide) rfl rfl dJ9_floorMod_7cf53_3 ?_
  refine qr_iload_n 4 5 rfl (x := x0) rfl dJ9_floorMod_7cf53_4 ?_
  refine qr_iload_n 5 6 rfl (x := x1) rfl dJ9_floorMod_7cf53_5 ?_
  refine qr_ixor 6 7 rfl dJ9_floorMod_7cf53_6 ?_
  refine qr_if_ge 7 10 18 rfl (by decide) dJ9_floorMod_7cf53_7 (fun c7 => ?_) (fun c7 => ?_)
  · have h := h.1 c7
    refine qr_iload_n 18 19 rfl (x := x2_1) rfl dJ9_floorMod_7cf53_18 ?_
    exact qe_i 19 rfl dJ9_floorMod_7cf53_19 h
  · have h := h.2 c7
    refine qr_iload_n 10 11 rfl (x := x2_1) rfl dJ9_floorMod_7cf53_10 ?_
    refine qr_if_eq 11 14 18 rfl (by decide) dJ9_floorMod_7cf53_11 (fun c11 => ?_) (fun c11 => ?_)
    · have h := h.1 c11
      refine qr_iload_n 18 19 rfl (x := x2_1) rfl dJ9_floorMod_7cf53_18 ?_
      exact qe_i 19 rfl dJ9_floorMod_7cf53_19 h
    · have h := h.2 c11
      refine qr_iload_n 14 15 rfl (x := x2_1) rfl dJ9_floorMod_7cf53_14 ?_
      refine qr_iload_n 15 16 rfl (x := x1) rfl dJ9_floorMod_7cf53_15 ?_
      refine qr_iadd 16 17 rfl dJ9_floorMod_7cf53_16 ?_
      exact qe_i 17 rfl dJ9_floorMod_7cf53_17 h
theorem dJ9_abs_0f7a4_0 : decode cJ9_abs_0f7a4 0 = .ok (.iload_n 0, 1) := by decide +kernel
theorem dJ9_abs_0f7a4_1 : decode cJ9_abs_0f7a4 1 = .ok (.ifCond .ge 8, 3) := by decide +kernel
theorem dJ9_abs_0f7a4_4 : decode cJ9_abs_0f7a4 4 = .ok (.iload_n 0, 1) := by decide +kernel
theorem dJ9_abs_0f7a4_5 : decode cJ9_abs_0f7a4 5 = .ok (.ineg, 1) := by decide +kernel
theorem dJ9_abs_0f7a4_6 : decode cJ9_abs_0f7a4 6 = .ok (.goto 4, 3) := by decide +kernel
theorem dJ9_abs_0f7a4_9 : decode cJ9_abs_0f7a4 9 = .ok (.iload_n 0, 1) := by decide +kernel
theorem dJ9_abs_0f7a4_10 : decode cJ9_abs_0f7a4 10 = .ok (.ireturn, 1) := by decide +kernel
theorem bJ9_abs_0f7a4_0 {d : Nat} {P : Int → q_Mem → Prop} {M : q_Mem} (x0 : Int) (h : ((0 ≤ x0) → P x0 M) ∧ ((¬ (0 ≤ x0)) → P (q_neg x0) M)) : q_v mJ9_abs_0f7a4 d (qPI P) M 0 [some (qI x0)] [] := by
  refine qr_iload_n 0 1 rfl (x := x0) rfl dJ9_abs_0f7a4_0 ?_
  refine qr_if_ge 1 4 9 rfl (by decide) dJ9_abs_0f7a4_1 (fun c1 => ?_) (fun c1 => ?_)
  · have h := h.1 c1
    refine qr_iload_n 9 10 rfl (x := x0) rfl dJ9_abs_0f7a4_9 ?_
    exact qe_i 10 rfl dJ9_abs_0f7a4_10 h
  · have h := h.2 c1
    refine qr_iload_n 4 5 rfl (x := x0) rfl dJ9_abs_0f7a4_4 ?_
    refine qr_ineg 5 6 rfl dJ9_abs_0f7a4_5 ?_
    refine qr_goto 6 10 (by decide) dJ9_abs_0f7a4_6 ?_
    exact qe_i 10 rfl dJ9_abs_0f7a4_10 h
theorem dJ9_max_7cf53_0 : decode cJ9_max_7cf53 0 = .ok (.iload_n 0, 1) := by decide +kernel
theorem dJ9_max_7cf53_1 : decode cJ9_max_7cf53 1 = .ok (.iload_n 1, 1) := by decide +kernel
theorem dJ9_max_7cf53_2 : decode cJ9_max_7cf53 2 = .ok (.if_icmp .lt 7, 3) := by decide +kernel
theorem dJ9_max_7cf53_5 : decode cJ9_max_7cf53 5 = .ok (.iload_n 0, 1) := by decide +kernel
theorem dJ9_max_7cf53_6 : decode cJ9_max_7cf53 6 = .ok (.goto 4, 3) := by decide +kernel
theorem dJ9_max_7cf53_9 : decode cJ9_max_7cf53 9 = .ok (.iload_n 1, 1) := by decide +kernel
theorem dJ9_max_7cf53_10 : decode cJ9_max_7cf53 10 = .ok (.ireturn, 1) := by decide +kernel
theorem bJ9_max_7cf53_0 {d : Nat} {P : Int → q_Mem → Prop} {M : q_Mem} (x0 x1 : Int) (h : ((x0 < x1) → P x1 M) ∧ ((¬ (x0 < x1)) → P x0 M)) : q_v mJ9_max_7cf53 d (qPI P) M 0 [some (qI x0), some (qI x1)] [] := by
  refine qr_iload_n 0 1 rfl (x := x0) rfl dJ9_max_7cf53_0 ?_
  refine qr_iload_n 1 2 rfl (x := x1) rfl dJ9_max_7cf53_1 ?_
  refine qr_icmp_lt 2 5 9 rfl (by decide) dJ9_max_7cf53_2 (fun c2 => ?_) (fun c2 => ?_)
  · have h := h.1 c2
    refine qr_iload_n 9 10 rfl (x := x1) rfl dJ9_max_7cf53_9 ?_
    exact qe_i 10 rfl dJ9_max_7cf53_10 h
  · have h := h.2 c2
    refine qr_iload_n 5 6 rfl (x := x0) rfl dJ9_max_7cf53_5 ?_
    refine qr_goto 6 10 (by decide) dJ9_max_7cf53_6 ?_
    exact qe_i 10 rfl dJ9_max_7cf53_10 h
theorem dJ9_max_f86c9_0 : decode cJ9_max_f86c9 0 = .ok (.lload_n 0, 1) := by decide +kernel
theorem dJ9_max_f86c9_1 : decode cJ9_max_f86c9 1 = .ok (.lload_n 2, 1) := by decide +kernel
theorem dJ9_max_f86c9_2 : decode cJ9_max_f86c9 2 = .ok (.lcmp, 1) := by decide +kernel
theorem dJ9_max_f86c9_3 : decode cJ9_max_f86c9 3 = .ok (.ifCond .lt 7, 3) := by decide +kernel
theorem dJ9_max_f86c9_6 : decode cJ9_max_f86c9 6 = .ok (.lload_n 0, 1) := by decide +kernel
theorem dJ9_max_f86c9_7 : decode cJ9_max_f86c9 7 = .ok (.goto 4, 3) := by decide +kernel
theorem dJ9_max_f86c9_10 : decode cJ9_max_f86c9 10 = .ok (.lload_n 2, 1) := by decide +kernel
theorem dJ9_max_f86c9_11 : decode cJ9_max_f86c9 11 = .ok (.lreturn, 1) := by decide +kernel
theorem bJ9_max_f86c9_0 {d : Nat} {P : Int → q_Mem → Prop} {M : q_Mem} (x0 x2 : Int) (h : (((q_lcmp x0 x2) < 0) → P x2 M) ∧ ((¬ ((q_lcmp x0 x2) < 0)) → P x0 M)) : q_v mJ9_max_f86c9 d (qPL P) M 0 [some (qL x0), none, some (qL x2), none] [] := by
  refine qr_lload_n 0 1 rfl (x := x0) rfl dJ9_max_f86c9_0 ?_
  refine qr_lload_n 1 2 rfl (x := x2) rfl dJ9_max_f86c9_1 ?_
  refine qr_lcmp 2 3 rfl dJ9_max_f86c9_2 ?_
  refine qr_if_lt 3 6 10 rfl (by decide) dJ9_max_f86c9_3 (fun c3 => ?_) (fun c3 => ?_)
  · have h := h.1 c3
    refine qr_lload_n 10 11 rfl (x := x2) rfl dJ9_max_f86c9_10 ?_
    exact qe_l 11 rfl dJ9_max_f86c9_11 h
  · have h := h.2 c3
    refine qr_lload_n 6 7 rfl (x := x0) rfl dJ9_max_f86c9_6 ?_
    refine qr_goto 7 11 (by decide) dJ9_max_f86c9_7 ?_
    exact qe_l 11 rfl dJ9_max_f86c9_11 h
theorem dJ9_min_7cf53_0 : decode cJ9_min_7cf53 0 = .ok (.iload_n 0, 1) := by decide +kernel
theorem dJ9_min_7cf53_1 : decode cJ9_min_7cf53 1 = .ok (.iload_n 1, 1) := by decide +kernel
theorem dJ9_min_7cf53_2 : decode cJ9_min_7cf53 2 = .ok (.if_icmp .gt 7, 3) := by decide +kernel
theorem dJ9_min_7cf53_5 : decode cJ9_min_7cf53 5 = .ok (.iload_n 0, 1) := by decide +kernel
theorem dJ9_min_7cf53_6 : decode cJ9_min_7cf53 6 = .ok (.goto 4, 3) := by decide +kernel
theorem dJ9_min_7cf53_9 : decode cJ9_min_7cf53 9 = .ok (.iload_n 1, 1) := by decide +kernel
theorem dJ9_min_7cf53_10 : decode cJ9_min_7cf53 10 = .ok (.ireturn, 1) := by decide +kernel
theorem bJ9_min_7cf53_0 {d : Nat} {P : Int → q_Mem → Prop} {M : q_Mem} (x0 x1 : Int) (h : ((x1 < x0) → P x1 M) ∧ ((¬ (x1 < x0)) → P x0 M)) : q_v mJ9_min_7cf53 d (qPI P) M 0 [some (qI x0), some (qI x1)] [] := by
  refine qr_iload_n 0 1 rfl (x := x0) rfl dJ9_min_7cf53_0 ?_
  refine qr_iload_n 1 2 rfl (x := x1) rfl dJ9_min_7cf53_1 ?_
  refine qr_icmp_gt 2 5 9 rfl (by decide) dJ9_min_7cf53_2 (fun c2 => ?_) (fun c2 => ?_)
  · have h := h.1 c2
    refine qr_iload_n 9 10 rfl (x := x1) rfl dJ9_min_7cf53_9 ?_
    exact qe_i 10 rfl dJ9_min_7cf53_10 h
  · have h := h.2 c2
    refine qr_iload_n 5 6 rfl (x := x0) rfl dJ9_min_7cf53_5 ?_
    refine qr_goto 6 10 (by decide) dJ9_min_7cf53_6 ?_
    exact qe_i 10 rfl dJ9_min_7cf53_10 h
theorem dJ9_min_f86c9_0 : decode cJ9_min_f86c9 0 = .ok (.lload_n 0, 1) := by decide +kernel
theorem dJ9_min_f86c9_1 : decode cJ9_min_f86c9 1 = .ok (.lload_n 2, 1) := by decide +kernel
theorem dJ9_min_f86c9_2 : decode cJ9_min_f86c9 2 = .ok (.lcmp, 1) := by decide +kernel
theorem dJ9_min_f86c9_3 : decode cJ9_min_f86c9 3 = .ok (.ifCond .gt 7, 3) := by decide +kernel
theorem dJ9_min_f86c9_6 : decode cJ9_min_f86c9 6 = .ok (.lload_n 0, 1) := by decide +kernel
theorem dJ9_min_f86c9_7 : decode cJ9_min_f86c9 7 = .ok (.goto 4, 3) := by decide +kernel
theorem dJ9_min_f86c9_10 : decode cJ9_min_f86c9 10 = .ok (.lload_n 2, 1) := by decide +kernel
theorem dJ9_min_f86c9_11 : decode cJ9_min_f86c9 11 = .ok (.lreturn, 1) := by decide +kernel
theorem bJ9_min_f86c9_0 {d : Nat} {P : Int → q_Mem → Prop} {M : q_Mem} (x0 x2 : Int) (h : ((0 < (q_lcmp x0 x2)) → P x2 M) ∧ ((¬ (0 < (q_lcmp x0 x2))) → P x0 M)) : q_v mJ9_min_f86c9 d (qPL P) M 0 [some (qL x0), none, some (qL x2), none] [] := by
  refine qr_lload_n 0 1 rfl (x := x0) rfl dJ9_min_f86c9_0 ?_
  refine qr_lload_n 1 2 rfl (x := x2) rfl dJ9_min_f86c9_1 ?_
  refine qr_lcmp 2 3 rfl dJ9_min_f86c9_2 ?_
  refine qr_if_gt 3 6 10 rfl (by decide) dJ9_min_f86c9_3 (fun c3 => ?_) (fun c3 => ?_)
  · have h := h.1 c3
    refine qr_lload_n 10 11 rfl (x := x2) rfl dJ9_min_f86c9_10 ?_
    exact qe_l 11 rfl dJ9_min_f86c9_11 h
  · have h := h.2 c3
    refine qr_lload_n 6 7 rfl (x := x0) rfl dJ9_min_f86c9_6 ?_
    refine qr_goto 7 11 (by decide) dJ9_min_f86c9_7 ?_
    exact qe_l 11 rfl dJ9_min_f86c9_11 h
theorem dJ0_length_8abf5_0 : decode cJ0_length_8abf5 0 = .ok (.aload_n 0, 1) := by decide +kernel
theorem dJ0_length_8abf5_1 : decode cJ0_length_8abf5 1 = .ok (.getfield 9, 3) := by decide +kernel
theorem dJ0_length_8abf5_4 : decode cJ0_length_8abf5 4 = .ok (.arraylength, 1) := by decide +kernel
theorem dJ0_length_8abf5_5 : decode cJ0_length_8abf5 5 = .ok (.aload_n 0, 1) := by decide +kernel
theorem dJ0_length_8abf5_6 : decode cJ0_length_8abf5 6 = .ok (.invokevirtual 335, 3) := by decide +kernel
theorem dJ0_length_8abf5_9 : decode cJ0_length_8abf5 9 = .ok (.ishr, 1) := by decide +kernel
theorem dJ0_length_8abf5_10 : decode cJ0_length_8abf5 10 = .ok (.ireturn, 1) := by decide +kernel
theorem bJ0_length_8abf5_0 {d : Nat} {P : Int → q_Mem → Prop} {M : q_Mem} (i0 : Nat) (hi0 : i0 < 22) (h : q_kI yJ0_coder_7d493 mJ0_coder_7d493 d [qR (-(i0 : Int) - 1)] M (fun v2 M1 => P (q_shr ((q_sb i0).length : Int) v2) M1)) : q_v mJ0_length_8abf5 d (qPI P) M 0 [some (qR (-(i0 : Int) - 1))] [] := by
  refine qr_aload_n 0 1 rfl (x := (-(i0 : Int) - 1)) rfl dJ0_length_8abf5_0 ?_
  refine qr_sval 1 4 rfl i0 hi0 wm_2047 dJ0_length_8abf5_1 ?_
  refine qr_slen 4 5 rfl i0 hi0 dJ0_length_8abf5_4 ?_
  refine qr_aload_n 5 6 rfl (x := (-(i0 : Int) - 1)) rfl dJ0_length_8abf5_5 ?_
  refine qt_I 6 9 rfl i0 hi0 (av := []) ca_J0_coder_7d493 wm_510 wm_511 wm_509 rfl rfl rfl (Nat.le_of_ble_eq_true rfl) dJ0_length_8abf5_6 h (fun v2 M1 h => ?_)
  refine qr_ishr 9 10 rfl dJ0_length_8abf5_9 ?_
  exact qe_i 10 rfl dJ0_length_8abf5_10 h
theorem dJ0_charAt_5068e_0 : decode cJ0_charAt_5068e 0 = .ok (.aload_n 0, 1) := by decide +kernel
theorem dJ0_charAt_5068e_1 : decode cJ0_charAt_5068e 1 = .ok (.invokevirtual 492, 3) := by decide +kernel
theorem dJ0_charAt_5068e_4 : decode cJ0_charAt_5068e 4 = .ok (.ifCond .eq 12, 3) := by decide +kernel
theorem dJ0_charAt_5068e_7 : decode cJ0_charAt_5068e 7 = .ok (.aload_n 0, 1) := by decide +kernel
theorem dJ0_charAt_5068e_8 : decode cJ0_charAt_5068e 8 = .ok (.getfield 9, 3) := by decide +kernel
theorem dJ0_charAt_5068e_11 : decode cJ0_charAt_5068e 11 = .ok (.iload_n 1, 1) := by decide +kernel
theorem dJ0_charAt_5068e_12 : decode cJ0_charAt_5068e 12 = .ok (.invokestatic 495, 3) := by decide +kernel
theorem dJ0_charAt_5068e_15 : decode cJ0_charAt_5068e 15 = .ok (.ireturn, 1) := by decide +kernel
theorem dJ0_charAt_5068e_16 : decode cJ0_charAt_5068e 16 = .ok (.aload_n 0, 1) := by decide +kernel
theorem dJ0_charAt_5068e_17 : decode cJ0_charAt_5068e 17 = .ok (.getfield 9, 3) := by decide +kernel
theorem dJ0_charAt_5068e_20 : decode cJ0_charAt_5068e 20 = .ok (.iload_n 1, 1) := by decide +kernel
theorem dJ0_charAt_5068e_21 : decode cJ0_charAt_5068e 21 = .ok (.invokestatic 498, 3) := by decide +kernel
theorem dJ0_charAt_5068e_24 : decode cJ0_charAt_5068e 24 = .ok (.ireturn, 1) := by decide +kernel
theorem bJ0_charAt_5068e_0 {d : Nat} {P : Int → q_Mem → Prop} {M : q_Mem} (x1 : Int) (i0 : Nat) (hi0 : i0 < 22) (h : q_kI yJ0_isLatin1_aae02 mJ0_isLatin1_aae02 d [qR (-(i0 : Int) - 1)] M (fun v2 M1 => ((v2 = 0) → q_kI yJ2_charAt_3b067 mJ2_charAt_3b067 d [qR (-(i0 : Int) - 101), qI x1] M1 (fun v4 M3 => (0 ≤ v4 ∧ v4 < 65536) ∧ P v4 M3)) ∧ ((¬ (v2 = 0)) → q_kI yJ1_charAt_3b067 mJ1_charAt_3b067 d [qR (-(i0 : Int) - 101), qI x1] M1 (fun v6 M5 => (0 ≤ v6 ∧ v6 < 65536) ∧ P v6 M5)))) : q_v mJ0_charAt_5068e d (qPI P) M 0 [some (qR (-(i0 : Int) - 1)), some (qI x1)] [] := by
  refine qr_aload_n 0 1 rfl (x := (-(i0 : Int) - 1)) rfl dJ0_charAt_5068e_0 ?_
  refine qt_I 1 4 rfl i0 hi0 (av := []) ca_J0_isLatin1_aae02 wm_500 wm_501 wm_499 rfl rfl rfl (Nat.le_of_ble_eq_true rfl) dJ0_charAt_5068e_1 h (fun v2 M1 h => ?_)
  refine qr_if_eq 4 7 16 rfl (by decide) dJ0_charAt_5068e_4 (fun c4 => ?_) (fun c4 => ?_)
  · have h := h.1 c4
    refine qr_aload_n 16 17 rfl (x := (-(i0 : Int) - 1)) rfl dJ0_charAt_5068e_16 ?_
    refine qr_sval 17 20 rfl i0 hi0 wm_2047 dJ0_charAt_5068e_17 ?_
    refine qr_iload_n 20 21 rfl (x := x1) rfl dJ0_charAt_5068e_20 ?_
    refine qs_I 21 24 rfl (av := [qR (-(i0 : Int) - 101), qI x1]) ca_J2_charAt_3b067 wm_603 wm_602 rfl rfl (Nat.le_of_ble_eq_true rfl) dJ0_charAt_5068e_21 h (fun v4 M3 h => ?_)
    exact qe_c 24 rfl h.1 dJ0_charAt_5068e_24 h.2
  · have h := h.2 c4
    refine qr_aload_n 7 8 rfl (x := (-(i0 : Int) - 1)) rfl dJ0_charAt_5068e_7 ?_
    refine qr_sval 8 11 rfl i0 hi0 wm_2047 dJ0_charAt_5068e_8 ?_
    refine qr_iload_n 11 12 rfl (x := x1) rfl dJ0_charAt_5068e_11 ?_
    refine qs_I 12 15 rfl (av := [qR (-(i0 : Int) - 101), qI x1]) ca_J1_charAt_3b067 wm_594 wm_593 rfl rfl (Nat.le_of_ble_eq_true rfl) dJ0_charAt_5068e_12 h (fun v6 M5 h => ?_)
    exact qe_c 15 rfl h.1 dJ0_charAt_5068e_15 h.2
theorem dJ0_indexOf_0f7a4_0 : decode cJ0_indexOf_0f7a4 0 = .ok (.aload_n 0, 1) := by decide +kernel
theorem dJ0_indexOf_0f7a4_1 : decode cJ0_indexOf_0f7a4 1 = .ok (.iload_n 1, 1) := by decide +kernel
theorem dJ0_indexOf_0f7a4_2 : decode cJ0_indexOf_0f7a4 2 = .ok (.iconst 0, 1) := by decide +kernel
theorem dJ0_indexOf_0f7a4_3 : decode cJ0_indexOf_0f7a4 3 = .ok (.invokevirtual 633, 3) := by decide +kernel
theorem dJ0_indexOf_0f7a4_6 : decode cJ0_indexOf_0f7a4 6 = .ok (.ireturn, 1) := by decide +kernel
theorem bJ0_indexOf_0f7a4_0 {d : Nat} {P : Int → q_Mem → Prop} {M : q_Mem} (x1 : Int) (i0 : Nat) (hi0 : i0 < 22) (h : q_kI yJ0_indexOf_7cf53 mJ0_indexOf_7cf53 d [qR (-(i0 : Int) - 1), qI x1, qI 0] M (fun v2 M1 => P v2 M1)) : q_v mJ0_indexOf_0f7a4 d (qPI P) M 0 [some (qR (-(i0 : Int) - 1)), some (qI x1)] [] := by
  refine qr_aload_n 0 1 rfl (x := (-(i0 : Int) - 1)) rfl dJ0_indexOf_0f7a4_0 ?_
  refine qr_iload_n 1 2 rfl (x := x1) rfl dJ0_indexOf_0f7a4_1 ?_
  refine qr_iconst 2 3 rfl (q_l32 _ rfl) dJ0_indexOf_0f7a4_2 ?_
  refine qt_I 3 6 rfl i0 hi0 (av := [qI x1, qI 0]) ca_J0_indexOf_7cf53 wm_496 wm_497 wm_495 rfl rfl rfl (Nat.le_of_ble_eq_true rfl) dJ0_indexOf_0f7a4_3 h (fun v2 M1 h => ?_)
  exact qe_i 6 rfl dJ0_indexOf_0f7a4_6 h
theorem dJ0_indexOf_7cf53_0 : decode cJ0_indexOf_7cf53 0 = .ok (.aload_n 0, 1) := by decide +kernel
theorem dJ0_indexOf_7cf53_1 : decode cJ0_indexOf_7cf53 1 = .ok (.invokevirtual 492, 3) := by decide +kernel
theorem dJ0_indexOf_7cf53_4 : decode cJ0_indexOf_7cf53 4 = .ok (.ifCond .eq 19, 3) := by decide +kernel
theorem dJ0_indexOf_7cf53_7 : decode cJ0_indexOf_7cf53 7 = .ok (.aload_n 0, 1) := by decide +kernel
theorem dJ0_indexOf_7cf53_8 : decode cJ0_indexOf_7cf53 8 = .ok (.getfield 9, 3) := by decide +kernel
theorem dJ0_indexOf_7cf53_11 : decode cJ0_indexOf_7cf53 11 = .ok (.iload_n 1, 1) := by decide +kernel
theorem dJ0_indexOf_7cf53_12 : decode cJ0_indexOf_7cf53 12 = .ok (.iload_n 2, 1) := by decide +kernel
theorem dJ0_indexOf_7cf53_13 : decode cJ0_indexOf_7cf53 13 = .ok (.aload_n 0, 1) := by decide +kernel
theorem dJ0_indexOf_7cf53_14 : decode cJ0_indexOf_7cf53 14 = .ok (.invokevirtual 505, 3) := by decide +kernel
theorem dJ0_indexOf_7cf53_17 : decode cJ0_indexOf_7cf53 17 = .ok (.invokestatic 637, 3) := by decide +kernel
theorem dJ0_indexOf_7cf53_20 : decode cJ0_indexOf_7cf53 20 = .ok (.goto 16, 3) := by decide +kernel
theorem dJ0_indexOf_7cf53_23 : decode cJ0_indexOf_7cf53 23 = .ok (.aload_n 0, 1) := by decide +kernel
theorem dJ0_indexOf_7cf53_24 : decode cJ0_indexOf_7cf53 24 = .ok (.getfield 9, 3) := by decide +kernel
theorem dJ0_indexOf_7cf53_27 : decode cJ0_indexOf_7cf53 27 = .ok (.iload_n 1, 1) := by decide +kernel
theorem dJ0_indexOf_7cf53_28 : decode cJ0_indexOf_7cf53 28 = .ok (.iload_n 2, 1) := by decide +kernel
theorem dJ0_indexOf_7cf53_29 : decode cJ0_indexOf_7cf53 29 = .ok (.aload_n 0, 1) := by decide +kernel
theorem dJ0_indexOf_7cf53_30 : decode cJ0_indexOf_7cf53 30 = .ok (.invokevirtual 505, 3) := by decide +kernel
theorem dJ0_indexOf_7cf53_33 : decode cJ0_indexOf_7cf53 33 = .ok (.invokestatic 640, 3) := by decide +kernel
theorem dJ0_indexOf_7cf53_36 : decode cJ0_indexOf_7cf53 36 = .ok (.ireturn, 1) := by decide +kernel
theorem bJ0_indexOf_7cf53_0 {d : Nat} {P : Int → q_Mem → Prop} {M : q_Mem} (x1 x2 : Int) (i0 : Nat) (hi0 : i0 < 22) (h : q_kI yJ0_isLatin1_aae02 mJ0_isLatin1_aae02 d [qR (-(i0 : Int) - 1)] M (fun v2 M1 => ((v2 = 0) → q_kI yJ0_length_8abf5 mJ0_length_8abf5 d [qR (-(i0 : Int) - 1)] M1 (fun v4 M3 => q_kI yJ2_indexOf_4cfef mJ2_indexOf_4cfef d [qR (-(i0 : Int) - 101), qI x1, qI x2, qI v4] M3 (fun v6 M5 => P v6 M5))) ∧ ((¬ (v2 = 0)) → q_kI yJ0_length_8abf5 mJ0_length_8abf5 d [qR (-(i0 : Int) - 1)] M1 (fun v8 M7 => q_kI yJ1_indexOf_4cfef mJ1_indexOf_4cfef d [qR (-(i0 : Int) - 101), qI x1, qI x2, qI v8] M7 (fun v10 M9 => P v10 M9))))) : q_v mJ0_indexOf_7cf53 d (qPI P) M 0 [some (qR (-(i0 : Int) - 1)), some (qI x1), some (qI x2)] [] := by
  refine qr_aload_n 0 1 rfl (x := (-(i0 : Int) - 1)) rfl dJ0_indexOf_7cf53_0 ?_
  refine qt_I 1 4 rfl i0 hi0 (av := []) ca_J0_isLatin1_aae02 wm_500 wm_501 wm_499 rfl rfl rfl (Nat.le_of_ble_eq_true rfl) dJ0_indexOf_7cf53_1 h (fun v2 M1 h => ?_)
  refine qr_if_eq 4 7 23 rfl (by decide) dJ0_indexOf_7cf53_4 (fun c4 => ?_) (fun c4 => ?_)
  · have h := h.1 c4
    refine qr_aload_n 23 24 rfl (x := (-(i0 : Int) - 1)) rfl dJ0_indexOf_7cf53_23 ?_
    refine qr_sval 24 27 rfl i0 hi0 wm_2047 dJ0_indexOf_7cf53_24 ?_
    refine qr_iload_n 27 28 rfl (x := x1) rfl dJ0_indexOf_7cf53_27 ?_
    refine qr_iload_n 28 29 rfl (x := x2) rfl dJ0_indexOf_7cf53_28 ?_
    refine qr_aload_n 29 30 rfl (x := (-(i0 : Int) - 1)) rfl dJ0_indexOf_7cf53_29 ?_
    refine qt_I 30 33 rfl i0 hi0 (av := []) ca_J0_length_8abf5 wm_506 wm_507 wm_505 rfl rfl rfl (Nat.le_of_ble_eq_true rfl) dJ0_indexOf_7cf53_30 h (fun v4 M3 h => ?_)
    refine qs_I 33 36 rfl (av := [qR (-(i0 : Int) - 101), qI x1, qI x2, qI v4]) ca_J2_indexOf_4cfef wm_527 wm_526 rfl rfl (Nat.le_of_ble_eq_true rfl) dJ0_indexOf_7cf53_33 h (fun v6 M5 h => ?_)
    exact qe_i 36 rfl dJ0_indexOf_7cf53_36 h
  · have h := h.2 c4
    refine qr_aload_n 7 8 rfl (x := (-(i0 : Int) - 1)) rfl dJ0_indexOf_7cf53_7 ?_
    refine qr_sval 8 11 rfl i0 hi0 wm_2047 dJ0_indexOf_7cf53_8 ?_
    refine qr_iload_n 11 12 rfl (x := x1) rfl dJ0_indexOf_7cf53_11 ?_
    refine qr_iload_n 12 13 rfl (x := x2) rfl dJ0_indexOf_7cf53_12 ?_
    refine qr_aload_n 13 14 rfl (x := (-(i0 : Int) - 1)) rfl dJ0_indexOf_7cf53_13 ?_
    refine qt_I 14 17 rfl i0 hi0 (av := []) ca_J0_length_8abf5 wm_506 wm_507 wm_505 rfl rfl rfl (Nat.le_of_ble_eq_true rfl) dJ0_indexOf_7cf53_14 h (fun v8 M7 h => ?_)
    refine qs_I 17 20 rfl (av := [qR (-(i0 : Int) - 101), qI x1, qI x2, qI v8]) ca_J1_indexOf_4cfef wm_514 wm_513 rfl rfl (Nat.le_of_ble_eq_true rfl) dJ0_indexOf_7cf53_17 h (fun v10 M9 h => ?_)
    refine qr_goto 20 36 (by decide) dJ0_indexOf_7cf53_20 ?_
    exact qe_i 36 rfl dJ0_indexOf_7cf53_36 h
theorem dJ0_coder_7d493_0 : decode cJ0_coder_7d493 0 = .ok (.getstatic 38, 3) := by decide +kernel
theorem dJ0_coder_7d493_3 : decode cJ0_coder_7d493 3 = .ok (.ifCond .eq 10, 3) := by decide +kernel
theorem dJ0_coder_7d493_6 : decode cJ0_coder_7d493 6 = .ok (.aload_n 0, 1) := by decide +kernel
theorem dJ0_coder_7d493_7 : decode cJ0_coder_7d493 7 = .ok (.getfield 15, 3) := by decide +kernel
theorem dJ0_coder_7d493_10 : decode cJ0_coder_7d493 10 = .ok (.goto 4, 3) := by decide +kernel
theorem dJ0_coder_7d493_13 : decode cJ0_coder_7d493 13 = .ok (.iconst 1, 1) := by decide +kernel
theorem dJ0_coder_7d493_14 : decode cJ0_coder_7d493 14 = .ok (.ireturn, 1) := by decide +kernel
theorem bJ0_coder_7d493_0 {d : Nat} {P : Int → q_Mem → Prop} {M : q_Mem} (i0 : Nat) (hi0 : i0 < 22) (h : (((1 : Int) = 0) → ((1 : Int) = 0 ∨ (1 : Int) = 1) ∧ P 1 M) ∧ ((¬ ((1 : Int) = 0)) → ((0 : Int) = 0 ∨ (0 : Int) = 1) ∧ P 0 M)) : q_v mJ0_coder_7d493 d (qPI P) M 0 [some (qR (-(i0 : Int) - 1))] [] := by
  refine qr_gcs 0 3 rfl wm_503 dJ0_coder_7d493_0 ?_
  refine qr_if_eq 3 6 13 rfl (by decide) dJ0_coder_7d493_3 (fun c3 => ?_) (fun c3 => ?_)
  · have h := h.1 c3
    refine qr_iconst 13 14 rfl (q_l32 _ rfl) dJ0_coder_7d493_13 ?_
    exact qe_b 14 rfl h.1 dJ0_coder_7d493_14 h.2
  · have h := h.2 c3
    refine qr_aload_n 6 7 rfl (x := (-(i0 : Int) - 1)) rfl dJ0_coder_7d493_6 ?_
    refine qr_scod 7 10 rfl i0 hi0 wm_2046 dJ0_coder_7d493_7 ?_
    refine qr_goto 10 14 (by decide) dJ0_coder_7d493_10 ?_
    exact qe_b 14 rfl h.1 dJ0_coder_7d493_14 h.2
theorem dJ0_isLatin1_aae02_0 : decode cJ0_isLatin1_aae02 0 = .ok (.getstatic 38, 3) := by decide +kernel
theorem dJ0_isLatin1_aae02_3 : decode cJ0_isLatin1_aae02 3 = .ok (.ifCond .eq 14, 3) := by decide +kernel
theorem dJ0_isLatin1_aae02_6 : decode cJ0_isLatin1_aae02 6 = .ok (.aload_n 0, 1) := by decide +kernel
theorem dJ0_isLatin1_aae02_7 : decode cJ0_isLatin1_aae02 7 = .ok (.getfield 15, 3) := by decide +kernel
theorem dJ0_isLatin1_aae02_10 : decode cJ0_isLatin1_aae02 10 = .ok (.ifCond .ne 7, 3) := by decide +kernel
theorem dJ0_isLatin1_aae02_13 : decode cJ0_isLatin1_aae02 13 = .ok (.iconst 1, 1) := by decide +kernel
theorem dJ0_isLatin1_aae02_14 : decode cJ0_isLatin1_aae02 14 = .ok (.goto 4, 3) := by decide +kernel
theorem dJ0_isLatin1_aae02_17 : decode cJ0_isLatin1_aae02 17 = .ok (.iconst 0, 1) := by decide +kernel
theorem dJ0_isLatin1_aae02_18 : decode cJ0_isLatin1_aae02 18 = .ok (.ireturn, 1) := by decide +kernel
theorem bJ0_isLatin1_aae02_0 {d : Nat} {P : Int → q_Mem → Prop} {M : q_Mem} (i0 : Nat) (hi0 : i0 < 22) (h : (((1 : Int) = 0) → P 0 M) ∧ ((¬ ((1 : Int) = 0)) → ((¬ (0 : Int) = 0) → P 0 M) ∧ (((0 : Int) = 0) → P 1 M))) : q_v mJ0_isLatin1_aae02 d (qPI P) M 0 [some (qR (-(i0 : Int) - 1))] [] := by
  refine qr_gcs 0 3 rfl wm_503 dJ0_isLatin1_aae02_0 ?_
  refine qr_if_eq 3 6 17 rfl (by decide) dJ0_isLatin1_aae02_3 (fun c3 => ?_) (fun c3 => ?_)
  · have h := h.1 c3
    refine qr_iconst 17 18 rfl (q_l32 _ rfl) dJ0_isLatin1_aae02_17 ?_
    exact qe_z 18 rfl (by decide) dJ0_isLatin1_aae02_18 h
  · have h := h.2 c3
    refine qr_aload_n 6 7 rfl (x := (-(i0 : Int) - 1)) rfl dJ0_isLatin1_aae02_6 ?_
    refine qr_scod 7 10 rfl i0 hi0 wm_2046 dJ0_isLatin1_aae02_7 ?_
    refine qr_if_ne 10 13 17 rfl (by decide) dJ0_isLatin1_aae02_10 (fun c10 => ?_) (fun c10 => ?_)
    · have h := h.1 c10
      refine qr_iconst 17 18 rfl (q_l32 _ rfl) dJ0_isLatin1_aae02_17 ?_
      exact qe_z 18 rfl (by decide) dJ0_isLatin1_aae02_18 h
    · have h := h.2 c10
      refine qr_iconst 13 14 rfl (q_l32 _ rfl) dJ0_isLatin1_aae02_13 ?_
      refine qr_goto 14 18 (by decide) dJ0_isLatin1_aae02_14 ?_
      exact qe_z 18 rfl (by decide) dJ0_isLatin1_aae02_18 h
theorem dJ0_checkIndex_df160_0 : decode cJ0_checkIndex_df160 0 = .ok (.iload_n 0, 1) := by decide +kernel
theorem dJ0_checkIndex_df160_1 : decode cJ0_checkIndex_df160 1 = .ok (.iload_n 1, 1) := by decide +kernel
theorem dJ0_checkIndex_df160_2 : decode cJ0_checkIndex_df160 2 = .ok (.getstatic 1053, 3) := by decide +kernel
theorem dJ0_checkIndex_df160_5 : decode cJ0_checkIndex_df160 5 = .ok (.invokestatic 1059, 3) := by decide +kernel
theorem dJ0_checkIndex_df160_8 : decode cJ0_checkIndex_df160 8 = .ok (.pop, 1) := by decide +kernel
theorem dJ0_checkIndex_df160_9 : decode cJ0_checkIndex_df160 9 = .ok (.return_, 1) := by decide +kernel
theorem bJ0_checkIndex_df160_0 {d : Nat} {P : q_Mem → Prop} {M : q_Mem} (x0 x1 : Int) (h : ∀ z : Int, q_kI yJ3_checkIndex_8e157 mJ3_checkIndex_8e157 d [qI x0, qI x1, qR z] M (fun v2 M1 => P M1)) : q_v mJ0_checkIndex_df160 d (qPU P) M 0 [some (qI x0), some (qI x1)] [] := by
  refine qr_iload_n 0 1 rfl (x := x0) rfl dJ0_checkIndex_df160_0 ?_
  refine qr_iload_n 1 2 rfl (x := x1) rfl dJ0_checkIndex_df160_1 ?_
  refine qr_gfm 2 5 rfl wm_544 dJ0_checkIndex_df160_2 (fun z => ?_)
  have h := h z
  refine qs_I 5 8 rfl (av := [qI x0, qI x1, qR z]) ca_J3_checkIndex_8e157 wm_600 wm_599 rfl rfl (Nat.le_of_ble_eq_true rfl) dJ0_checkIndex_df160_5 h (fun v2 M1 h => ?_)
  refine qr_pop 8 9 rfl rfl dJ0_checkIndex_df160_8 ?_
  exact qe_u 9 rfl dJ0_checkIndex_df160_9 h
theorem dJ0_checkBoundsBeginEnd_23922_0 : decode cJ0_checkBoundsBeginEnd_23922 0 = .ok (.iload_n 0, 1) := by decide +kernel
theorem dJ0_checkBoundsBeginEnd_23922_1 : decode cJ0_checkBoundsBeginEnd_23922 1 = .ok (.iload_n 1, 1) := by decide +kernel
theorem dJ0_checkBoundsBeginEnd_23922_2 : decode cJ0_checkBoundsBeginEnd_23922 2 = .ok (.iload_n 2, 1) := by decide +kernel
theorem dJ0_checkBoundsBeginEnd_23922_3 : decode cJ0_checkBoundsBeginEnd_23922 3 = .ok (.getstatic 1053, 3) := by decide +kernel
theorem dJ0_checkBoundsBeginEnd_23922_6 : decode cJ0_checkBoundsBeginEnd_23922 6 = .ok (.invokestatic 1062, 3) := by decide +kernel
theorem dJ0_checkBoundsBeginEnd_23922_9 : decode cJ0_checkBoundsBeginEnd_23922 9 = .ok (.pop, 1) := by decide +kernel
theorem dJ0_checkBoundsBeginEnd_23922_10 : decode cJ0_checkBoundsBeginEnd_23922 10 = .ok (.return_, 1) := by decide +kernel
theorem bJ0_checkBoundsBeginEnd_23922_0 {d : Nat} {P : q_Mem → Prop} {M : q_Mem} (x0 x1 x2 : Int) (h : ∀ z : Int, q_kI yJ3_checkFromToIndex_8c36e mJ3_checkFromToIndex_8c36e d [qI x0, qI x1, qI x2, qR z] M (fun v2 M1 => P M1)) : q_v mJ0_checkBoundsBeginEnd_23922 d (qPU P) M 0 [some (qI x0), some (qI x1), some (qI x2)] [] := by
  refine qr_iload_n 0 1 rfl (x := x0) rfl dJ0_checkBoundsBeginEnd_23922_0 ?_
  refine qr_iload_n 1 2 rfl (x := x1) rfl dJ0_checkBoundsBeginEnd_23922_1 ?_
  refine qr_iload_n 2 3 rfl (x := x2) rfl dJ0_checkBoundsBeginEnd_23922_2 ?_
  refine qr_gfm 3 6 rfl wm_544 dJ0_checkBoundsBeginEnd_23922_3 (fun z => ?_)
  have h := h z
  refine qs_I 6 9 rfl (av := [qI x0, qI x1, qI x2, qR z]) ca_J3_checkFromToIndex_8c36e wm_547 wm_546 rfl rfl (Nat.le_of_ble_eq_true rfl) dJ0_checkBoundsBeginEnd_23922_6 h (fun v2 M1 h => ?_)
  refine qr_pop 9 10 rfl rfl dJ0_checkBoundsBeginEnd_23922_9 ?_
  exact qe_u 10 rfl dJ0_checkBoundsBeginEnd_23922_10 h
theorem dJ1_charAt_3b067_0 : decode cJ1_charAt_3b067 0 = .ok (.iload_n 1, 1) := by decide +kernel
theorem dJ1_charAt_3b067_1 : decode cJ1_charAt_3b067 1 = .ok (.aload_n 0, 1) := by decide +kernel
theorem dJ1_charAt_3b067_2 : decode cJ1_charAt_3b067 2 = .ok (.arraylength, 1) := by decide +kernel
theorem dJ1_charAt_3b067_3 : decode cJ1_charAt_3b067 3 = .ok (.invokestatic 9, 3) := by decide +kernel
theorem dJ1_charAt_3b067_6 : decode cJ1_charAt_3b067 6 = .ok (.aload_n 0, 1) := by decide +kernel
theorem dJ1_charAt_3b067_7 : decode cJ1_charAt_3b067 7 = .ok (.iload_n 1, 1) := by decide +kernel
theorem dJ1_charAt_3b067_8 : decode cJ1_charAt_3b067 8 = .ok (.baload, 1) := by decide +kernel
theorem dJ1_charAt_3b067_9 : decode cJ1_charAt_3b067 9 = .ok (.sipush 255, 3) := by decide +kernel
theorem dJ1_charAt_3b067_12 : decode cJ1_charAt_3b067 12 = .ok (.iand, 1) := by decide +kernel
theorem dJ1_charAt_3b067_13 : decode cJ1_charAt_3b067 13 = .ok (.i2c, 1) := by decide +kernel
theorem dJ1_charAt_3b067_14 : decode cJ1_charAt_3b067 14 = .ok (.ireturn, 1) := by decide +kernel
theorem bJ1_charAt_3b067_0 {d : Nat} {P : Int → q_Mem → Prop} {M : q_Mem} (x1 : Int) (i0 : Nat) (hi0 : i0 < 22) (h : q_kU yJ0_checkIndex_df160 mJ0_checkIndex_df160 d [qI x1, qI ((q_sb i0).length : Int)] M (fun M1 => (0 ≤ x1 ∧ x1 < ((q_sb i0).length : Int)) ∧ ((0 ≤ (q_i2c (q_and ((q_sb i0).getD (Int.toNat x1) 0) 255)) ∧ (q_i2c (q_and ((q_sb i0).getD (Int.toNat x1) 0) 255)) < 65536) ∧ P (q_i2c (q_and ((q_sb i0).getD (Int.toNat x1) 0) 255)) M1))) : q_v mJ1_charAt_3b067 d (qPI P) M 0 [some (qR (-(i0 : Int) - 101)), some (qI x1)] [] := by
  refine qr_iload_n 0 1 rfl (x := x1) rfl dJ1_charAt_3b067_0 ?_
  refine qr_aload_n 1 2 rfl (x := (-(i0 : Int) - 101)) rfl dJ1_charAt_3b067_1 ?_
  refine qr_slen 2 3 rfl i0 hi0 dJ1_charAt_3b067_2 ?_
  refine qs_U 3 6 rfl (av := [qI x1, qI ((q_sb i0).length : Int)]) ca_J0_checkIndex_df160 wm_597 wm_596 rfl rfl (Nat.le_of_ble_eq_true rfl) dJ1_charAt_3b067_3 h (fun M1 h => ?_)
  refine qr_aload_n 6 7 rfl (x := (-(i0 : Int) - 101)) rfl dJ1_charAt_3b067_6 ?_
  refine qr_iload_n 7 8 rfl (x := x1) rfl dJ1_charAt_3b067_7 ?_
  refine qr_sbal 8 9 rfl i0 hi0 h.1.1 h.1.2 dJ1_charAt_3b067_8 ?_
  have h := h.2
  refine qr_sipush 9 12 rfl (q_l32 _ rfl) (by decide) dJ1_charAt_3b067_9 ?_
  refine qr_iand 12 13 rfl dJ1_charAt_3b067_12 ?_
  refine qr_i2c 13 14 rfl dJ1_charAt_3b067_13 ?_
  exact qe_c 14 rfl h.1 dJ1_charAt_3b067_14 h.2
theorem dJ1_canEncode_9a6ad_0 : decode cJ1_canEncode_9a6ad 0 = .ok (.iload_n 0, 1) := by decide +kernel
theorem dJ1_canEncode_9a6ad_1 : decode cJ1_canEncode_9a6ad 1 = .ok (.ifCond .lt 14, 3) := by decide +kernel
theorem dJ1_canEncode_9a6ad_4 : decode cJ1_canEncode_9a6ad 4 = .ok (.iload_n 0, 1) := by decide +kernel
theorem dJ1_canEncode_9a6ad_5 : decode cJ1_canEncode_9a6ad 5 = .ok (.sipush 255, 3) := by decide +kernel
theorem dJ1_canEncode_9a6ad_8 : decode cJ1_canEncode_9a6ad 8 = .ok (.if_icmp .gt 7, 3) := by decide +kernel
theorem dJ1_canEncode_9a6ad_11 : decode cJ1_canEncode_9a6ad 11 = .ok (.iconst 1, 1) := by decide +kernel
theorem dJ1_canEncode_9a6ad_12 : decode cJ1_canEncode_9a6ad 12 = .ok (.goto 4, 3) := by decide +kernel
theorem dJ1_canEncode_9a6ad_15 : decode cJ1_canEncode_9a6ad 15 = .ok (.iconst 0, 1) := by decide +kernel
theorem dJ1_canEncode_9a6ad_16 : decode cJ1_canEncode_9a6ad 16 = .ok (.ireturn, 1) := by decide +kernel
theorem bJ1_canEncode_9a6ad_0 {d : Nat} {P : Int → q_Mem → Prop} {M : q_Mem} (x0 : Int) (h : ((x0 < 0) → P 0 M) ∧ ((¬ (x0 < 0)) → (((255 : Int) < x0) → P 0 M) ∧ ((¬ ((255 : Int) < x0)) → P 1 M))) : q_v mJ1_canEncode_9a6ad d (qPI P) M 0 [some (qI x0)] [] := by
  refine qr_iload_n 0 1 rfl (x := x0) rfl dJ1_canEncode_9a6ad_0 ?_
  refine qr_if_lt 1 4 15 rfl (by decide) dJ1_canEncode_9a6ad_1 (fun c1 => ?_) (fun c1 => ?_)
  · have h := h.1 c1
    refine qr_iconst 15 16 rfl (q_l32 _ rfl) dJ1_canEncode_9a6ad_15 ?_
    exact qe_z 16 rfl (by decide) dJ1_canEncode_9a6ad_16 h
  · have h := h.2 c1
    refine qr_iload_n 4 5 rfl (x := x0) rfl dJ1_canEncode_9a6ad_4 ?_
    refine qr_sipush 5 8 rfl (q_l32 _ rfl) (by decide) dJ1_canEncode_9a6ad_5 ?_
    refine qr_icmp_gt 8 11 15 rfl (by decide) dJ1_canEncode_9a6ad_8 (fun c8 => ?_) (fun c8 => ?_)
    · have h := h.1 c8
      refine qr_iconst 15 16 rfl (q_l32 _ rfl) dJ1_canEncode_9a6ad_15 ?_
      exact qe_z 16 rfl (by decide) dJ1_canEncode_9a6ad_16 h
    · have h := h.2 c8
      refine qr_iconst 11 12 rfl (q_l32 _ rfl) dJ1_canEncode_9a6ad_11 ?_
      refine qr_goto 12 16 (by decide) dJ1_canEncode_9a6ad_12 ?_
      exact qe_z 16 rfl (by decide) dJ1_canEncode_9a6ad_16 h
theorem dJ1_indexOf_4cfef_0 : decode cJ1_indexOf_4cfef 0 = .ok (.iload_n 1, 1) := by decide +kernel
theorem dJ1_indexOf_4cfef_1 : decode cJ1_indexOf_4cfef 1 = .ok (.invokestatic 88, 3) := by decide +kernel
theorem dJ1_indexOf_4cfef_4 : decode cJ1_indexOf_4cfef 4 = .ok (.ifCond .ne 5, 3) := by decide +kernel
theorem dJ1_indexOf_4cfef_7 : decode cJ1_indexOf_4cfef 7 = .ok (.iconst (-1), 1) := by decide +kernel
theorem dJ1_indexOf_4cfef_8 : decode cJ1_indexOf_4cfef 8 = .ok (.ireturn, 1) := by decide +kernel
theorem dJ1_indexOf_4cfef_9 : decode cJ1_indexOf_4cfef 9 = .ok (.iload_n 2, 1) := by decide +kernel
theorem dJ1_indexOf_4cfef_10 : decode cJ1_indexOf_4cfef 10 = .ok (.iconst 0, 1) := by decide +kernel
theorem dJ1_indexOf_4cfef_11 : decode cJ1_indexOf_4cfef 11 = .ok (.invokestatic 92, 3) := by decide +kernel
theorem dJ1_indexOf_4cfef_14 : decode cJ1_indexOf_4cfef 14 = .ok (.istore_n 2, 1) := by decide +kernel
theorem dJ1_indexOf_4cfef_15 : decode cJ1_indexOf_4cfef 15 = .ok (.iload_n 3, 1) := by decide +kernel
theorem dJ1_indexOf_4cfef_16 : decode cJ1_indexOf_4cfef 16 = .ok (.aload_n 0, 1) := by decide +kernel
theorem dJ1_indexOf_4cfef_17 : decode cJ1_indexOf_4cfef 17 = .ok (.arraylength, 1) := by decide +kernel
theorem dJ1_indexOf_4cfef_18 : decode cJ1_indexOf_4cfef 18 = .ok (.invokestatic 38, 3) := by decide +kernel
theorem dJ1_indexOf_4cfef_21 : decode cJ1_indexOf_4cfef 21 = .ok (.istore_n 3, 1) := by decide +kernel
theorem dJ1_indexOf_4cfef_22 : decode cJ1_indexOf_4cfef 22 = .ok (.iload_n 2, 1) := by decide +kernel
theorem dJ1_indexOf_4cfef_23 : decode cJ1_indexOf_4cfef 23 = .ok (.iload_n 3, 1) := by decide +kernel
theorem dJ1_indexOf_4cfef_24 : decode cJ1_indexOf_4cfef 24 = .ok (.if_icmp .lt 5, 3) := by decide +kernel
theorem dJ1_indexOf_4cfef_27 : decode cJ1_indexOf_4cfef 27 = .ok (.iconst (-1), 1) := by decide +kernel
theorem dJ1_indexOf_4cfef_28 : decode cJ1_indexOf_4cfef 28 = .ok (.ireturn, 1) := by decide +kernel
theorem dJ1_indexOf_4cfef_29 : decode cJ1_indexOf_4cfef 29 = .ok (.aload_n 0, 1) := by decide +kernel
theorem dJ1_indexOf_4cfef_30 : decode cJ1_indexOf_4cfef 30 = .ok (.iload_n 1, 1) := by decide +kernel
theorem dJ1_indexOf_4cfef_31 : decode cJ1_indexOf_4cfef 31 = .ok (.iload_n 2, 1) := by decide +kernel
theorem dJ1_indexOf_4cfef_32 : decode cJ1_indexOf_4cfef 32 = .ok (.iload_n 3, 1) := by decide +kernel
theorem dJ1_indexOf_4cfef_33 : decode cJ1_indexOf_4cfef 33 = .ok (.invokestatic 95, 3) := by decide +kernel
theorem dJ1_indexOf_4cfef_36 : decode cJ1_indexOf_4cfef 36 = .ok (.ireturn, 1) := by decide +kernel
theorem bJ1_indexOf_4cfef_0 {d : Nat} {P : Int → q_Mem → Prop} {M : q_Mem} (x1 x2 x3 : Int) (i0 : Nat) (hi0 : i0 < 22) (h : q_kI yJ1_canEncode_9a6ad mJ1_canEncode_9a6ad d [qI x1] M (fun v2 M1 => ((¬ v2 = 0) → q_kI yJ9_max_7cf53 mJ9_max_7cf53 d [qI x2, qI 0] M1 (fun v4 M3 => q_kI yJ9_min_7cf53 mJ9_min_7cf53 d [qI x3, qI ((q_sb i0).length : Int)] M3 (fun v6 M5 => ((v4 < v6) → q_kI yJ1_indexOfChar_4cfef mJ1_indexOfChar_4cfef d [qR (-(i0 : Int) - 101), qI x1, qI v4, qI v6] M5 (fun v8 M7 => P v8 M7)) ∧ ((¬ (v4 < v6)) → P (-1) M5)))) ∧ ((v2 = 0) → P (-1) M1))) : q_v mJ1_indexOf_4cfef d (qPI P) M 0 [some (qR (-(i0 : Int) - 101)), some (qI x1), some (qI x2), some (qI x3)] [] := by
  refine qr_iload_n 0 1 rfl (x := x1) rfl dJ1_indexOf_4cfef_0 ?_
  refine qs_I 1 4 rfl (av := [qI x1]) ca_J1_canEncode_9a6ad wm_517 wm_516 rfl rfl (Nat.le_of_ble_eq_true rfl) dJ1_indexOf_4cfef_1 h (fun v2 M1 h => ?_)
  refine qr_if_ne 4 7 9 rfl (by decide) dJ1_indexOf_4cfef_4 (fun c4 => ?_) (fun c4 => ?_)
  · have h := h.1 c4
    refine qr_iload_n 9 10 rfl (x := x2) rfl dJ1_indexOf_4cfef_9 ?_
    refine qr_iconst 10 11 rfl (q_l32 _ rfl) dJ1_indexOf_4cfef_10 ?_
    refine qs_I 11 14 rfl (av := [qI x2, qI 0]) ca_J9_max_7cf53 wm_520 wm_519 rfl rfl (Nat.le_of_ble_eq_true rfl) dJ1_indexOf_4cfef_11 h (fun v4 M3 h => ?_)
    refine qr_istore_n 14 15 rfl (by decide) rfl rfl dJ1_indexOf_4cfef_14 ?_
    refine qr_iload_n 15 16 rfl (x := x3) rfl dJ1_indexOf_4cfef_15 ?_
    refine qr_aload_n 16 17 rfl (x := (-(i0 : Int) - 101)) rfl dJ1_indexOf_4cfef_16 ?_
    refine qr_slen 17 18 rfl i0 hi0 dJ1_indexOf_4cfef_17 ?_
    refine qs_I 18 21 rfl (av := [qI x3, qI ((q_sb i0).length : Int)]) ca_J9_min_7cf53 wm_452 wm_522 rfl rfl (Nat.le_of_ble_eq_true rfl) dJ1_indexOf_4cfef_18 h (fun v6 M5 h => ?_)
    refine qr_istore_n 21 22 rfl (by decide) rfl rfl dJ1_indexOf_4cfef_21 ?_
    refine qr_iload_n 22 23 rfl (x := v4) rfl dJ1_indexOf_4cfef_22 ?_
    refine qr_iload_n 23 24 rfl (x := v6) rfl dJ1_indexOf_4cfef_23 ?_
    refine qr_icmp_lt 24 27 29 rfl (by decide) dJ1_indexOf_4cfef_24 (fun c24 => ?_) (fun c24 => ?_)
    · have h := h.1 c24
      refine qr_aload_n 29 30 rfl (x := (-(i0 : Int) - 101)) rfl dJ1_indexOf_4cfef_29 ?_
      refine qr_iload_n 30 31 rfl (x := x1) rfl dJ1_indexOf_4cfef_30 ?_
      refine qr_iload_n 31 32 rfl (x := v4) rfl dJ1_indexOf_4cfef_31 ?_
      refine qr_iload_n 32 33 rfl (x := v6) rfl dJ1_indexOf_4cfef_32 ?_
      refine qs_I 33 36 rfl (av := [qR (-(i0 : Int) - 101), qI x1, qI v4, qI v6]) ca_J1_indexOfChar_4cfef wm_524 wm_523 rfl rfl (Nat.le_of_ble_eq_true rfl) dJ1_indexOf_4cfef_33 h (fun v8 M7 h => ?_)
      exact qe_i 36 rfl dJ1_indexOf_4cfef_36 h
    · have h := h.2 c24
      refine qr_iconst 27 28 rfl (q_l32 _ rfl) dJ1_indexOf_4cfef_27 ?_
      exact qe_i 28 rfl dJ1_indexOf_4cfef_28 h
  · have h := h.2 c4
    refine qr_iconst 7 8 rfl (q_l32 _ rfl) dJ1_indexOf_4cfef_7 ?_
    exact qe_i 8 rfl dJ1_indexOf_4cfef_8 h
theorem dJ1_indexOfChar_4cfef_0 : decode cJ1_indexOfChar_4cfef 0 = .ok (.iload_n 1, 1) := by decide +kernel
theorem dJ1_indexOfChar_4cfef_1 : decode cJ1_indexOfChar_4cfef 1 = .ok (.i2b, 1) := by decide +kernel
theorem dJ1_indexOfChar_4cfef_2 : decode cJ1_indexOfChar_4cfef 2 = .ok (.istore 4, 2) := by decide +kernel
theorem dJ1_indexOfChar_4cfef_4 : decode cJ1_indexOfChar_4cfef 4 = .ok (.iload_n 2, 1) := by decide +kernel
theorem dJ1_indexOfChar_4cfef_5 : decode cJ1_indexOfChar_4cfef 5 = .ok (.istore 5, 2) := by decide +kernel
theorem dJ1_indexOfChar_4cfef_7 : decode cJ1_indexOfChar_4cfef 7 = .ok (.iload 5, 2) := by decide +kernel
theorem dJ1_indexOfChar_4cfef_9 : decode cJ1_indexOfChar_4cfef 9 = .ok (.iload_n 3, 1) := by decide +kernel
theorem dJ1_indexOfChar_4cfef_10 : decode cJ1_indexOfChar_4cfef 10 = .ok (.if_icmp .ge 21, 3) := by decide +kernel
theorem dJ1_indexOfChar_4cfef_13 : decode cJ1_indexOfChar_4cfef 13 = .ok (.aload_n 0, 1) := by decide +kernel
theorem dJ1_indexOfChar_4cfef_14 : decode cJ1_indexOfChar_4cfef 14 = .ok (.iload 5, 2) := by decide +kernel
theorem dJ1_indexOfChar_4cfef_16 : decode cJ1_indexOfChar_4cfef 16 = .ok (.baload, 1) := by decide +kernel
theorem dJ1_indexOfChar_4cfef_17 : decode cJ1_indexOfChar_4cfef 17 = .ok (.iload 4, 2) := by decide +kernel
theorem dJ1_indexOfChar_4cfef_19 : decode cJ1_indexOfChar_4cfef 19 = .ok (.if_icmp .ne 6, 3) := by decide +kernel
theorem dJ1_indexOfChar_4cfef_22 : decode cJ1_indexOfChar_4cfef 22 = .ok (.iload 5, 2) := by decide +kernel
theorem dJ1_indexOfChar_4cfef_24 : decode cJ1_indexOfChar_4cfef 24 = .ok (.ireturn, 1) := by decide +kernel
theorem dJ1_indexOfChar_4cfef_25 : decode cJ1_indexOfChar_4cfef 25 = .ok (.iinc 5 1, 3) := by decide +kernel
theorem dJ1_indexOfChar_4cfef_28 : decode cJ1_indexOfChar_4cfef 28 = .ok (.goto (-21), 3) := by decide +kernel
theorem dJ1_indexOfChar_4cfef_31 : decode cJ1_indexOfChar_4cfef 31 = .ok (.iconst (-1), 1) := by decide +kernel
theorem dJ1_indexOfChar_4cfef_32 : decode cJ1_indexOfChar_4cfef 32 = .ok (.ireturn, 1) := by decide +kernel
theorem bJ1_indexOfChar_4cfef_0 {d : Nat} {P : Int → q_Mem → Prop} {M : q_Mem} (x1 x2 x3 : Int) (i0 : Nat) (hi0 : i0 < 22) (h : ∀ x4_1 : Int, x4_1 = (q_i2b x1) → q_v mJ1_indexOfChar_4cfef d (qPI P) M 7 [some (qR (-(i0 : Int) - 101)), none, none, some (qI x3), some (qI x4_1), some (qI x2)] []) : q_v mJ1_indexOfChar_4cfef d (qPI P) M 0 [some (qR (-(i0 : Int) - 101)), some (qI x1), some (qI x2), some (qI x3), none, none] [] := by
  refine qr_iload_n 0 1 rfl (x := x1) rfl dJ1_indexOfChar_4cfef_0 ?_
  refine qr_i2b 1 2 rfl dJ1_indexOfChar_4cfef_1 ?_
  refine qn_i 2 (fun x4_1 e_x4_1 => ?_)
  have h := h x4_1 e_x4_1
  refine qr_istore 2 4 rfl (by decide) rfl rfl dJ1_indexOfChar_4cfef_2 ?_
  refine qr_iload_n 4 5 rfl (x := x2) rfl dJ1_indexOfChar_4cfef_4 ?_
  refine qr_istore 5 7 rfl (by decide) rfl rfl dJ1_indexOfChar_4cfef_5 ?_
  exact qr_cut 7 (ls' := [some (qR (-(i0 : Int) - 101)), none, none, some (qI x3), some (qI x4_1), some (qI x2)]) (And.intro rfl (And.intro rfl (And.intro rfl (And.intro rfl trivial)))) h
theorem bJ1_indexOfChar_4cfef_7 {d : Nat} {P : Int → q_Mem → Prop} {M : q_Mem} (x3 x4 x5 : Int) (i0 : Nat) (hi0 : i0 < 22) (h : ((x3 ≤ x5) → P (-1) M) ∧ ((¬ (x3 ≤ x5)) → (0 ≤ x5 ∧ x5 < ((q_sb i0).length : Int)) ∧ (((¬ ((q_sb i0).getD (Int.toNat x5) 0) = x4) → q_v mJ1_indexOfChar_4cfef d (qPI P) M 7 [some (qR (-(i0 : Int) - 101)), none, none, some (qI x3), some (qI x4), some (qI (q_add x5 1))] []) ∧ ((((q_sb i0).getD (Int.toNat x5) 0) = x4) → P x5 M)))) : q_v mJ1_indexOfChar_4cfef d (qPI P) M 7 [some (qR (-(i0 : Int) - 101)), none, none, some (qI x3), some (qI x4), some (qI x5)] [] := by
  refine qr_iload 7 9 rfl (x := x5) rfl dJ1_indexOfChar_4cfef_7 ?_
  refine qr_iload_n 9 10 rfl (x := x3) rfl dJ1_indexOfChar_4cfef_9 ?_
  refine qr_icmp_ge 10 13 31 rfl (by decide) dJ1_indexOfChar_4cfef_10 (fun c10 => ?_) (fun c10 => ?_)
  · have h := h.1 c10
    refine qr_iconst 31 32 rfl (q_l32 _ rfl) dJ1_indexOfChar_4cfef_31 ?_
    exact qe_i 32 rfl dJ1_indexOfChar_4cfef_32 h
  · have h := h.2 c10
    refine qr_aload_n 13 14 rfl (x := (-(i0 : Int) - 101)) rfl dJ1_indexOfChar_4cfef_13 ?_
    refine qr_iload 14 16 rfl (x := x5) rfl dJ1_indexOfChar_4cfef_14 ?_
    refine qr_sbal 16 17 rfl i0 hi0 h.1.1 h.1.2 dJ1_indexOfChar_4cfef_16 ?_
    have h := h.2
    refine qr_iload 17 19 rfl (x := x4) rfl dJ1_indexOfChar_4cfef_17 ?_
    refine qr_icmp_ne 19 22 25 rfl (by decide) dJ1_indexOfChar_4cfef_19 (fun c19 => ?_) (fun c19 => ?_)
    · have h := h.1 c19
      refine qr_iinc 25 28 rfl (by decide) (x := x5) rfl rfl rfl dJ1_indexOfChar_4cfef_25 ?_
      refine qr_goto 28 7 (by decide) dJ1_indexOfChar_4cfef_28 ?_
      exact h
    · have h := h.2 c19
      refine qr_iload 22 24 rfl (x := x5) rfl dJ1_indexOfChar_4cfef_22 ?_
      exact qe_i 24 rfl dJ1_indexOfChar_4cfef_24 h
theorem dJ2_length_9d52b_0 : decode cJ2_length_9d52b 0 = .ok (.aload_n 0, 1) := by decide +kernel
theorem dJ2_length_9d52b_1 : decode cJ2_length_9d52b 1 = .ok (.arraylength, 1) := by decide +kernel
theorem dJ2_length_9d52b_2 : decode cJ2_length_9d52b 2 = .ok (.iconst 1, 1) := by decide +kernel
theorem dJ2_length_9d52b_3 : decode cJ2_length_9d52b 3 = .ok (.ishr, 1) := by decide +kernel
theorem dJ2_length_9d52b_4 : decode cJ2_length_9d52b 4 = .ok (.ireturn, 1) := by decide +kernel
theorem bJ2_length_9d52b_0 {d : Nat} {P : Int → q_Mem → Prop} {M : q_Mem} (i0 : Nat) (hi0 : i0 < 22) (h : P (q_shr ((q_sb i0).length : Int) 1) M) : q_v mJ2_length_9d52b d (qPI P) M 0 [some (qR (-(i0 : Int) - 101))] [] := by
  refine qr_aload_n 0 1 rfl (x := (-(i0 : Int) - 101)) rfl dJ2_length_9d52b_0 ?_
  refine qr_slen 1 2 rfl i0 hi0 dJ2_length_9d52b_1 ?_
  refine qr_iconst 2 3 rfl (q_l32 _ rfl) dJ2_length_9d52b_2 ?_
  refine qr_ishr 3 4 rfl dJ2_length_9d52b_3 ?_
  exact qe_i 4 rfl dJ2_length_9d52b_4 h
theorem dJ2_indexOf_4cfef_0 : decode cJ2_indexOf_4cfef 0 = .ok (.iload_n 2, 1) := by decide +kernel
theorem dJ2_indexOf_4cfef_1 : decode cJ2_indexOf_4cfef 1 = .ok (.iconst 0, 1) := by decide +kernel
theorem dJ2_indexOf_4cfef_2 : decode cJ2_indexOf_4cfef 2 = .ok (.invokestatic 224, 3) := by decide +kernel
theorem dJ2_indexOf_4cfef_5 : decode cJ2_indexOf_4cfef 5 = .ok (.istore_n 2, 1) := by decide +kernel
theorem dJ2_indexOf_4cfef_6 : decode cJ2_indexOf_4cfef 6 = .ok (.iload_n 3, 1) := by decide +kernel
theorem dJ2_indexOf_4cfef_7 : decode cJ2_indexOf_4cfef 7 = .ok (.aload_n 0, 1) := by decide +kernel
theorem dJ2_indexOf_4cfef_8 : decode cJ2_indexOf_4cfef 8 = .ok (.arraylength, 1) := by decide +kernel
theorem dJ2_indexOf_4cfef_9 : decode cJ2_indexOf_4cfef 9 = .ok (.iconst 1, 1) := by decide +kernel
theorem dJ2_indexOf_4cfef_10 : decode cJ2_indexOf_4cfef 10 = .ok (.ishr, 1) := by decide +kernel
theorem dJ2_indexOf_4cfef_11 : decode cJ2_indexOf_4cfef 11 = .ok (.invokestatic 183, 3) := by decide +kernel
theorem dJ2_indexOf_4cfef_14 : decode cJ2_indexOf_4cfef 14 = .ok (.istore_n 3, 1) := by decide +kernel
theorem dJ2_indexOf_4cfef_15 : decode cJ2_indexOf_4cfef 15 = .ok (.iload_n 2, 1) := by decide +kernel
theorem dJ2_indexOf_4cfef_16 : decode cJ2_indexOf_4cfef 16 = .ok (.iload_n 3, 1) := by decide +kernel
theorem dJ2_indexOf_4cfef_17 : decode cJ2_indexOf_4cfef 17 = .ok (.if_icmp .lt 5, 3) := by decide +kernel
theorem dJ2_indexOf_4cfef_20 : decode cJ2_indexOf_4cfef 20 = .ok (.iconst (-1), 1) := by decide +kernel
theorem dJ2_indexOf_4cfef_21 : decode cJ2_indexOf_4cfef 21 = .ok (.ireturn, 1) := by decide +kernel
theorem dJ2_indexOf_4cfef_22 : decode cJ2_indexOf_4cfef 22 = .ok (.iload_n 1, 1) := by decide +kernel
theorem dJ2_indexOf_4cfef_23 : decode cJ2_indexOf_4cfef 23 = .ok (.ldc 227, 2) := by decide +kernel
theorem dJ2_indexOf_4cfef_25 : decode cJ2_indexOf_4cfef 25 = .ok (.if_icmp .ge 11, 3) := by decide +kernel
theorem dJ2_indexOf_4cfef_28 : decode cJ2_indexOf_4cfef 28 = .ok (.aload_n 0, 1) := by decide +kernel
theorem dJ2_indexOf_4cfef_29 : decode cJ2_indexOf_4cfef 29 = .ok (.iload_n 1, 1) := by decide +kernel
theorem dJ2_indexOf_4cfef_30 : decode cJ2_indexOf_4cfef 30 = .ok (.iload_n 2, 1) := by decide +kernel
theorem dJ2_indexOf_4cfef_31 : decode cJ2_indexOf_4cfef 31 = .ok (.iload_n 3, 1) := by decide +kernel
theorem dJ2_indexOf_4cfef_32 : decode cJ2_indexOf_4cfef 32 = .ok (.invokestatic 228, 3) := by decide +kernel
theorem dJ2_indexOf_4cfef_35 : decode cJ2_indexOf_4cfef 35 = .ok (.ireturn, 1) := by decide +kernel
theorem dJ2_indexOf_4cfef_36 : decode cJ2_indexOf_4cfef 36 = .ok (.aload_n 0, 1) := by decide +kernel
theorem dJ2_indexOf_4cfef_37 : decode cJ2_indexOf_4cfef 37 = .ok (.iload_n 1, 1) := by decide +kernel
theorem dJ2_indexOf_4cfef_38 : decode cJ2_indexOf_4cfef 38 = .ok (.iload_n 2, 1) := by decide +kernel
theorem dJ2_indexOf_4cfef_39 : decode cJ2_indexOf_4cfef 39 = .ok (.iload_n 3, 1) := by decide +kernel
theorem dJ2_indexOf_4cfef_40 : decode cJ2_indexOf_4cfef 40 = .ok (.invokestatic 232, 3) := by decide +kernel
theorem dJ2_indexOf_4cfef_43 : decode cJ2_indexOf_4cfef 43 = .ok (.ireturn, 1) := by decide +kernel
theorem bJ2_indexOf_4cfef_0 {d : Nat} {P : Int → q_Mem → Prop} {M : q_Mem} (x1 x2 x3 : Int) (i0 : Nat) (hi0 : i0 < 22) (h : q_kI yJ9_max_7cf53 mJ9_max_7cf53 d [qI x2, qI 0] M (fun v2 M1 => q_kI yJ9_min_7cf53 mJ9_min_7cf53 d [qI x3, qI (q_shr ((q_sb i0).length : Int) 1)] M1 (fun v4 M3 => ((v2 < v4) → (((65536 : Int) ≤ x1) → q_kI yJ2_indexOfSupplementary_4cfef mJ2_indexOfSupplementary_4cfef d [qR (-(i0 : Int) - 101), qI x1, qI v2, qI v4] M3 (fun v6 M5 => P v6 M5)) ∧ ((¬ ((65536 : Int) ≤ x1)) → q_kI yJ2_indexOfChar_4cfef mJ2_indexOfChar_4cfef d [qR (-(i0 : Int) - 101), qI x1, qI v2, qI v4] M3 (fun v8 M7 => P v8 M7))) ∧ ((¬ (v2 < v4)) → P (-1) M3)))) : q_v mJ2_indexOf_4cfef d (qPI P) M 0 [some (qR (-(i0 : Int) - 101)), some (qI x1), some (qI x2), some (qI x3)] [] := by
  refine qr_iload_n 0 1 rfl (x := x2) rfl dJ2_indexOf_4cfef_0 ?_
  refine qr_iconst 1 2 rfl (q_l32 _ rfl) dJ2_indexOf_4cfef_1 ?_
  refine qs_I 2 5 rfl (av := [qI x2, qI 0]) ca_J9_max_7cf53 wm_520 wm_529 rfl rfl (Nat.le_of_ble_eq_true rfl) dJ2_indexOf_4cfef_2 h (fun v2 M1 h => ?_)
  refine qr_istore_n 5 6 rfl (by decide) rfl rfl dJ2_indexOf_4cfef_5 ?_
  refine qr_iload_n 6 7 rfl (x := x3) rfl dJ2_indexOf_4cfef_6 ?_
  refine qr_aload_n 7 8 rfl (x := (-(i0 : Int) - 101)) rfl dJ2_indexOf_4cfef_7 ?_
  refine qr_slen 8 9 rfl i0 hi0 dJ2_indexOf_4cfef_8 ?_
  refine qr_iconst 9 10 rfl (q_l32 _ rfl) dJ2_indexOf_4cfef_9 ?_
  refine qr_ishr 10 11 rfl dJ2_indexOf_4cfef_10 ?_
  refine qs_I 11 14 rfl (av := [qI x3, qI (q_shr ((q_sb i0).length : Int) 1)]) ca_J9_min_7cf53 wm_452 wm_530 rfl rfl (Nat.le_of_ble_eq_true rfl) dJ2_indexOf_4cfef_11 h (fun v4 M3 h => ?_)
  refine qr_istore_n 14 15 rfl (by decide) rfl rfl dJ2_indexOf_4cfef_14 ?_
  refine qr_iload_n 15 16 rfl (x := v2) rfl dJ2_indexOf_4cfef_15 ?_
  refine qr_iload_n 16 17 rfl (x := v4) rfl dJ2_indexOf_4cfef_16 ?_
  refine qr_icmp_lt 17 20 22 rfl (by decide) dJ2_indexOf_4cfef_17 (fun c17 => ?_) (fun c17 => ?_)
  · have h := h.1 c17
    refine qr_iload_n 22 23 rfl (x := x1) rfl dJ2_indexOf_4cfef_22 ?_
    refine qr_ldc 23 25 rfl (v := 65536) (q_l32 _ rfl) wm_531 dJ2_indexOf_4cfef_23 ?_
    refine qr_icmp_ge 25 28 36 rfl (by decide) dJ2_indexOf_4cfef_25 (fun c25 => ?_) (fun c25 => ?_)
    · have h := h.1 c25
      refine qr_aload_n 36 37 rfl (x := (-(i0 : Int) - 101)) rfl dJ2_indexOf_4cfef_36 ?_
      refine qr_iload_n 37 38 rfl (x := x1) rfl dJ2_indexOf_4cfef_37 ?_
      refine qr_iload_n 38 39 rfl (x := v2) rfl dJ2_indexOf_4cfef_38 ?_
      refine qr_iload_n 39 40 rfl (x := v4) rfl dJ2_indexOf_4cfef_39 ?_
      refine qs_I 40 43 rfl (av := [qR (-(i0 : Int) - 101), qI x1, qI v2, qI v4]) ca_J2_indexOfSupplementary_4cfef wm_562 wm_561 rfl rfl (Nat.le_of_ble_eq_true rfl) dJ2_indexOf_4cfef_40 h (fun v6 M5 h => ?_)
      exact qe_i 43 rfl dJ2_indexOf_4cfef_43 h
    · have h := h.2 c25
      refine qr_aload_n 28 29 rfl (x := (-(i0 : Int) - 101)) rfl dJ2_indexOf_4cfef_28 ?_
      refine qr_iload_n 29 30 rfl (x := x1) rfl dJ2_indexOf_4cfef_29 ?_
      refine qr_iload_n 30 31 rfl (x := v2) rfl dJ2_indexOf_4cfef_30 ?_
      refine qr_iload_n 31 32 rfl (x := v4) rfl dJ2_indexOf_4cfef_31 ?_
      refine qs_I 32 35 rfl (av := [qR (-(i0 : Int) - 101), qI x1, qI v2, qI v4]) ca_J2_indexOfChar_4cfef wm_533 wm_532 rfl rfl (Nat.le_of_ble_eq_true rfl) dJ2_indexOf_4cfef_32 h (fun v8 M7 h => ?_)
      exact qe_i 35 rfl dJ2_indexOf_4cfef_35 h
  · have h := h.2 c17
    refine qr_iconst 20 21 rfl (q_l32 _ rfl) dJ2_indexOf_4cfef_20 ?_
    exact qe_i 21 rfl dJ2_indexOf_4cfef_21 h
theorem dJ2_indexOfChar_4cfef_0 : decode cJ2_indexOfChar_4cfef 0 = .ok (.iload_n 2, 1) := by decide +kernel
theorem dJ2_indexOfChar_4cfef_1 : decode cJ2_indexOfChar_4cfef 1 = .ok (.iload_n 3, 1) := by decide +kernel
theorem dJ2_indexOfChar_4cfef_2 : decode cJ2_indexOfChar_4cfef 2 = .ok (.aload_n 0, 1) := by decide +kernel
theorem dJ2_indexOfChar_4cfef_3 : decode cJ2_indexOfChar_4cfef 3 = .ok (.invokestatic 96, 3) := by decide +kernel
theorem dJ2_indexOfChar_4cfef_6 : decode cJ2_indexOfChar_4cfef 6 = .ok (.aload_n 0, 1) := by decide +kernel
theorem dJ2_indexOfChar_4cfef_7 : decode cJ2_indexOfChar_4cfef 7 = .ok (.iload_n 1, 1) := by decide +kernel
theorem dJ2_indexOfChar_4cfef_8 : decode cJ2_indexOfChar_4cfef 8 = .ok (.iload_n 2, 1) := by decide +kernel
theorem dJ2_indexOfChar_4cfef_9 : decode cJ2_indexOfChar_4cfef 9 = .ok (.iload_n 3, 1) := by decide +kernel
theorem dJ2_indexOfChar_4cfef_10 : decode cJ2_indexOfChar_4cfef 10 = .ok (.invokestatic 244, 3) := by decide +kernel
theorem dJ2_indexOfChar_4cfef_13 : decode cJ2_indexOfChar_4cfef 13 = .ok (.ireturn, 1) := by decide +kernel
theorem bJ2_indexOfChar_4cfef_0 {d : Nat} {P : Int → q_Mem → Prop} {M : q_Mem} (x1 x2 x3 : Int) (i0 : Nat) (hi0 : i0 < 22) (h : q_kU yJ2_checkBoundsBeginEnd_d044e mJ2_checkBoundsBeginEnd_d044e d [qI x2, qI x3, qR (-(i0 : Int) - 101)] M (fun M1 => q_kI yJ2_indexOfCharUnsafe_4cfef mJ2_indexOfCharUnsafe_4cfef d [qR (-(i0 : Int) - 101), qI x1, qI x2, qI x3] M1 (fun v3 M2 => P v3 M2))) : q_v mJ2_indexOfChar_4cfef d (qPI P) M 0 [some (qR (-(i0 : Int) - 101)), some (qI x1), some (qI x2), some (qI x3)] [] := by
  refine qr_iload_n 0 1 rfl (x := x2) rfl dJ2_indexOfChar_4cfef_0 ?_
  refine qr_iload_n 1 2 rfl (x := x3) rfl dJ2_indexOfChar_4cfef_1 ?_
  refine qr_aload_n 2 3 rfl (x := (-(i0 : Int) - 101)) rfl dJ2_indexOfChar_4cfef_2 ?_
  refine qs_U 3 6 rfl (av := [qI x2, qI x3, qR (-(i0 : Int) - 101)]) ca_J2_checkBoundsBeginEnd_d044e wm_536 wm_535 rfl rfl (Nat.le_of_ble_eq_true rfl) dJ2_indexOfChar_4cfef_3 h (fun M1 h => ?_)
  refine qr_aload_n 6 7 rfl (x := (-(i0 : Int) - 101)) rfl dJ2_indexOfChar_4cfef_6 ?_
  refine qr_iload_n 7 8 rfl (x := x1) rfl dJ2_indexOfChar_4cfef_7 ?_
  refine qr_iload_n 8 9 rfl (x := x2) rfl dJ2_indexOfChar_4cfef_8 ?_
  refine qr_iload_n 9 10 rfl (x := x3) rfl dJ2_indexOfChar_4cfef_9 ?_
  refine qs_I 10 13 rfl (av := [qR (-(i0 : Int) - 101), qI x1, qI x2, qI x3]) ca_J2_indexOfCharUnsafe_4cfef wm_550 wm_549 rfl rfl (Nat.le_of_ble_eq_true rfl) dJ2_indexOfChar_4cfef_10 h (fun v3 M2 h => ?_)
  exact qe_i 13 rfl dJ2_indexOfChar_4cfef_13 h
theorem dJ2_indexOfCharUnsafe_4cfef_0 : decode cJ2_indexOfCharUnsafe_4cfef 0 = .ok (.iload_n 2, 1) := by decide +kernel
theorem dJ2_indexOfCharUnsafe_4cfef_1 : decode cJ2_indexOfCharUnsafe_4cfef 1 = .ok (.istore 4, 2) := by decide +kernel
theorem dJ2_indexOfCharUnsafe_4cfef_3 : decode cJ2_indexOfCharUnsafe_4cfef 3 = .ok (.iload 4, 2) := by decide +kernel
theorem dJ2_indexOfCharUnsafe_4cfef_5 : decode cJ2_indexOfCharUnsafe_4cfef 5 = .ok (.iload_n 3, 1) := by decide +kernel
theorem dJ2_indexOfCharUnsafe_4cfef_6 : decode cJ2_indexOfCharUnsafe_4cfef 6 = .ok (.if_icmp .ge 22, 3) := by decide +kernel
theorem dJ2_indexOfCharUnsafe_4cfef_9 : decode cJ2_indexOfCharUnsafe_4cfef 9 = .ok (.aload_n 0, 1) := by decide +kernel
theorem dJ2_indexOfCharUnsafe_4cfef_10 : decode cJ2_indexOfCharUnsafe_4cfef 10 = .ok (.iload 4, 2) := by decide +kernel
theorem dJ2_indexOfCharUnsafe_4cfef_12 : decode cJ2_indexOfCharUnsafe_4cfef 12 = .ok (.invokestatic 71, 3) := by decide +kernel
theorem dJ2_indexOfCharUnsafe_4cfef_15 : decode cJ2_indexOfCharUnsafe_4cfef 15 = .ok (.iload_n 1, 1) := by decide +kernel
theorem dJ2_indexOfCharUnsafe_4cfef_16 : decode cJ2_indexOfCharUnsafe_4cfef 16 = .ok (.if_icmp .ne 6, 3) := by decide +kernel
theorem dJ2_indexOfCharUnsafe_4cfef_19 : decode cJ2_indexOfCharUnsafe_4cfef 19 = .ok (.iload 4, 2) := by decide +kernel
theorem dJ2_indexOfCharUnsafe_4cfef_21 : decode cJ2_indexOfCharUnsafe_4cfef 21 = .ok (.ireturn, 1) := by decide +kernel
theorem dJ2_indexOfCharUnsafe_4cfef_22 : decode cJ2_indexOfCharUnsafe_4cfef 22 = .ok (.iinc 4 1, 3) := by decide +kernel
theorem dJ2_indexOfCharUnsafe_4cfef_25 : decode cJ2_indexOfCharUnsafe_4cfef 25 = .ok (.goto (-22), 3) := by decide +kernel
theorem dJ2_indexOfCharUnsafe_4cfef_28 : decode cJ2_indexOfCharUnsafe_4cfef 28 = .ok (.iconst (-1), 1) := by decide +kernel
theorem dJ2_indexOfCharUnsafe_4cfef_29 : decode cJ2_indexOfCharUnsafe_4cfef 29 = .ok (.ireturn, 1) := by decide +kernel
theorem bJ2_indexOfCharUnsafe_4cfef_0 {d : Nat} {P : Int → q_Mem → Prop} {M : q_Mem} (x1 x2 x3 : Int) (i0 : Nat) (hi0 : i0 < 22) (h : q_v mJ2_indexOfCharUnsafe_4cfef d (qPI P) M 3 [some (qR (-(i0 : Int) - 101)), some (qI x1), none, some (qI x3), some (qI x2)] []) : q_v mJ2_indexOfCharUnsafe_4cfef d (qPI P) M 0 [some (qR (-(i0 : Int) - 101)), some (qI x1), some (qI x2), some (qI x3), none] [] := by
  refine qr_iload_n 0 1 rfl (x := x2) rfl dJ2_indexOfCharUnsafe_4cfef_0 ?_
  refine qr_istore 1 3 rfl (by decide) rfl rfl dJ2_indexOfCharUnsafe_4cfef_1 ?_
  exact qr_cut 3 (ls' := [some (qR (-(i0 : Int) - 101)), some (qI x1), none, some (qI x3), some (qI x2)]) (And.intro rfl (And.intro rfl (And.intro rfl (And.intro rfl trivial)))) h
theorem bJ2_indexOfCharUnsafe_4cfef_3 {d : Nat} {P : Int → q_Mem → Prop} {M : q_Mem} (x1 x3 x4 : Int) (i0 : Nat) (hi0 : i0 < 22) (h : ((x3 ≤ x4) → P (-1) M) ∧ ((¬ (x3 ≤ x4)) → q_kI yJ2_getChar_3b067 mJ2_getChar_3b067 d [qR (-(i0 : Int) - 101), qI x4] M (fun v2 M1 => ((¬ v2 = x1) → q_v mJ2_indexOfCharUnsafe_4cfef d (qPI P) M1 3 [some (qR (-(i0 : Int) - 101)), some (qI x1), none, some (qI x3), some (qI (q_add x4 1))] []) ∧ ((v2 = x1) → P x4 M1)))) : q_v mJ2_indexOfCharUnsafe_4cfef d (qPI P) M 3 [some (qR (-(i0 : Int) - 101)), some (qI x1), none, some (qI x3), some (qI x4)] [] := by
  refine qr_iload 3 5 rfl (x := x4) rfl dJ2_indexOfCharUnsafe_4cfef_3 ?_
  refine qr_iload_n 5 6 rfl (x := x3) rfl dJ2_indexOfCharUnsafe_4cfef_5 ?_
  refine qr_icmp_ge 6 9 28 rfl (by decide) dJ2_indexOfCharUnsafe_4cfef_6 (fun c6 => ?_) (fun c6 => ?_)
  · have h := h.1 c6
    refine qr_iconst 28 29 rfl (q_l32 _ rfl) dJ2_indexOfCharUnsafe_4cfef_28 ?_
    exact qe_i 29 rfl dJ2_indexOfCharUnsafe_4cfef_29 h
  · have h := h.2 c6
    refine qr_aload_n 9 10 rfl (x := (-(i0 : Int) - 101)) rfl dJ2_indexOfCharUnsafe_4cfef_9 ?_
    refine qr_iload 10 12 rfl (x := x4) rfl dJ2_indexOfCharUnsafe_4cfef_10 ?_
    refine qs_I 12 15 rfl (av := [qR (-(i0 : Int) - 101), qI x4]) ca_J2_getChar_3b067 wm_553 wm_552 rfl rfl (Nat.le_of_ble_eq_true rfl) dJ2_indexOfCharUnsafe_4cfef_12 h (fun v2 M1 h => ?_)
    refine qr_iload_n 15 16 rfl (x := x1) rfl dJ2_indexOfCharUnsafe_4cfef_15 ?_
    refine qr_icmp_ne 16 19 22 rfl (by decide) dJ2_indexOfCharUnsafe_4cfef_16 (fun c16 => ?_) (fun c16 => ?_)
    · have h := h.1 c16
      refine qr_iinc 22 25 rfl (by decide) (x := x4) rfl rfl rfl dJ2_indexOfCharUnsafe_4cfef_22 ?_
      refine qr_goto 25 3 (by decide) dJ2_indexOfCharUnsafe_4cfef_25 ?_
      exact h
    · have h := h.2 c16
      refine qr_iload 19 21 rfl (x := x4) rfl dJ2_indexOfCharUnsafe_4cfef_19 ?_
      exact qe_i 21 rfl dJ2_indexOfCharUnsafe_4cfef_21 h
theorem dJ2_indexOfSupplementary_4cfef_0 : decode cJ2_indexOfSupplementary_4cfef 0 = .ok (.iload_n 1, 1) := by decide +kernel
theorem dJ2_indexOfSupplementary_4cfef_1 : decode cJ2_indexOfSupplementary_4cfef 1 = .ok (.invokestatic 164, 3) := by decide +kernel
theorem dJ2_indexOfSupplementary_4cfef_4 : decode cJ2_indexOfSupplementary_4cfef 4 = .ok (.ifCond .eq 65, 3) := by decide +kernel
theorem dJ2_indexOfSupplementary_4cfef_7 : decode cJ2_indexOfSupplementary_4cfef 7 = .ok (.iload_n 1, 1) := by decide +kernel
theorem dJ2_indexOfSupplementary_4cfef_8 : decode cJ2_indexOfSupplementary_4cfef 8 = .ok (.invokestatic 157, 3) := by decide +kernel
theorem dJ2_indexOfSupplementary_4cfef_11 : decode cJ2_indexOfSupplementary_4cfef 11 = .ok (.istore 4, 2) := by decide +kernel
theorem dJ2_indexOfSupplementary_4cfef_13 : decode cJ2_indexOfSupplementary_4cfef 13 = .ok (.iload_n 1, 1) := by decide +kernel
theorem dJ2_indexOfSupplementary_4cfef_14 : decode cJ2_indexOfSupplementary_4cfef 14 = .ok (.invokestatic 161, 3) := by decide +kernel
theorem dJ2_indexOfSupplementary_4cfef_17 : decode cJ2_indexOfSupplementary_4cfef 17 = .ok (.istore 5, 2) := by decide +kernel
theorem dJ2_indexOfSupplementary_4cfef_19 : decode cJ2_indexOfSupplementary_4cfef 19 = .ok (.iload_n 2, 1) := by decide +kernel
theorem dJ2_indexOfSupplementary_4cfef_20 : decode cJ2_indexOfSupplementary_4cfef 20 = .ok (.iload_n 3, 1) := by decide +kernel
theorem dJ2_indexOfSupplementary_4cfef_21 : decode cJ2_indexOfSupplementary_4cfef 21 = .ok (.aload_n 0, 1) := by decide +kernel
theorem dJ2_indexOfSupplementary_4cfef_22 : decode cJ2_indexOfSupplementary_4cfef 22 = .ok (.invokestatic 96, 3) := by decide +kernel
theorem dJ2_indexOfSupplementary_4cfef_25 : decode cJ2_indexOfSupplementary_4cfef 25 = .ok (.iload_n 2, 1) := by decide +kernel
theorem dJ2_indexOfSupplementary_4cfef_26 : decode cJ2_indexOfSupplementary_4cfef 26 = .ok (.istore 6, 2) := by decide +kernel
theorem dJ2_indexOfSupplementary_4cfef_28 : decode cJ2_indexOfSupplementary_4cfef 28 = .ok (.iload 6, 2) := by decide +kernel
theorem dJ2_indexOfSupplementary_4cfef_30 : decode cJ2_indexOfSupplementary_4cfef 30 = .ok (.iload_n 3, 1) := by decide +kernel
theorem dJ2_indexOfSupplementary_4cfef_31 : decode cJ2_indexOfSupplementary_4cfef 31 = .ok (.iconst 1, 1) := by decide +kernel
theorem dJ2_indexOfSupplementary_4cfef_32 : decode cJ2_indexOfSupplementary_4cfef 32 = .ok (.isub, 1) := by decide +kernel
theorem dJ2_indexOfSupplementary_4cfef_33 : decode cJ2_indexOfSupplementary_4cfef 33 = .ok (.if_icmp .ge 36, 3) := by decide +kernel
theorem dJ2_indexOfSupplementary_4cfef_36 : decode cJ2_indexOfSupplementary_4cfef 36 = .ok (.aload_n 0, 1) := by decide +kernel
theorem dJ2_indexOfSupplementary_4cfef_37 : decode cJ2_indexOfSupplementary_4cfef 37 = .ok (.iload 6, 2) := by decide +kernel
theorem dJ2_indexOfSupplementary_4cfef_39 : decode cJ2_indexOfSupplementary_4cfef 39 = .ok (.invokestatic 71, 3) := by decide +kernel
theorem dJ2_indexOfSupplementary_4cfef_42 : decode cJ2_indexOfSupplementary_4cfef 42 = .ok (.iload 4, 2) := by decide +kernel
theorem dJ2_indexOfSupplementary_4cfef_44 : decode cJ2_indexOfSupplementary_4cfef 44 = .ok (.if_icmp .ne 19, 3) := by decide +kernel
theorem dJ2_indexOfSupplementary_4cfef_47 : decode cJ2_indexOfSupplementary_4cfef 47 = .ok (.aload_n 0, 1) := by decide +kernel
theorem dJ2_indexOfSupplementary_4cfef_48 : decode cJ2_indexOfSupplementary_4cfef 48 = .ok (.iload 6, 2) := by decide +kernel
theorem dJ2_indexOfSupplementary_4cfef_50 : decode cJ2_indexOfSupplementary_4cfef 50 = .ok (.iconst 1, 1) := by decide +kernel
theorem dJ2_indexOfSupplementary_4cfef_51 : decode cJ2_indexOfSupplementary_4cfef 51 = .ok (.iadd, 1) := by decide +kernel
theorem dJ2_indexOfSupplementary_4cfef_52 : decode cJ2_indexOfSupplementary_4cfef 52 = .ok (.invokestatic 71, 3) := by decide +kernel
theorem dJ2_indexOfSupplementary_4cfef_55 : decode cJ2_indexOfSupplementary_4cfef 55 = .ok (.iload 5, 2) := by decide +kernel
theorem dJ2_indexOfSupplementary_4cfef_57 : decode cJ2_indexOfSupplementary_4cfef 57 = .ok (.if_icmp .ne 6, 3) := by decide +kernel
theorem dJ2_indexOfSupplementary_4cfef_60 : decode cJ2_indexOfSupplementary_4cfef 60 = .ok (.iload 6, 2) := by decide +kernel
theorem dJ2_indexOfSupplementary_4cfef_62 : decode cJ2_indexOfSupplementary_4cfef 62 = .ok (.ireturn, 1) := by decide +kernel
theorem dJ2_indexOfSupplementary_4cfef_63 : decode cJ2_indexOfSupplementary_4cfef 63 = .ok (.iinc 6 1, 3) := by decide +kernel
theorem dJ2_indexOfSupplementary_4cfef_66 : decode cJ2_indexOfSupplementary_4cfef 66 = .ok (.goto (-38), 3) := by decide +kernel
theorem dJ2_indexOfSupplementary_4cfef_69 : decode cJ2_indexOfSupplementary_4cfef 69 = .ok (.iconst (-1), 1) := by decide +kernel
theorem dJ2_indexOfSupplementary_4cfef_70 : decode cJ2_indexOfSupplementary_4cfef 70 = .ok (.ireturn, 1) := by decide +kernel
theorem bJ2_indexOfSupplementary_4cfef_0 {d : Nat} {P : Int → q_Mem → Prop} {M : q_Mem} (x1 x2 x3 : Int) (i0 : Nat) (hi0 : i0 < 22) (h : q_kI yJ11_isValidCodePoint_9a6ad mJ11_isValidCodePoint_9a6ad d [qI x1] M (fun v2 M1 => ((v2 = 0) → P (-1) M1) ∧ ((¬ (v2 = 0)) → q_kI yJ11_highSurrogate_5068e mJ11_highSurrogate_5068e d [qI x1] M1 (fun v4 M3 => q_kI yJ11_lowSurrogate_5068e mJ11_lowSurrogate_5068e d [qI x1] M3 (fun v6 M5 => q_kU yJ2_checkBoundsBeginEnd_d044e mJ2_checkBoundsBeginEnd_d044e d [qI x2, qI x3, qR (-(i0 : Int) - 101)] M5 (fun M7 => q_v mJ2_indexOfSupplementary_4cfef d (qPI P) M7 28 [some (qR (-(i0 : Int) - 101)), none, none, some (qI x3), some (qI v4), some (qI v6), some (qI x2)] [])))))) : q_v mJ2_indexOfSupplementary_4cfef d (qPI P) M 0 [some (qR (-(i0 : Int) - 101)), some (qI x1), some (qI x2), some (qI x3), none, none, none] [] := by
  refine qr_iload_n 0 1 rfl (x := x1) rfl dJ2_indexOfSupplementary_4cfef_0 ?_
  refine qs_I 1 4 rfl (av := [qI x1]) ca_J11_isValidCodePoint_9a6ad wm_565 wm_564 rfl rfl (Nat.le_of_ble_eq_true rfl) dJ2_indexOfSupplementary_4cfef_1 h (fun v2 M1 h => ?_)
  refine qr_if_eq 4 7 69 rfl (by decide) dJ2_indexOfSupplementary_4cfef_4 (fun c4 => ?_) (fun c4 => ?_)
  · have h := h.1 c4
    refine qr_iconst 69 70 rfl (q_l32 _ rfl) dJ2_indexOfSupplementary_4cfef_69 ?_
    exact qe_i 70 rfl dJ2_indexOfSupplementary_4cfef_70 h
  · have h := h.2 c4
    refine qr_iload_n 7 8 rfl (x := x1) rfl dJ2_indexOfSupplementary_4cfef_7 ?_
    refine qs_I 8 11 rfl (av := [qI x1]) ca_J11_highSurrogate_5068e wm_568 wm_567 rfl rfl (Nat.le_of_ble_eq_true rfl) dJ2_indexOfSupplementary_4cfef_8 h (fun v4 M3 h => ?_)
    refine qr_istore 11 13 rfl (by decide) rfl rfl dJ2_indexOfSupplementary_4cfef_11 ?_
    refine qr_iload_n 13 14 rfl (x := x1) rfl dJ2_indexOfSupplementary_4cfef_13 ?_
    refine qs_I 14 17 rfl (av := [qI x1]) ca_J11_lowSurrogate_5068e wm_572 wm_571 rfl rfl (Nat.le_of_ble_eq_true rfl) dJ2_indexOfSupplementary_4cfef_14 h (fun v6 M5 h => ?_)
    refine qr_istore 17 19 rfl (by decide) rfl rfl dJ2_indexOfSupplementary_4cfef_17 ?_
    refine qr_iload_n 19 20 rfl (x := x2) rfl dJ2_indexOfSupplementary_4cfef_19 ?_
    refine qr_iload_n 20 21 rfl (x := x3) rfl dJ2_indexOfSupplementary_4cfef_20 ?_
    refine qr_aload_n 21 22 rfl (x := (-(i0 : Int) - 101)) rfl dJ2_indexOfSupplementary_4cfef_21 ?_
    refine qs_U 22 25 rfl (av := [qI x2, qI x3, qR (-(i0 : Int) - 101)]) ca_J2_checkBoundsBeginEnd_d044e wm_536 wm_535 rfl rfl (Nat.le_of_ble_eq_true rfl) dJ2_indexOfSupplementary_4cfef_22 h (fun M7 h => ?_)
    refine qr_iload_n 25 26 rfl (x := x2) rfl dJ2_indexOfSupplementary_4cfef_25 ?_
    refine qr_istore 26 28 rfl (by decide) rfl rfl dJ2_indexOfSupplementary_4cfef_26 ?_
    exact qr_cut 28 (ls' := [some (qR (-(i0 : Int) - 101)), none, none, some (qI x3), some (qI v4), some (qI v6), some (qI x2)]) (And.intro rfl (And.intro rfl (And.intro rfl (And.intro rfl (And.intro rfl trivial))))) h
theorem bJ2_indexOfSupplementary_4cfef_28 {d : Nat} {P : Int → q_Mem → Prop} {M : q_Mem} (x3 x4 x5 x6 : Int) (i0 : Nat) (hi0 : i0 < 22) (h : (((q_sub x3 1) ≤ x6) → P (-1) M) ∧ ((¬ ((q_sub x3 1) ≤ x6)) → q_kI yJ2_getChar_3b067 mJ2_getChar_3b067 d [qR (-(i0 : Int) - 101), qI x6] M (fun v2 M1 => ((¬ v2 = x4) → q_v mJ2_indexOfSupplementary_4cfef d (qPI P) M1 28 [some (qR (-(i0 : Int) - 101)), none, none, some (qI x3), some (qI x4), some (qI x5), some (qI (q_add x6 1))] []) ∧ ((v2 = x4) → q_kI yJ2_getChar_3b067 mJ2_getChar_3b067 d [qR (-(i0 : Int) - 101), qI (q_add x6 1)] M1 (fun v4 M3 => ((¬ v4 = x5) → q_v mJ2_indexOfSupplementary_4cfef d (qPI P) M3 28 [some (qR (-(i0 : Int) - 101)), none, none, some (qI x3), some (qI x4), some (qI x5), some (qI (q_add x6 1))] []) ∧ ((v4 = x5) → P x6 M3)))))) : q_v mJ2_indexOfSupplementary_4cfef d (qPI P) M 28 [some (qR (-(i0 : Int) - 101)), none, none, some (qI x3), some (qI x4), some (qI x5), some (qI x6)] [] := by
  refine qr_iload 28 30 rfl (x := x6) rfl dJ2_indexOfSupplementary_4cfef_28 ?_
  refine qr_iload_n 30 31 rfl (x := x3) rfl dJ2_indexOfSupplementary_4cfef_30 ?_
  refine qr_iconst 31 32 rfl (q_l32 _ rfl) dJ2_indexOfSupplementary_4cfef_31 ?_
  refine qr_isub 32 33 rfl dJ2_indexOfSupplementary_4cfef_32 ?_
  refine qr_icmp_ge 33 36 69 rfl (by decide) dJ2_indexOfSupplementary_4cfef_33 (fun c33 => ?_) (fun c33 => ?_)
  · have h := h.1 c33
    refine qr_iconst 69 70 rfl (q_l32 _ rfl) dJ2_indexOfSupplementary_4cfef_69 ?_
    exact qe_i 70 rfl dJ2_indexOfSupplementary_4cfef_70 h
  · have h := h.2 c33
    refine qr_aload_n 36 37 rfl (x := (-(i0 : Int) - 101)) rfl dJ2_indexOfSupplementary_4cfef_36 ?_
    refine qr_iload 37 39 rfl (x := x6) rfl dJ2_indexOfSupplementary_4cfef_37 ?_
    refine qs_I 39 42 rfl (av := [qR (-(i0 : Int) - 101), qI x6]) ca_J2_getChar_3b067 wm_553 wm_552 rfl rfl (Nat.le_of_ble_eq_true rfl) dJ2_indexOfSupplementary_4cfef_39 h (fun v2 M1 h => ?_)
    refine qr_iload 42 44 rfl (x := x4) rfl dJ2_indexOfSupplementary_4cfef_42 ?_
    refine qr_icmp_ne 44 47 63 rfl (by decide) dJ2_indexOfSupplementary_4cfef_44 (fun c44 => ?_) (fun c44 => ?_)
    · have h := h.1 c44
      refine qr_iinc 63 66 rfl (by decide) (x := x6) rfl rfl rfl dJ2_indexOfSupplementary_4cfef_63 ?_
      refine qr_goto 66 28 (by decide) dJ2_indexOfSupplementary_4cfef_66 ?_
      exact h
    · have h := h.2 c44
      refine qr_aload_n 47 48 rfl (x := (-(i0 : Int) - 101)) rfl dJ2_indexOfSupplementary_4cfef_47 ?_
      refine qr_iload 48 50 rfl (x := x6) rfl dJ2_indexOfSupplementary_4cfef_48 ?_
      refine qr_iconst 50 51 rfl (q_l32 _ rfl) dJ2_indexOfSupplementary_4cfef_50 ?_
      refine qr_iadd 51 52 rfl dJ2_indexOfSupplementary_4cfef_51 ?_
      refine qs_I 52 55 rfl (av := [qR (-(i0 : Int) - 101), qI (q_add x6 1)]) ca_J2_getChar_3b067 wm_553 wm_552 rfl rfl (Nat.le_of_ble_eq_true rfl) dJ2_indexOfSupplementary_4cfef_52 h (fun v4 M3 h => ?_)
      refine qr_iload 55 57 rfl (x := x5) rfl dJ2_indexOfSupplementary_4cfef_55 ?_
      refine qr_icmp_ne 57 60 63 rfl (by decide) dJ2_indexOfSupplementary_4cfef_57 (fun c57 => ?_) (fun c57 => ?_)
      · have h := h.1 c57
        refine qr_iinc 63 66 rfl (by decide) (x := x6) rfl rfl rfl dJ2_indexOfSupplementary_4cfef_63 ?_
        refine qr_goto 66 28 (by decide) dJ2_indexOfSupplementary_4cfef_66 ?_
        exact h
      · have h := h.2 c57
        refine qr_iload 60 62 rfl (x := x6) rfl dJ2_indexOfSupplementary_4cfef_60 ?_
        exact qe_i 62 rfl dJ2_indexOfSupplementary_4cfef_62 h
theorem dJ2_charAt_3b067_0 : decode cJ2_charAt_3b067 0 = .ok (.iload_n 1, 1) := by decide +kernel
theorem dJ2_charAt_3b067_1 : decode cJ2_charAt_3b067 1 = .ok (.aload_n 0, 1) := by decide +kernel
theorem dJ2_charAt_3b067_2 : decode cJ2_charAt_3b067 2 = .ok (.invokestatic 67, 3) := by decide +kernel
theorem dJ2_charAt_3b067_5 : decode cJ2_charAt_3b067 5 = .ok (.aload_n 0, 1) := by decide +kernel
theorem dJ2_charAt_3b067_6 : decode cJ2_charAt_3b067 6 = .ok (.iload_n 1, 1) := by decide +kernel
theorem dJ2_charAt_3b067_7 : decode cJ2_charAt_3b067 7 = .ok (.invokestatic 71, 3) := by decide +kernel
theorem dJ2_charAt_3b067_10 : decode cJ2_charAt_3b067 10 = .ok (.ireturn, 1) := by decide +kernel
theorem bJ2_charAt_3b067_0 {d : Nat} {P : Int → q_Mem → Prop} {M : q_Mem} (x1 : Int) (i0 : Nat) (hi0 : i0 < 22) (h : q_kU yJ2_checkIndex_2214a mJ2_checkIndex_2214a d [qI x1, qR (-(i0 : Int) - 101)] M (fun M1 => q_kI yJ2_getChar_3b067 mJ2_getChar_3b067 d [qR (-(i0 : Int) - 101), qI x1] M1 (fun v3 M2 => (0 ≤ v3 ∧ v3 < 65536) ∧ P v3 M2))) : q_v mJ2_charAt_3b067 d (qPI P) M 0 [some (qR (-(i0 : Int) - 101)), some (qI x1)] [] := by
  refine qr_iload_n 0 1 rfl (x := x1) rfl dJ2_charAt_3b067_0 ?_
  refine qr_aload_n 1 2 rfl (x := (-(i0 : Int) - 101)) rfl dJ2_charAt_3b067_1 ?_
  refine qs_U 2 5 rfl (av := [qI x1, qR (-(i0 : Int) - 101)]) ca_J2_checkIndex_2214a wm_606 wm_605 rfl rfl (Nat.le_of_ble_eq_true rfl) dJ2_charAt_3b067_2 h (fun M1 h => ?_)
  refine qr_aload_n 5 6 rfl (x := (-(i0 : Int) - 101)) rfl dJ2_charAt_3b067_5 ?_
  refine qr_iload_n 6 7 rfl (x := x1) rfl dJ2_charAt_3b067_6 ?_
  refine qs_I 7 10 rfl (av := [qR (-(i0 : Int) - 101), qI x1]) ca_J2_getChar_3b067 wm_553 wm_552 rfl rfl (Nat.le_of_ble_eq_true rfl) dJ2_charAt_3b067_7 h (fun v3 M2 h => ?_)
  exact qe_c 10 rfl h.1 dJ2_charAt_3b067_10 h.2
theorem dJ2_checkIndex_2214a_0 : decode cJ2_checkIndex_2214a 0 = .ok (.iload_n 0, 1) := by decide +kernel
theorem dJ2_checkIndex_2214a_1 : decode cJ2_checkIndex_2214a 1 = .ok (.aload_n 1, 1) := by decide +kernel
theorem dJ2_checkIndex_2214a_2 : decode cJ2_checkIndex_2214a 2 = .ok (.invokestatic 48, 3) := by decide +kernel
theorem dJ2_checkIndex_2214a_5 : decode cJ2_checkIndex_2214a 5 = .ok (.invokestatic 414, 3) := by decide +kernel
theorem dJ2_checkIndex_2214a_8 : decode cJ2_checkIndex_2214a 8 = .ok (.return_, 1) := by decide +kernel
theorem bJ2_checkIndex_2214a_0 {d : Nat} {P : q_Mem → Prop} {M : q_Mem} (x0 : Int) (i1 : Nat) (hi1 : i1 < 22) (h : q_kI yJ2_length_9d52b mJ2_length_9d52b d [qR (-(i1 : Int) - 101)] M (fun v2 M1 => q_kU yJ0_checkIndex_df160 mJ0_checkIndex_df160 d [qI x0, qI v2] M1 (fun M3 => P M3))) : q_v mJ2_checkIndex_2214a d (qPU P) M 0 [some (qI x0), some (qR (-(i1 : Int) - 101))] [] := by
  refine qr_iload_n 0 1 rfl (x := x0) rfl dJ2_checkIndex_2214a_0 ?_
  refine qr_aload_n 1 2 rfl (x := (-(i1 : Int) - 101)) rfl dJ2_checkIndex_2214a_1 ?_
  refine qs_I 2 5 rfl (av := [qR (-(i1 : Int) - 101)]) ca_J2_length_9d52b wm_539 wm_538 rfl rfl (Nat.le_of_ble_eq_true rfl) dJ2_checkIndex_2214a_2 h (fun v2 M1 h => ?_)
  refine qs_U 5 8 rfl (av := [qI x0, qI v2]) ca_J0_checkIndex_df160 wm_597 wm_608 rfl rfl (Nat.le_of_ble_eq_true rfl) dJ2_checkIndex_2214a_5 h (fun M3 h => ?_)
  exact qe_u 8 rfl dJ2_checkIndex_2214a_8 h
theorem dJ2_checkBoundsBeginEnd_d044e_0 : decode cJ2_checkBoundsBeginEnd_d044e 0 = .ok (.iload_n 0, 1) := by decide +kernel
theorem dJ2_checkBoundsBeginEnd_d044e_1 : decode cJ2_checkBoundsBeginEnd_d044e 1 = .ok (.iload_n 1, 1) := by decide +kernel
theorem dJ2_checkBoundsBeginEnd_d044e_2 : decode cJ2_checkBoundsBeginEnd_d044e 2 = .ok (.aload_n 2, 1) := by decide +kernel
theorem dJ2_checkBoundsBeginEnd_d044e_3 : decode cJ2_checkBoundsBeginEnd_d044e 3 = .ok (.invokestatic 48, 3) := by decide +kernel
theorem dJ2_checkBoundsBeginEnd_d044e_6 : decode cJ2_checkBoundsBeginEnd_d044e 6 = .ok (.invokestatic 241, 3) := by decide +kernel
theorem dJ2_checkBoundsBeginEnd_d044e_9 : decode cJ2_checkBoundsBeginEnd_d044e 9 = .ok (.return_, 1) := by decide +kernel
theorem bJ2_checkBoundsBeginEnd_d044e_0 {d : Nat} {P : q_Mem → Prop} {M : q_Mem} (x0 x1 : Int) (i2 : Nat) (hi2 : i2 < 22) (h : q_kI yJ2_length_9d52b mJ2_length_9d52b d [qR (-(i2 : Int) - 101)] M (fun v2 M1 => q_kU yJ0_checkBoundsBeginEnd_23922 mJ0_checkBoundsBeginEnd_23922 d [qI x0, qI x1, qI v2] M1 (fun M3 => P M3))) : q_v mJ2_checkBoundsBeginEnd_d044e d (qPU P) M 0 [some (qI x0), some (qI x1), some (qR (-(i2 : Int) - 101))] [] := by
  refine qr_iload_n 0 1 rfl (x := x0) rfl dJ2_checkBoundsBeginEnd_d044e_0 ?_
  refine qr_iload_n 1 2 rfl (x := x1) rfl dJ2_checkBoundsBeginEnd_d044e_1 ?_
  refine qr_aload_n 2 3 rfl (x := (-(i2 : Int) - 101)) rfl dJ2_checkBoundsBeginEnd_d044e_2 ?_
  refine qs_I 3 6 rfl (av := [qR (-(i2 : Int) - 101)]) ca_J2_length_9d52b wm_539 wm_538 rfl rfl (Nat.le_of_ble_eq_true rfl) dJ2_checkBoundsBeginEnd_d044e_3 h (fun v2 M1 h => ?_)
  refine qs_U 6 9 rfl (av := [qI x0, qI x1, qI v2]) ca_J0_checkBoundsBeginEnd_23922 wm_542 wm_541 rfl rfl (Nat.le_of_ble_eq_true rfl) dJ2_checkBoundsBeginEnd_d044e_6 h (fun M3 h => ?_)
  exact qe_u 9 rfl dJ2_checkBoundsBeginEnd_d044e_9 h
theorem dJ7_rangeCheck_23922_0 : decode cJ7_rangeCheck_23922 0 = .ok (.iload_n 1, 1) := by decide +kernel
theorem dJ7_rangeCheck_23922_1 : decode cJ7_rangeCheck_23922 1 = .ok (.iload_n 2, 1) := by decide +kernel
theorem dJ7_rangeCheck_23922_2 : decode cJ7_rangeCheck_23922 2 = .ok (.if_icmp .le 44, 3) := by decide +kernel
theorem dJ7_rangeCheck_23922_46 : decode cJ7_rangeCheck_23922 46 = .ok (.iload_n 1, 1) := by decide +kernel
theorem dJ7_rangeCheck_23922_47 : decode cJ7_rangeCheck_23922 47 = .ok (.ifCond .ge 12, 3) := by decide +kernel
theorem dJ7_rangeCheck_23922_59 : decode cJ7_rangeCheck_23922 59 = .ok (.iload_n 2, 1) := by decide +kernel
theorem dJ7_rangeCheck_23922_60 : decode cJ7_rangeCheck_23922 60 = .ok (.iload_n 0, 1) := by decide +kernel
theorem dJ7_rangeCheck_23922_61 : decode cJ7_rangeCheck_23922 61 = .ok (.if_icmp .le 12, 3) := by decide +kernel
theorem dJ7_rangeCheck_23922_73 : decode cJ7_rangeCheck_23922 73 = .ok (.return_, 1) := by decide +kernel
theorem bJ7_rangeCheck_23922_0 {d : Nat} {P : q_Mem → Prop} {M : q_Mem} (x0 x1 x2 : Int) (h : ((x1 ≤ x2) → ((0 ≤ x1) → ((x2 ≤ x0) → P M) ∧ ((¬ (x2 ≤ x0)) → False)) ∧ ((¬ (0 ≤ x1)) → False)) ∧ ((¬ (x1 ≤ x2)) → False)) : q_v mJ7_rangeCheck_23922 d (qPU P) M 0 [some (qI x0), some (qI x1), some (qI x2)] [] := by
  refine qr_iload_n 0 1 rfl (x := x1) rfl dJ7_rangeCheck_23922_0 ?_
  refine qr_iload_n 1 2 rfl (x := x2) rfl dJ7_rangeCheck_23922_1 ?_
  refine qr_icmp_le 2 5 46 rfl (by decide) dJ7_rangeCheck_23922_2 (fun c2 => ?_) (fun c2 => ?_)
  · have h := h.1 c2
    refine qr_iload_n 46 47 rfl (x := x1) rfl dJ7_rangeCheck_23922_46 ?_
    refine qr_if_ge 47 50 59 rfl (by decide) dJ7_rangeCheck_23922_47 (fun c47 => ?_) (fun c47 => ?_)
    · have h := h.1 c47
      refine qr_iload_n 59 60 rfl (x := x2) rfl dJ7_rangeCheck_23922_59 ?_
      refine qr_iload_n 60 61 rfl (x := x0) rfl dJ7_rangeCheck_23922_60 ?_
      refine qr_icmp_le 61 64 73 rfl (by decide) dJ7_rangeCheck_23922_61 (fun c61 => ?_) (fun c61 => ?_)
      · have h := h.1 c61
        exact qe_u 73 rfl dJ7_rangeCheck_23922_73 h
      · have h := h.2 c61
        exact h.elim
    · have h := h.2 c47
      exact h.elim
  · have h := h.2 c2
    exact h.elim
theorem dJ7_fill_d0a16_0 : decode cJ7_fill_d0a16 0 = .ok (.iconst 0, 1) := by decide +kernel
theorem dJ7_fill_d0a16_1 : decode cJ7_fill_d0a16 1 = .ok (.istore_n 3, 1) := by decide +kernel
theorem dJ7_fill_d0a16_2 : decode cJ7_fill_d0a16 2 = .ok (.aload_n 0, 1) := by decide +kernel
theorem dJ7_fill_d0a16_3 : decode cJ7_fill_d0a16 3 = .ok (.arraylength, 1) := by decide +kernel
theorem dJ7_fill_d0a16_4 : decode cJ7_fill_d0a16 4 = .ok (.istore 4, 2) := by decide +kernel
theorem dJ7_fill_d0a16_6 : decode cJ7_fill_d0a16 6 = .ok (.iload_n 3, 1) := by decide +kernel
theorem dJ7_fill_d0a16_7 : decode cJ7_fill_d0a16 7 = .ok (.iload 4, 2) := by decide +kernel
theorem dJ7_fill_d0a16_9 : decode cJ7_fill_d0a16 9 = .ok (.if_icmp .ge 13, 3) := by decide +kernel
theorem dJ7_fill_d0a16_12 : decode cJ7_fill_d0a16 12 = .ok (.aload_n 0, 1) := by decide +kernel
theorem dJ7_fill_d0a16_13 : decode cJ7_fill_d0a16 13 = .ok (.iload_n 3, 1) := by decide +kernel
theorem dJ7_fill_d0a16_14 : decode cJ7_fill_d0a16 14 = .ok (.lload_n 1, 1) := by decide +kernel
theorem dJ7_fill_d0a16_15 : decode cJ7_fill_d0a16 15 = .ok (.lastore, 1) := by decide +kernel
theorem dJ7_fill_d0a16_16 : decode cJ7_fill_d0a16 16 = .ok (.iinc 3 1, 3) := by decide +kernel
theorem dJ7_fill_d0a16_19 : decode cJ7_fill_d0a16 19 = .ok (.goto (-13), 3) := by decide +kernel
theorem dJ7_fill_d0a16_22 : decode cJ7_fill_d0a16 22 = .ok (.return_, 1) := by decide +kernel
theorem bJ7_fill_d0a16_0 {d : Nat} {P : q_Mem → Prop} {M : q_Mem} (x0 x1 : Int) (k0 : q_kd x0 = 15) (h : (∀ x4_1 : Int, x4_1 = (q_ln x0 : Int) → q_v mJ7_fill_d0a16 d (qPU P) M 6 [some (qR x0), some (qL x1), none, some (qI 0), some (qI x4_1)] [])) : q_v mJ7_fill_d0a16 d (qPU P) M 0 [some (qR x0), some (qL x1), none, none, none] [] := by
  refine qr_iconst 0 1 rfl (q_l32 _ rfl) dJ7_fill_d0a16_0 ?_
  refine qr_istore_n 1 2 rfl (by decide) rfl rfl dJ7_fill_d0a16_1 ?_
  refine qr_aload_n 2 3 rfl (x := x0) rfl dJ7_fill_d0a16_2 ?_
  refine qr_alen 3 4 rfl (by rw [k0]; decide) dJ7_fill_d0a16_3 (q_ln32 _) ?_
  refine qn_i 4 (fun x4_1 e_x4_1 => ?_)
  have h := h x4_1 e_x4_1
  refine qr_istore 4 6 rfl (by decide) rfl rfl dJ7_fill_d0a16_4 ?_
  exact h
theorem bJ7_fill_d0a16_6 {d : Nat} {P : q_Mem → Prop} {M : q_Mem} (x0 x1 x3 x4 : Int) (k0 : q_kd x0 = 15) (h : ((x4 ≤ x3) → P M) ∧ ((¬ (x4 ≤ x3)) → (0 ≤ x3 ∧ x3 < (q_ln x0 : Int)) ∧ (∀ M2 : q_Mem, M2 = q_up M x0 x3 x1 → q_v mJ7_fill_d0a16 d (qPU P) M2 6 [some (qR x0), some (qL x1), none, some (qI (q_add x3 1)), some (qI x4)] []))) : q_v mJ7_fill_d0a16 d (qPU P) M 6 [some (qR x0), some (qL x1), none, some (qI x3), some (qI x4)] [] := by
  refine qr_iload_n 6 7 rfl (x := x3) rfl dJ7_fill_d0a16_6 ?_
  refine qr_iload 7 9 rfl (x := x4) rfl dJ7_fill_d0a16_7 ?_
  refine qr_icmp_ge 9 12 22 rfl (by decide) dJ7_fill_d0a16_9 (fun c9 => ?_) (fun c9 => ?_)
  · have h := h.1 c9
    exact qe_u 22 rfl dJ7_fill_d0a16_22 h
  · have h := h.2 c9
    refine qr_aload_n 12 13 rfl (x := x0) rfl dJ7_fill_d0a16_12 ?_
    refine qr_iload_n 13 14 rfl (x := x3) rfl dJ7_fill_d0a16_13 ?_
    refine qr_lload_n 14 15 rfl (x := x1) rfl dJ7_fill_d0a16_14 ?_
    have hb1 := h.1
    have h := h.2
    refine ql_st 15 16 rfl k0 rfl hb1.1 hb1.2 dJ7_fill_d0a16_15 (fun M2 e_M2 => ?_)
    have h := h M2 e_M2
    refine qr_iinc 16 19 rfl (by decide) (x := x3) rfl rfl rfl dJ7_fill_d0a16_16 ?_
    refine qr_goto 19 6 (by decide) dJ7_fill_d0a16_19 ?_
    exact h
theorem dJ7_fill_53178_0 : decode cJ7_fill_53178 0 = .ok (.iconst 0, 1) := by decide +kernel
theorem dJ7_fill_53178_1 : decode cJ7_fill_53178 1 = .ok (.istore_n 2, 1) := by decide +kernel
theorem dJ7_fill_53178_2 : decode cJ7_fill_53178 2 = .ok (.aload_n 0, 1) := by decide +kernel
theorem dJ7_fill_53178_3 : decode cJ7_fill_53178 3 = .ok (.arraylength, 1) := by decide +kernel
theorem dJ7_fill_53178_4 : decode cJ7_fill_53178 4 = .ok (.istore_n 3, 1) := by decide +kernel
theorem dJ7_fill_53178_5 : decode cJ7_fill_53178 5 = .ok (.iload_n 2, 1) := by decide +kernel
theorem dJ7_fill_53178_6 : decode cJ7_fill_53178 6 = .ok (.iload_n 3, 1) := by decide +kernel
theorem dJ7_fill_53178_7 : decode cJ7_fill_53178 7 = .ok (.if_icmp .ge 13, 3) := by decide +kernel
theorem dJ7_fill_53178_10 : decode cJ7_fill_53178 10 = .ok (.aload_n 0, 1) := by decide +kernel
theorem dJ7_fill_53178_11 : decode cJ7_fill_53178 11 = .ok (.iload_n 2, 1) := by decide +kernel
theorem dJ7_fill_53178_12 : decode cJ7_fill_53178 12 = .ok (.iload_n 1, 1) := by decide +kernel
theorem dJ7_fill_53178_13 : decode cJ7_fill_53178 13 = .ok (.iastore, 1) := by decide +kernel
theorem dJ7_fill_53178_14 : decode cJ7_fill_53178 14 = .ok (.iinc 2 1, 3) := by decide +kernel
theorem dJ7_fill_53178_17 : decode cJ7_fill_53178 17 = .ok (.goto (-12), 3) := by decide +kernel
theorem dJ7_fill_53178_20 : decode cJ7_fill_53178 20 = .ok (.return_, 1) := by decide +kernel
theorem bJ7_fill_53178_0 {d : Nat} {P : q_Mem → Prop} {M : q_Mem} (x0 x1 : Int) (k0 : q_kd x0 = 14) (h : (∀ x3_1 : Int, x3_1 = (q_ln x0 : Int) → q_v mJ7_fill_53178 d (qPU P) M 5 [some (qR x0), some (qI x1), some (qI 0), some (qI x3_1)] [])) : q_v mJ7_fill_53178 d (qPU P) M 0 [some (qR x0), some (qI x1), none, none] [] := by
  refine qr_iconst 0 1 rfl (q_l32 _ rfl) dJ7_fill_53178_0 ?_
  refine qr_istore_n 1 2 rfl (by decide) rfl rfl dJ7_fill_53178_1 ?_
  refine qr_aload_n 2 3 rfl (x := x0) rfl dJ7_fill_53178_2 ?_
  refine qr_alen 3 4 rfl (by rw [k0]; decide) dJ7_fill_53178_3 (q_ln32 _) ?_
  refine qn_i 4 (fun x3_1 e_x3_1 => ?_)
  have h := h x3_1 e_x3_1
  refine qr_istore_n 4 5 rfl (by decide) rfl rfl dJ7_fill_53178_4 ?_
  exact h
theorem bJ7_fill_53178_5 {d : Nat} {P : q_Mem → Prop} {M : q_Mem} (x0 x1 x2 x3 : Int) (k0 : q_kd x0 = 14) (h : ((x3 ≤ x2) → P M) ∧ ((¬ (x3 ≤ x2)) → (0 ≤ x2 ∧ x2 < (q_ln x0 : Int)) ∧ (∀ M2 : q_Mem, M2 = q_up M x0 x2 x1 → q_v mJ7_fill_53178 d (qPU P) M2 5 [some (qR x0), some (qI x1), some (qI (q_add x2 1)), some (qI x3)] []))) : q_v mJ7_fill_53178 d (qPU P) M 5 [some (qR x0), some (qI x1), some (qI x2), some (qI x3)] [] := by
  refine qr_iload_n 5 6 rfl (x := x2) rfl dJ7_fill_53178_5 ?_
  refine qr_iload_n 6 7 rfl (x := x3) rfl dJ7_fill_53178_6 ?_
  refine qr_icmp_ge 7 10 20 rfl (by decide) dJ7_fill_53178_7 (fun c7 => ?_) (fun c7 => ?_)
  · have h := h.1 c7
    exact qe_u 20 rfl dJ7_fill_53178_20 h
  · have h := h.2 c7
    refine qr_aload_n 10 11 rfl (x := x0) rfl dJ7_fill_53178_10 ?_
    refine qr_iload_n 11 12 rfl (x := x2) rfl dJ7_fill_53178_11 ?_
    refine qr_iload_n 12 13 rfl (x := x1) rfl dJ7_fill_53178_12 ?_
    have hb1 := h.1
    have h := h.2
    refine qi_st 13 14 rfl k0 rfl hb1.1 hb1.2 dJ7_fill_53178_13 (fun M2 e_M2 => ?_)
    have h := h M2 e_M2
    refine qr_iinc 14 17 rfl (by decide) (x := x2) rfl rfl rfl dJ7_fill_53178_14 ?_
    refine qr_goto 17 5 (by decide) dJ7_fill_53178_17 ?_
    exact h
theorem dJ7_fill_fda19_0 : decode cJ7_fill_fda19 0 = .ok (.aload_n 0, 1) := by decide +kernel
theorem dJ7_fill_fda19_1 : decode cJ7_fill_fda19 1 = .ok (.arraylength, 1) := by decide +kernel
theorem dJ7_fill_fda19_2 : decode cJ7_fill_fda19 2 = .ok (.iload_n 1, 1) := by decide +kernel
theorem dJ7_fill_fda19_3 : decode cJ7_fill_fda19 3 = .ok (.iload_n 2, 1) := by decide +kernel
theorem dJ7_fill_fda19_4 : decode cJ7_fill_fda19 4 = .ok (.invokestatic 13, 3) := by decide +kernel
theorem dJ7_fill_fda19_7 : decode cJ7_fill_fda19 7 = .ok (.iload_n 1, 1) := by decide +kernel
theorem dJ7_fill_fda19_8 : decode cJ7_fill_fda19 8 = .ok (.istore 4, 2) := by decide +kernel
theorem dJ7_fill_fda19_10 : decode cJ7_fill_fda19 10 = .ok (.iload 4, 2) := by decide +kernel
theorem dJ7_fill_fda19_12 : decode cJ7_fill_fda19 12 = .ok (.iload_n 2, 1) := by decide +kernel
theorem dJ7_fill_fda19_13 : decode cJ7_fill_fda19 13 = .ok (.if_icmp .ge 14, 3) := by decide +kernel
theorem dJ7_fill_fda19_16 : decode cJ7_fill_fda19 16 = .ok (.aload_n 0, 1) := by decide +kernel
theorem dJ7_fill_fda19_17 : decode cJ7_fill_fda19 17 = .ok (.iload 4, 2) := by decide +kernel
theorem dJ7_fill_fda19_19 : decode cJ7_fill_fda19 19 = .ok (.iload_n 3, 1) := by decide +kernel
theorem dJ7_fill_fda19_20 : decode cJ7_fill_fda19 20 = .ok (.iastore, 1) := by decide +kernel
theorem dJ7_fill_fda19_21 : decode cJ7_fill_fda19 21 = .ok (.iinc 4 1, 3) := by decide +kernel
theorem dJ7_fill_fda19_24 : decode cJ7_fill_fda19 24 = .ok (.goto (-14), 3) := by decide +kernel
theorem dJ7_fill_fda19_27 : decode cJ7_fill_fda19 27 = .ok (.return_, 1) := by decide +kernel
theorem bJ7_fill_fda19_0 {d : Nat} {P : q_Mem → Prop} {M : q_Mem} (x0 x1 x2 x3 : Int) (k0 : q_kd x0 = 14) (h : (q_kU yJ7_rangeCheck_23922 mJ7_rangeCheck_23922 d [qI (q_ln x0 : Int), qI x1, qI x2] M (fun M1 => q_v mJ7_fill_fda19 d (qPU P) M1 10 [some (qR x0), none, some (qI x2), some (qI x3), some (qI x1)] []))) : q_v mJ7_fill_fda19 d (qPU P) M 0 [some (qR x0), some (qI x1), some (qI x2), some (qI x3), none] [] := by
  refine qr_aload_n 0 1 rfl (x := x0) rfl dJ7_fill_fda19_0 ?_
  refine qr_alen 1 2 rfl (by rw [k0]; decide) dJ7_fill_fda19_1 (q_ln32 _) ?_
  refine qr_iload_n 2 3 rfl (x := x1) rfl dJ7_fill_fda19_2 ?_
  refine qr_iload_n 3 4 rfl (x := x2) rfl dJ7_fill_fda19_3 ?_
  refine qs_U 4 7 rfl (av := [qI (q_ln x0 : Int), qI x1, qI x2]) ca_J7_rangeCheck_23922 wm_858 wm_857 rfl rfl (Nat.le_of_ble_eq_true rfl) dJ7_fill_fda19_4 h (fun M1 h => ?_)
  refine qr_iload_n 7 8 rfl (x := x1) rfl dJ7_fill_fda19_7 ?_
  refine qr_istore 8 10 rfl (by decide) rfl rfl dJ7_fill_fda19_8 ?_
  exact qr_cut 10 (ls' := [some (qR x0), none, some (qI x2), some (qI x3), some (qI x1)]) (And.intro rfl (And.intro rfl (And.intro rfl (And.intro rfl trivial)))) h
theorem bJ7_fill_fda19_10 {d : Nat} {P : q_Mem → Prop} {M : q_Mem} (x0 x2 x3 x4 : Int) (k0 : q_kd x0 = 14) (h : ((x2 ≤ x4) → P M) ∧ ((¬ (x2 ≤ x4)) → (0 ≤ x4 ∧ x4 < (q_ln x0 : Int)) ∧ (∀ M2 : q_Mem, M2 = q_up M x0 x4 x3 → q_v mJ7_fill_fda19 d (qPU P) M2 10 [some (qR x0), none, some (qI x2), some (qI x3), some (qI (q_add x4 1))] []))) : q_v mJ7_fill_fda19 d (qPU P) M 10 [some (qR x0), none, some (qI x2), some (qI x3), some (qI x4)] [] := by
  refine qr_iload 10 12 rfl (x := x4) rfl dJ7_fill_fda19_10 ?_
  refine qr_iload_n 12 13 rfl (x := x2) rfl dJ7_fill_fda19_12 ?_
  refine qr_icmp_ge 13 16 27 rfl (by decide) dJ7_fill_fda19_13 (fun c13 => ?_) (fun c13 => ?_)
  · have h := h.1 c13
    exact qe_u 27 rfl dJ7_fill_fda19_27 h
  · have h := h.2 c13
    refine qr_aload_n 16 17 rfl (x := x0) rfl dJ7_fill_fda19_16 ?_
    refine qr_iload 17 19 rfl (x := x4) rfl dJ7_fill_fda19_17 ?_
    refine qr_iload_n 19 20 rfl (x := x3) rfl dJ7_fill_fda19_19 ?_
    have hb1 := h.1
    have h := h.2
    refine qi_st 20 21 rfl k0 rfl hb1.1 hb1.2 dJ7_fill_fda19_20 (fun M2 e_M2 => ?_)
    have h := h M2 e_M2
    refine qr_iinc 21 24 rfl (by decide) (x := x4) rfl rfl rfl dJ7_fill_fda19_21 ?_
    refine qr_goto 24 10 (by decide) dJ7_fill_fda19_24 ?_
    exact h
theorem dJ3_checkIndex_8e157_0 : decode cJ3_checkIndex_8e157 0 = .ok (.iload_n 0, 1) := by decide +kernel
theorem dJ3_checkIndex_8e157_1 : decode cJ3_checkIndex_8e157 1 = .ok (.ifCond .lt 8, 3) := by decide +kernel
theorem dJ3_checkIndex_8e157_4 : decode cJ3_checkIndex_8e157 4 = .ok (.iload_n 0, 1) := by decide +kernel
theorem dJ3_checkIndex_8e157_5 : decode cJ3_checkIndex_8e157 5 = .ok (.iload_n 1, 1) := by decide +kernel
theorem dJ3_checkIndex_8e157_6 : decode cJ3_checkIndex_8e157 6 = .ok (.if_icmp .lt 10, 3) := by decide +kernel
theorem dJ3_checkIndex_8e157_9 : decode cJ3_checkIndex_8e157 9 = .ok (.aload_n 2, 1) := by decide +kernel
theorem dJ3_checkIndex_8e157_10 : decode cJ3_checkIndex_8e157 10 = .ok (.iload_n 0, 1) := by decide +kernel
theorem dJ3_checkIndex_8e157_11 : decode cJ3_checkIndex_8e157 11 = .ok (.iload_n 1, 1) := by decide +kernel
theorem dJ3_checkIndex_8e157_16 : decode cJ3_checkIndex_8e157 16 = .ok (.iload_n 0, 1) := by decide +kernel
theorem dJ3_checkIndex_8e157_17 : decode cJ3_checkIndex_8e157 17 = .ok (.ireturn, 1) := by decide +kernel
theorem bJ3_checkIndex_8e157_0 {d : Nat} {P : Int → q_Mem → Prop} {M : q_Mem} (x0 x1 x2 : Int) (h : ((x0 < 0) → False) ∧ ((¬ (x0 < 0)) → ((x0 < x1) → P x0 M) ∧ ((¬ (x0 < x1)) → False))) : q_v mJ3_checkIndex_8e157 d (qPI P) M 0 [some (qI x0), some (qI x1), some (qR x2)] [] := by
  refine qr_iload_n 0 1 rfl (x := x0) rfl dJ3_checkIndex_8e157_0 ?_
  refine qr_if_lt 1 4 9 rfl (by decide) dJ3_checkIndex_8e157_1 (fun c1 => ?_) (fun c1 => ?_)
  · have h := h.1 c1
    refine qr_aload_n 9 10 rfl (x := x2) rfl dJ3_checkIndex_8e157_9 ?_
    refine qr_iload_n 10 11 rfl (x := x0) rfl dJ3_checkIndex_8e157_10 ?_
    refine qr_iload_n 11 12 rfl (x := x1) rfl dJ3_checkIndex_8e157_11 ?_
    exact h.elim
  · have h := h.2 c1
    refine qr_iload_n 4 5 rfl (x := x0) rfl dJ3_checkIndex_8e157_4 ?_
    refine qr_iload_n 5 6 rfl (x := x1) rfl dJ3_checkIndex_8e157_5 ?_
    refine qr_icmp_lt 6 9 16 rfl (by decide) dJ3_checkIndex_8e157_6 (fun c6 => ?_) (fun c6 => ?_)
    · have h := h.1 c6
      refine qr_iload_n 16 17 rfl (x := x0) rfl dJ3_checkIndex_8e157_16 ?_
      exact qe_i 17 rfl dJ3_checkIndex_8e157_17 h
    · have h := h.2 c6
      refine qr_aload_n 9 10 rfl (x := x2) rfl dJ3_checkIndex_8e157_9 ?_
      refine qr_iload_n 10 11 rfl (x := x0) rfl dJ3_checkIndex_8e157_10 ?_
      refine qr_iload_n 11 12 rfl (x := x1) rfl dJ3_checkIndex_8e157_11 ?_
      exact h.elim
theorem dJ3_checkFromToIndex_8c36e_0 : decode cJ3_checkFromToIndex_8c36e 0 = .ok (.iload_n 0, 1) := by decide +kernel
theorem dJ3_checkFromToIndex_8c36e_1 : decode cJ3_checkFromToIndex_8c36e 1 = .ok (.ifCond .lt 13, 3) := by decide +kernel
theorem dJ3_checkFromToIndex_8c36e_4 : decode cJ3_checkFromToIndex_8c36e 4 = .ok (.iload_n 0, 1) := by decide +kernel
theorem dJ3_checkFromToIndex_8c36e_5 : decode cJ3_checkFromToIndex_8c36e 5 = .ok (.iload_n 1, 1) := by decide +kernel
theorem dJ3_checkFromToIndex_8c36e_6 : decode cJ3_checkFromToIndex_8c36e 6 = .ok (.if_icmp .gt 8, 3) := by decide +kernel
theorem dJ3_checkFromToIndex_8c36e_9 : decode cJ3_checkFromToIndex_8c36e 9 = .ok (.iload_n 1, 1) := by decide +kernel
theorem dJ3_checkFromToIndex_8c36e_10 : decode cJ3_checkFromToIndex_8c36e 10 = .ok (.iload_n 2, 1) := by decide +kernel
theorem dJ3_checkFromToIndex_8c36e_11 : decode cJ3_checkFromToIndex_8c36e 11 = .ok (.if_icmp .le 11, 3) := by decide +kernel
theorem dJ3_checkFromToIndex_8c36e_14 : decode cJ3_checkFromToIndex_8c36e 14 = .ok (.aload_n 3, 1) := by decide +kernel
theorem dJ3_checkFromToIndex_8c36e_15 : decode cJ3_checkFromToIndex_8c36e 15 = .ok (.iload_n 0, 1) := by decide +kernel
theorem dJ3_checkFromToIndex_8c36e_16 : decode cJ3_checkFromToIndex_8c36e 16 = .ok (.iload_n 1, 1) := by decide +kernel
theorem dJ3_checkFromToIndex_8c36e_17 : decode cJ3_checkFromToIndex_8c36e 17 = .ok (.iload_n 2, 1) := by decide +kernel
theorem dJ3_checkFromToIndex_8c36e_22 : decode cJ3_checkFromToIndex_8c36e 22 = .ok (.iload_n 0, 1) := by decide +kernel
theorem dJ3_checkFromToIndex_8c36e_23 : decode cJ3_checkFromToIndex_8c36e 23 = .ok (.ireturn, 1) := by decide +kernel
theorem bJ3_checkFromToIndex_8c36e_0 {d : Nat} {P : Int → q_Mem → Prop} {M : q_Mem} (x0 x1 x2 x3 : Int) (h : ((x0 < 0) → False) ∧ ((¬ (x0 < 0)) → ((x1 < x0) → False) ∧ ((¬ (x1 < x0)) → ((x1 ≤ x2) → P x0 M) ∧ ((¬ (x1 ≤ x2)) → False)))) : q_v mJ3_checkFromToIndex_8c36e d (qPI P) M 0 [some (qI x0), some (qI x1), some (qI x2), some (qR x3)] [] := by
  refine qr_iload_n 0 1 rfl (x := x0) rfl dJ3_checkFromToIndex_8c36e_0 ?_
  refine qr_if_lt 1 4 14 rfl (by decide) dJ3_checkFromToIndex_8c36e_1 (fun c1 => ?_) (fun c1 => ?_)
  · have h := h.1 c1
    refine qr_aload_n 14 15 rfl (x := x3) rfl dJ3_checkFromToIndex_8c36e_14 ?_
    refine qr_iload_n 15 16 rfl (x := x0) rfl dJ3_checkFromToIndex_8c36e_15 ?_
    refine qr_iload_n 16 17 rfl (x := x1) rfl dJ3_checkFromToIndex_8c36e_16 ?_
    refine qr_iload_n 17 18 rfl (x := x2) rfl dJ3_checkFromToIndex_8c36e_17 ?_
    exact h.elim
  · have h := h.2 c1
    refine qr_iload_n 4 5 rfl (x := x0) rfl dJ3_checkFromToIndex_8c36e_4 ?_
    refine qr_iload_n 5 6 rfl (x := x1) rfl dJ3_checkFromToIndex_8c36e_5 ?_
    refine qr_icmp_gt 6 9 14 rfl (by decide) dJ3_checkFromToIndex_8c36e_6 (fun c6 => ?_) (fun c6 => ?_)
    · have h := h.1 c6
      refine qr_aload_n 14 15 rfl (x := x3) rfl dJ3_checkFromToIndex_8c36e_14 ?_
      refine qr_iload_n 15 16 rfl (x := x0) rfl dJ3_checkFromToIndex_8c36e_15 ?_
      refine qr_iload_n 16 17 rfl (x := x1) rfl dJ3_checkFromToIndex_8c36e_16 ?_
      refine qr_iload_n 17 18 rfl (x := x2) rfl dJ3_checkFromToIndex_8c36e_17 ?_
      exact h.elim
    · have h := h.2 c6
      refine qr_iload_n 9 10 rfl (x := x1) rfl dJ3_checkFromToIndex_8c36e_9 ?_
      refine qr_iload_n 10 11 rfl (x := x2) rfl dJ3_checkFromToIndex_8c36e_10 ?_
      refine qr_icmp_le 11 14 22 rfl (by decide) dJ3_checkFromToIndex_8c36e_11 (fun c11 => ?_) (fun c11 => ?_)
      · have h := h.1 c11
        refine qr_iload_n 22 23 rfl (x := x0) rfl dJ3_checkFromToIndex_8c36e_22 ?_
        exact qe_i 23 rfl dJ3_checkFromToIndex_8c36e_23 h
      · have h := h.2 c11
        refine qr_aload_n 14 15 rfl (x := x3) rfl dJ3_checkFromToIndex_8c36e_14 ?_
        refine qr_iload_n 15 16 rfl (x := x0) rfl dJ3_checkFromToIndex_8c36e_15 ?_
        refine qr_iload_n 16 17 rfl (x := x1) rfl dJ3_checkFromToIndex_8c36e_16 ?_
        refine qr_iload_n 17 18 rfl (x := x2) rfl dJ3_checkFromToIndex_8c36e_17 ?_
        exact h.elim
