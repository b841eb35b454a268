-- blocks of methods (by program)
theorem dX0_keep_0 : decode cX0_keep 0 = .ok (.aload_n 0, 1) := by decide +kernel
theorem dX0_keep_1 : decode cX0_keep 1 = .ok (.getfield 11, 3) := by decide +kernel
theorem dX0_keep_4 : decode cX0_keep 4 = .ok (.aload_n 0, 1) := by decide +kernel
theorem dX0_keep_5 : decode cX0_keep 5 = .ok (.getfield 18, 3) := by decide +kernel
theorem dX0_keep_8 : decode cX0_keep 8 = .ok (.aaload, 1) := by decide +kernel
theorem dX0_keep_9 : decode cX0_keep 9 = .ok (.aload_n 1, 1) := by decide +kernel
theorem dX0_keep_10 : decode cX0_keep 10 = .ok (.invokevirtual 22, 3) := by decide +kernel
theorem dX0_keep_13 : decode cX0_keep 13 = .ok (.aload_n 0, 1) := by decide +kernel
theorem dX0_keep_14 : decode cX0_keep 14 = .ok (.aload_n 0, 1) := by decide +kernel
theorem dX0_keep_15 : decode cX0_keep 15 = .ok (.getfield 18, 3) := by decide +kernel
theorem dX0_keep_18 : decode cX0_keep 18 = .ok (.iconst 1, 1) := by decide +kernel
theorem dX0_keep_19 : decode cX0_keep 19 = .ok (.iadd, 1) := by decide +kernel
theorem dX0_keep_20 : decode cX0_keep 20 = .ok (.bipush 10, 2) := by decide +kernel
theorem dX0_keep_22 : decode cX0_keep 22 = .ok (.irem, 1) := by decide +kernel
theorem dX0_keep_23 : decode cX0_keep 23 = .ok (.putfield 18, 3) := by decide +kernel
theorem dX0_keep_26 : decode cX0_keep 26 = .ok (.aload_n 0, 1) := by decide +kernel
theorem dX0_keep_27 : decode cX0_keep 27 = .ok (.aload_n 0, 1) := by decide +kernel
theorem dX0_keep_28 : decode cX0_keep 28 = .ok (.getfield 26, 3) := by decide +kernel
theorem dX0_keep_31 : decode cX0_keep 31 = .ok (.iconst 1, 1) := by decide +kernel
theorem dX0_keep_32 : decode cX0_keep 32 = .ok (.iadd, 1) := by decide +kernel
theorem dX0_keep_33 : decode cX0_keep 33 = .ok (.bipush 10, 2) := by decide +kernel
theorem dX0_keep_35 : decode cX0_keep 35 = .ok (.invokestatic 29, 3) := by decide +kernel
theorem dX0_keep_38 : decode cX0_keep 38 = .ok (.putfield 26, 3) := by decide +kernel
theorem dX0_keep_41 : decode cX0_keep 41 = .ok (.return_, 1) := by decide +kernel
theorem bX0_keep_0 {d : Nat} {P : q_Mem → Prop} {M : q_Mem} (x1 : Int) (k1 : q_kd x1 = 7) (h : (0 ≤ (M 56 1) ∧ (M 56 1) < (10 : Int)) ∧ (q_kd (q_lay 57 (Int.toNat (M 56 1))) = 7 ∧ (q_kU yX7_takeFrom mX7_takeFrom d [qR (q_lay 57 (Int.toNat (M 56 1))), qR x1] M (fun M3 => (∀ M4 : q_Mem, M4 = q_up M3 56 1 (q_rem (q_add (M3 56 1) 1) 10) → q_kI yJ9_min_7cf53 mJ9_min_7cf53 d [qI (q_add (M4 56 0) 1), qI 10] M4 (fun v6 M5 => (∀ M7 : q_Mem, M7 = q_up M5 56 0 v6 → P M7))))))) : q_v mX0_keep d (qPU P) M 0 [some (qR 56), some (qR x1)] [] := by
  refine qr_aload_n 0 1 rfl (x := 56) rfl dX0_keep_0 ?_
  refine qr_getF 1 4 rfl ck0 2 (by decide) (b := 57) (by decide +kernel) rfl (by decide +kernel) (by decide +kernel) wm_198 rfl dX0_keep_1 ?_
  refine qr_aload_n 4 5 rfl (x := 56) rfl dX0_keep_4 ?_
  refine qg_i 5 8 rfl ck0 1 (kk := 1) (by decide) (by decide +kernel) (by decide +kernel) rfl wm_197 rfl dX0_keep_5 ?_
  have hb1 := h.1
  have h := h.2
  refine qa_ld 8 9 rfl (N := 10) (by decide +kernel) (by decide +kernel) hb1.1 hb1.2 dX0_keep_8 ?_
  refine qr_aload_n 9 10 rfl (x := x1) rfl dX0_keep_9 ?_
  have hk2 := h.1
  have h := h.2
  refine qw_U 10 13 rfl (av := [qR x1]) ca_X7_takeFrom wm_916 wm_917 wm_915 ck7 hk2 rfl rfl (Nat.le_of_ble_eq_true rfl) dX0_keep_10 h (fun M3 h => ?_)
  refine qr_aload_n 13 14 rfl (x := 56) rfl dX0_keep_13 ?_
  refine qr_aload_n 14 15 rfl (x := 56) rfl dX0_keep_14 ?_
  refine qg_i 15 18 rfl ck0 1 (kk := 1) (by decide) (by decide +kernel) (by decide +kernel) rfl wm_197 rfl dX0_keep_15 ?_
  refine qr_iconst 18 19 rfl (q_l32 _ rfl) dX0_keep_18 ?_
  refine qr_iadd 19 20 rfl dX0_keep_19 ?_
  refine qr_bipush 20 22 rfl (q_l32 _ rfl) (by decide) dX0_keep_20 ?_
  refine qr_irem 22 23 rfl (by decide) dX0_keep_22 ?_
  refine qp_i 23 26 rfl ck0 1 (kk := 1) (by decide) (by decide +kernel) (by decide) rfl rfl wm_197 rfl dX0_keep_23 (fun M4 e_M4 => ?_)
  have h := h M4 e_M4
  refine qr_aload_n 26 27 rfl (x := 56) rfl dX0_keep_26 ?_
  refine qr_aload_n 27 28 rfl (x := 56) rfl dX0_keep_27 ?_
  refine qg_i 28 31 rfl ck0 0 (kk := 0) (by decide) (by decide +kernel) (by decide +kernel) rfl wm_195 rfl dX0_keep_28 ?_
  refine qr_iconst 31 32 rfl (q_l32 _ rfl) dX0_keep_31 ?_
  refine qr_iadd 32 33 rfl dX0_keep_32 ?_
  refine qr_bipush 33 35 rfl (q_l32 _ rfl) (by decide) dX0_keep_33 ?_
  refine qs_I 35 38 rfl (av := [qI (q_add (M4 56 0) 1), qI 10]) ca_J9_min_7cf53 wm_452 wm_920 rfl rfl (Nat.le_of_ble_eq_true rfl) dX0_keep_35 h (fun v6 M5 h => ?_)
  refine qp_i 38 41 rfl ck0 0 (kk := 0) (by decide) (by decide +kernel) (by decide) rfl rfl wm_195 rfl dX0_keep_38 (fun M7 e_M7 => ?_)
  have h := h M7 e_M7
  exact qe_u 41 rfl dX0_keep_41 h
theorem dX0_takeBack_0 : decode cX0_takeBack 0 = .ok (.aload_n 0, 1) := by decide +kernel
theorem dX0_takeBack_1 : decode cX0_takeBack 1 = .ok (.aload_n 0, 1) := by decide +kernel
theorem dX0_takeBack_2 : decode cX0_takeBack 2 = .ok (.getfield 18, 3) := by decide +kernel
theorem dX0_takeBack_5 : decode cX0_takeBack 5 = .ok (.iload_n 1, 1) := by decide +kernel
theorem dX0_takeBack_6 : decode cX0_takeBack 6 = .ok (.isub, 1) := by decide +kernel
theorem dX0_takeBack_7 : decode cX0_takeBack 7 = .ok (.bipush 10, 2) := by decide +kernel
theorem dX0_takeBack_9 : decode cX0_takeBack 9 = .ok (.invokestatic 35, 3) := by decide +kernel
theorem dX0_takeBack_12 : decode cX0_takeBack 12 = .ok (.putfield 18, 3) := by decide +kernel
theorem dX0_takeBack_15 : decode cX0_takeBack 15 = .ok (.aload_n 0, 1) := by decide +kernel
theorem dX0_takeBack_16 : decode cX0_takeBack 16 = .ok (.aload_n 0, 1) := by decide +kernel
theorem dX0_takeBack_17 : decode cX0_takeBack 17 = .ok (.getfield 26, 3) := by decide +kernel
theorem dX0_takeBack_20 : decode cX0_takeBack 20 = .ok (.iload_n 1, 1) := by decide +kernel
theorem dX0_takeBack_21 : decode cX0_takeBack 21 = .ok (.isub, 1) := by decide +kernel
theorem dX0_takeBack_22 : decode cX0_takeBack 22 = .ok (.iconst 0, 1) := by decide +kernel
theorem dX0_takeBack_23 : decode cX0_takeBack 23 = .ok (.invokestatic 38, 3) := by decide +kernel
theorem dX0_takeBack_26 : decode cX0_takeBack 26 = .ok (.putfield 26, 3) := by decide +kernel
theorem dX0_takeBack_29 : decode cX0_takeBack 29 = .ok (.aload_n 2, 1) := by decide +kernel
theorem dX0_takeBack_30 : decode cX0_takeBack 30 = .ok (.aload_n 0, 1) := by decide +kernel
theorem dX0_takeBack_31 : decode cX0_takeBack 31 = .ok (.getfield 11, 3) := by decide +kernel
theorem dX0_takeBack_34 : decode cX0_takeBack 34 = .ok (.aload_n 0, 1) := by decide +kernel
theorem dX0_takeBack_35 : decode cX0_takeBack 35 = .ok (.getfield 18, 3) := by decide +kernel
theorem dX0_takeBack_38 : decode cX0_takeBack 38 = .ok (.aaload, 1) := by decide +kernel
theorem dX0_takeBack_39 : decode cX0_takeBack 39 = .ok (.invokevirtual 22, 3) := by decide +kernel
theorem dX0_takeBack_42 : decode cX0_takeBack 42 = .ok (.return_, 1) := by decide +kernel
theorem bX0_takeBack_0 {d : Nat} {P : q_Mem → Prop} {M : q_Mem} (x1 x2 : Int) (k2 : q_kd x2 = 7) (h : q_kI yJ9_floorMod_7cf53 mJ9_floorMod_7cf53 d [qI (q_sub (M 56 1) x1), qI 10] M (fun v2 M1 => (∀ M3 : q_Mem, M3 = q_up M1 56 1 v2 → q_kI yJ9_max_7cf53 mJ9_max_7cf53 d [qI (q_sub (M3 56 0) x1), qI 0] M3 (fun v5 M4 => (∀ M6 : q_Mem, M6 = q_up M4 56 0 v5 → (0 ≤ (M6 56 1) ∧ (M6 56 1) < (10 : Int)) ∧ (q_kU yX7_takeFrom mX7_takeFrom d [qR x2, qR (q_lay 57 (Int.toNat (M6 56 1)))] M6 (fun M8 => P M8))))))) : q_v mX0_takeBack d (qPU P) M 0 [some (qR 56), some (qI x1), some (qR x2)] [] := by
  refine qr_aload_n 0 1 rfl (x := 56) rfl dX0_takeBack_0 ?_
  refine qr_aload_n 1 2 rfl (x := 56) rfl dX0_takeBack_1 ?_
  refine qg_i 2 5 rfl ck0 1 (kk := 1) (by decide) (by decide +kernel) (by decide +kernel) rfl wm_197 rfl dX0_takeBack_2 ?_
  refine qr_iload_n 5 6 rfl (x := x1) rfl dX0_takeBack_5 ?_
  refine qr_isub 6 7 rfl dX0_takeBack_6 ?_
  refine qr_bipush 7 9 rfl (q_l32 _ rfl) (by decide) dX0_takeBack_7 ?_
  refine qs_I 9 12 rfl (av := [qI (q_sub (M 56 1) x1), qI 10]) ca_J9_floorMod_7cf53 wm_1016 wm_1015 rfl rfl (Nat.le_of_ble_eq_true rfl) dX0_takeBack_9 h (fun v2 M1 h => ?_)
  refine qp_i 12 15 rfl ck0 1 (kk := 1) (by decide) (by decide +kernel) (by decide) rfl rfl wm_197 rfl dX0_takeBack_12 (fun M3 e_M3 => ?_)
  have h := h M3 e_M3
  refine qr_aload_n 15 16 rfl (x := 56) rfl dX0_takeBack_15 ?_
  refine qr_aload_n 16 17 rfl (x := 56) rfl dX0_takeBack_16 ?_
  refine qg_i 17 20 rfl ck0 0 (kk := 0) (by decide) (by decide +kernel) (by decide +kernel) rfl wm_195 rfl dX0_takeBack_17 ?_
  refine qr_iload_n 20 21 rfl (x := x1) rfl dX0_takeBack_20 ?_
  refine qr_isub 21 22 rfl dX0_takeBack_21 ?_
  refine qr_iconst 22 23 rfl (q_l32 _ rfl) dX0_takeBack_22 ?_
  refine qs_I 23 26 rfl (av := [qI (q_sub (M3 56 0) x1), qI 0]) ca_J9_max_7cf53 wm_520 wm_1018 rfl rfl (Nat.le_of_ble_eq_true rfl) dX0_takeBack_23 h (fun v5 M4 h => ?_)
  refine qp_i 26 29 rfl ck0 0 (kk := 0) (by decide) (by decide +kernel) (by decide) rfl rfl wm_195 rfl dX0_takeBack_26 (fun M6 e_M6 => ?_)
  have h := h M6 e_M6
  refine qr_aload_n 29 30 rfl (x := x2) rfl dX0_takeBack_29 ?_
  refine qr_aload_n 30 31 rfl (x := 56) rfl dX0_takeBack_30 ?_
  refine qr_getF 31 34 rfl ck0 2 (by decide) (b := 57) (by decide +kernel) rfl (by decide +kernel) (by decide +kernel) wm_198 rfl dX0_takeBack_31 ?_
  refine qr_aload_n 34 35 rfl (x := 56) rfl dX0_takeBack_34 ?_
  refine qg_i 35 38 rfl ck0 1 (kk := 1) (by decide) (by decide +kernel) (by decide +kernel) rfl wm_197 rfl dX0_takeBack_35 ?_
  have hb7 := h.1
  have h := h.2
  refine qa_ld 38 39 rfl (N := 10) (by decide +kernel) (by decide +kernel) hb7.1 hb7.2 dX0_takeBack_38 ?_
  refine qw_U 39 42 rfl (av := [qR (q_lay 57 (Int.toNat (M6 56 1)))]) ca_X7_takeFrom wm_916 wm_917 wm_915 ck7 k2 rfl rfl (Nat.le_of_ble_eq_true rfl) dX0_takeBack_39 h (fun M8 h => ?_)
  exact qe_u 42 rfl dX0_takeBack_42 h
theorem dX0_forget_0 : decode cX0_forget 0 = .ok (.aload_n 0, 1) := by decide +kernel
theorem dX0_forget_1 : decode cX0_forget 1 = .ok (.iconst 0, 1) := by decide +kernel
theorem dX0_forget_2 : decode cX0_forget 2 = .ok (.putfield 26, 3) := by decide +kernel
theorem dX0_forget_5 : decode cX0_forget 5 = .ok (.return_, 1) := by decide +kernel
theorem bX0_forget_0 {d : Nat} {P : q_Mem → Prop} {M : q_Mem} (h : (∀ M1 : q_Mem, M1 = q_up M 56 0 0 → P M1)) : q_v mX0_forget d (qPU P) M 0 [some (qR 56)] [] := by
  refine qr_aload_n 0 1 rfl (x := 56) rfl dX0_forget_0 ?_
  refine qr_iconst 1 2 rfl (q_l32 _ rfl) dX0_forget_1 ?_
  refine qp_i 2 5 rfl ck0 0 (kk := 0) (by decide) (by decide +kernel) (by decide) rfl rfl wm_195 rfl dX0_forget_2 (fun M1 e_M1 => ?_)
  have h := h M1 e_M1
  exact qe_u 5 rfl dX0_forget_5 h
theorem dX2_clear_0 : decode cX2_clear 0 = .ok (.aload_n 0, 1) := by decide +kernel
theorem dX2_clear_1 : decode cX2_clear 1 = .ok (.iconst 0, 1) := by decide +kernel
theorem dX2_clear_2 : decode cX2_clear 2 = .ok (.putfield 21, 3) := by decide +kernel
theorem dX2_clear_5 : decode cX2_clear 5 = .ok (.return_, 1) := by decide +kernel
theorem bX2_clear_0 {d : Nat} {P : q_Mem → Prop} {M : q_Mem} (x0 : Int) (k0 : q_kd x0 = 2) (h : (∀ M1 : q_Mem, M1 = q_up M x0 0 0 → P M1)) : q_v mX2_clear d (qPU P) M 0 [some (qR x0)] [] := by
  refine qr_aload_n 0 1 rfl (x := x0) rfl dX2_clear_0 ?_
  refine qr_iconst 1 2 rfl (q_l32 _ rfl) dX2_clear_1 ?_
  refine qp_i 2 5 rfl ck2 0 (kk := 0) (by decide) k0 (by decide) rfl rfl wm_43 rfl dX2_clear_2 (fun M1 e_M1 => ?_)
  have h := h M1 e_M1
  exact qe_u 5 rfl dX2_clear_5 h
theorem dX2_takeFrom_0 : decode cX2_takeFrom 0 = .ok (.aload_n 0, 1) := by decide +kernel
theorem dX2_takeFrom_1 : decode cX2_takeFrom 1 = .ok (.aload_n 1, 1) := by decide +kernel
theorem dX2_takeFrom_2 : decode cX2_takeFrom 2 = .ok (.getfield 21, 3) := by decide +kernel
theorem dX2_takeFrom_5 : decode cX2_takeFrom 5 = .ok (.putfield 21, 3) := by decide +kernel
theorem dX2_takeFrom_8 : decode cX2_takeFrom 8 = .ok (.aload_n 1, 1) := by decide +kernel
theorem dX2_takeFrom_9 : decode cX2_takeFrom 9 = .ok (.getfield 9, 3) := by decide +kernel
theorem dX2_takeFrom_12 : decode cX2_takeFrom 12 = .ok (.iconst 0, 1) := by decide +kernel
theorem dX2_takeFrom_13 : decode cX2_takeFrom 13 = .ok (.aload_n 0, 1) := by decide +kernel
theorem dX2_takeFrom_14 : decode cX2_takeFrom 14 = .ok (.getfield 9, 3) := by decide +kernel
theorem dX2_takeFrom_17 : decode cX2_takeFrom 17 = .ok (.iconst 0, 1) := by decide +kernel
theorem dX2_takeFrom_18 : decode cX2_takeFrom 18 = .ok (.aload_n 1, 1) := by decide +kernel
theorem dX2_takeFrom_19 : decode cX2_takeFrom 19 = .ok (.getfield 21, 3) := by decide +kernel
theorem dX2_takeFrom_22 : decode cX2_takeFrom 22 = .ok (.invokestatic 25, 3) := by decide +kernel
theorem dX2_takeFrom_25 : decode cX2_takeFrom 25 = .ok (.return_, 1) := by decide +kernel
theorem bX2_takeFrom_0 {d : Nat} {P : q_Mem → Prop} {M : q_Mem} (x0 x1 : Int) (k0 : q_kd x0 = 2) (k1 : q_kd x1 = 2) (h : (∀ M1 : q_Mem, M1 = q_up M x0 0 (M x1 0) → ((0 ≤ (0 : Int) ∧ 0 ≤ (0 : Int) ∧ 0 ≤ (M1 x1 0)) ∧ ((0 : Int) + (M1 x1 0) ≤ 900 ∧ (0 : Int) + (M1 x1 0) ≤ 900) ∧ 1 ≤ d) ∧ (∀ M3 : q_Mem, M3 = q_cp M1 (q_lay x1 1) 0 (q_lay x0 1) 0 (M1 x1 0) → P M3))) : q_v mX2_takeFrom d (qPU P) M 0 [some (qR x0), some (qR x1)] [] := by
  refine qr_aload_n 0 1 rfl (x := x0) rfl dX2_takeFrom_0 ?_
  refine qr_aload_n 1 2 rfl (x := x1) rfl dX2_takeFrom_1 ?_
  refine qg_i 2 5 rfl ck2 0 (kk := 0) (by decide) k1 (by decide +kernel) rfl wm_43 rfl dX2_takeFrom_2 ?_
  refine qp_i 5 8 rfl ck2 0 (kk := 0) (by decide) k0 (by decide) rfl rfl wm_43 rfl dX2_takeFrom_5 (fun M1 e_M1 => ?_)
  have h := h M1 e_M1
  refine qr_aload_n 8 9 rfl (x := x1) rfl dX2_takeFrom_8 ?_
  refine qr_getF 9 12 rfl ck2 1 (by decide) (b := (q_lay x1 1)) k1 rfl (by decide +kernel) rfl wm_45 rfl dX2_takeFrom_9 ?_
  refine qr_iconst 12 13 rfl (q_l32 _ rfl) dX2_takeFrom_12 ?_
  refine qr_aload_n 13 14 rfl (x := x0) rfl dX2_takeFrom_13 ?_
  refine qr_getF 14 17 rfl ck2 1 (by decide) (b := (q_lay x0 1)) k0 rfl (by decide +kernel) rfl wm_45 rfl dX2_takeFrom_14 ?_
  refine qr_iconst 17 18 rfl (q_l32 _ rfl) dX2_takeFrom_17 ?_
  refine qr_aload_n 18 19 rfl (x := x1) rfl dX2_takeFrom_18 ?_
  refine qg_i 19 22 rfl ck2 0 (kk := 0) (by decide) k1 (by decide +kernel) rfl wm_43 rfl dX2_takeFrom_19 ?_
  have hb2 := h.1
  have h := h.2
  refine qr_copy 22 25 rfl (N1 := 900) (N2 := 900) (lk2_1 _ k1) (lk2_1 _ k0) (ll2_1 _ k1) (ll2_1 _ k0) hb2.1.1 hb2.1.2.1 hb2.1.2.2 hb2.2.1.1 hb2.2.1.2 hb2.2.2 (Nat.le_of_ble_eq_true rfl) wm_1307 dX2_takeFrom_22 (fun M3 e_M3 => ?_)
  have h := h M3 e_M3
  exact qe_u 25 rfl dX2_takeFrom_25 h
theorem dX2_add_0 : decode cX2_add 0 = .ok (.aload_n 0, 1) := by decide +kernel
theorem dX2_add_1 : decode cX2_add 1 = .ok (.getfield 21, 3) := by decide +kernel
theorem dX2_add_4 : decode cX2_add 4 = .ok (.sipush 900, 3) := by decide +kernel
theorem dX2_add_7 : decode cX2_add 7 = .ok (.if_icmp .ge 23, 3) := by decide +kernel
theorem dX2_add_10 : decode cX2_add 10 = .ok (.aload_n 0, 1) := by decide +kernel
theorem dX2_add_11 : decode cX2_add 11 = .ok (.getfield 9, 3) := by decide +kernel
theorem dX2_add_14 : decode cX2_add 14 = .ok (.aload_n 0, 1) := by decide +kernel
theorem dX2_add_15 : decode cX2_add 15 = .ok (.getfield 21, 3) := by decide +kernel
theorem dX2_add_18 : decode cX2_add 18 = .ok (.iload_n 1, 1) := by decide +kernel
theorem dX2_add_19 : decode cX2_add 19 = .ok (.iastore, 1) := by decide +kernel
theorem dX2_add_20 : decode cX2_add 20 = .ok (.aload_n 0, 1) := by decide +kernel
theorem dX2_add_21 : decode cX2_add 21 = .ok (.dup, 1) := by decide +kernel
theorem dX2_add_22 : decode cX2_add 22 = .ok (.getfield 21, 3) := by decide +kernel
theorem dX2_add_25 : decode cX2_add 25 = .ok (.iconst 1, 1) := by decide +kernel
theorem dX2_add_26 : decode cX2_add 26 = .ok (.iadd, 1) := by decide +kernel
theorem dX2_add_27 : decode cX2_add 27 = .ok (.putfield 21, 3) := by decide +kernel
theorem dX2_add_30 : decode cX2_add 30 = .ok (.return_, 1) := by decide +kernel
theorem bX2_add_0 {d : Nat} {P : q_Mem → Prop} {M : q_Mem} (x0 x1 : Int) (k0 : q_kd x0 = 2) (h : (((900 : Int) ≤ (M x0 0)) → P M) ∧ ((¬ ((900 : Int) ≤ (M x0 0))) → (0 ≤ (M x0 0) ∧ (M x0 0) < (900 : Int)) ∧ (∀ M2 : q_Mem, M2 = q_up M (q_lay x0 1) (M x0 0) x1 → (∀ M3 : q_Mem, M3 = q_up M2 x0 0 (q_add (M2 x0 0) 1) → P M3)))) : q_v mX2_add d (qPU P) M 0 [some (qR x0), some (qI x1)] [] := by
  refine qr_aload_n 0 1 rfl (x := x0) rfl dX2_add_0 ?_
  refine qg_i 1 4 rfl ck2 0 (kk := 0) (by decide) k0 (by decide +kernel) rfl wm_43 rfl dX2_add_1 ?_
  refine qr_sipush 4 7 rfl (q_l32 _ rfl) (by decide) dX2_add_4 ?_
  refine qr_icmp_ge 7 10 30 rfl (by decide) dX2_add_7 (fun c7 => ?_) (fun c7 => ?_)
  · have h := h.1 c7
    exact qe_u 30 rfl dX2_add_30 h
  · have h := h.2 c7
    refine qr_aload_n 10 11 rfl (x := x0) rfl dX2_add_10 ?_
    refine qr_getF 11 14 rfl ck2 1 (by decide) (b := (q_lay x0 1)) k0 rfl (by decide +kernel) rfl wm_45 rfl dX2_add_11 ?_
    refine qr_aload_n 14 15 rfl (x := x0) rfl dX2_add_14 ?_
    refine qg_i 15 18 rfl ck2 0 (kk := 0) (by decide) k0 (by decide +kernel) rfl wm_43 rfl dX2_add_15 ?_
    refine qr_iload_n 18 19 rfl (x := x1) rfl dX2_add_18 ?_
    have hb1 := h.1
    have h := h.2
    refine qi_st 19 20 rfl (N := 900) (lk2_1 _ k0) (ll2_1 _ k0) hb1.1 hb1.2 dX2_add_19 (fun M2 e_M2 => ?_)
    have h := h M2 e_M2
    refine qr_aload_n 20 21 rfl (x := x0) rfl dX2_add_20 ?_
    refine qr_dup 21 22 rfl rfl dX2_add_21 ?_
    refine qg_i 22 25 rfl ck2 0 (kk := 0) (by decide) k0 (by decide +kernel) rfl wm_43 rfl dX2_add_22 ?_
    refine qr_iconst 25 26 rfl (q_l32 _ rfl) dX2_add_25 ?_
    refine qr_iadd 26 27 rfl dX2_add_26 ?_
    refine qp_i 27 30 rfl ck2 0 (kk := 0) (by decide) k0 (by decide) rfl rfl wm_43 rfl dX2_add_27 (fun M3 e_M3 => ?_)
    have h := h M3 e_M3
    exact qe_u 30 rfl dX2_add_30 h
theorem dX2_value_0 : decode cX2_value 0 = .ok (.aload_n 0, 1) := by decide +kernel
theorem dX2_value_1 : decode cX2_value 1 = .ok (.getfield 18, 3) := by decide +kernel
theorem dX2_value_4 : decode cX2_value 4 = .ok (.iconst 0, 1) := by decide +kernel
theorem dX2_value_5 : decode cX2_value 5 = .ok (.iload_n 1, 1) := by decide +kernel
theorem dX2_value_6 : decode cX2_value 6 = .ok (.iastore, 1) := by decide +kernel
theorem dX2_value_7 : decode cX2_value 7 = .ok (.aload_n 0, 1) := by decide +kernel
theorem dX2_value_8 : decode cX2_value 8 = .ok (.getfield 18, 3) := by decide +kernel
theorem dX2_value_11 : decode cX2_value 11 = .ok (.iconst 1, 1) := by decide +kernel
theorem dX2_value_12 : decode cX2_value 12 = .ok (.iload_n 2, 1) := by decide +kernel
theorem dX2_value_13 : decode cX2_value 13 = .ok (.iastore, 1) := by decide +kernel
theorem dX2_value_14 : decode cX2_value 14 = .ok (.aload_n 0, 1) := by decide +kernel
theorem dX2_value_15 : decode cX2_value 15 = .ok (.getfield 18, 3) := by decide +kernel
theorem dX2_value_18 : decode cX2_value 18 = .ok (.iconst 2, 1) := by decide +kernel
theorem dX2_value_19 : decode cX2_value 19 = .ok (.iload_n 3, 1) := by decide +kernel
theorem dX2_value_20 : decode cX2_value 20 = .ok (.iastore, 1) := by decide +kernel
theorem dX2_value_21 : decode cX2_value 21 = .ok (.aload_n 0, 1) := by decide +kernel
theorem dX2_value_22 : decode cX2_value 22 = .ok (.getfield 18, 3) := by decide +kernel
theorem dX2_value_25 : decode cX2_value 25 = .ok (.iconst 3, 1) := by decide +kernel
theorem dX2_value_26 : decode cX2_value 26 = .ok (.iload 4, 2) := by decide +kernel
theorem dX2_value_28 : decode cX2_value 28 = .ok (.iastore, 1) := by decide +kernel
theorem dX2_value_29 : decode cX2_value 29 = .ok (.aload_n 0, 1) := by decide +kernel
theorem dX2_value_30 : decode cX2_value 30 = .ok (.getfield 18, 3) := by decide +kernel
theorem dX2_value_33 : decode cX2_value 33 = .ok (.iconst 4, 1) := by decide +kernel
theorem dX2_value_34 : decode cX2_value 34 = .ok (.iload 5, 2) := by decide +kernel
theorem dX2_value_36 : decode cX2_value 36 = .ok (.iastore, 1) := by decide +kernel
theorem dX2_value_37 : decode cX2_value 37 = .ok (.iconst 0, 1) := by decide +kernel
theorem dX2_value_38 : decode cX2_value 38 = .ok (.istore 6, 2) := by decide +kernel
theorem dX2_value_40 : decode cX2_value 40 = .ok (.iconst 0, 1) := by decide +kernel
theorem dX2_value_41 : decode cX2_value 41 = .ok (.istore 7, 2) := by decide +kernel
theorem dX2_value_43 : decode cX2_value 43 = .ok (.iload 7, 2) := by decide +kernel
theorem dX2_value_45 : decode cX2_value 45 = .ok (.aload_n 0, 1) := by decide +kernel
theorem dX2_value_46 : decode cX2_value 46 = .ok (.getfield 21, 3) := by decide +kernel
theorem dX2_value_49 : decode cX2_value 49 = .ok (.if_icmp .ge 74, 3) := by decide +kernel
theorem dX2_value_52 : decode cX2_value 52 = .ok (.aload_n 0, 1) := by decide +kernel
theorem dX2_value_53 : decode cX2_value 53 = .ok (.getfield 9, 3) := by decide +kernel
theorem dX2_value_56 : decode cX2_value 56 = .ok (.iload 7, 2) := by decide +kernel
theorem dX2_value_58 : decode cX2_value 58 = .ok (.iaload, 1) := by decide +kernel
theorem dX2_value_59 : decode cX2_value 59 = .ok (.istore 8, 2) := by decide +kernel
theorem dX2_value_61 : decode cX2_value 61 = .ok (.iload 8, 2) := by decide +kernel
theorem dX2_value_63 : decode cX2_value 63 = .ok (.bipush (-5), 2) := by decide +kernel
theorem dX2_value_65 : decode cX2_value 65 = .ok (.if_icmp .ge 16, 3) := by decide +kernel
theorem dX2_value_68 : decode cX2_value 68 = .ok (.aload_n 0, 1) := by decide +kernel
theorem dX2_value_69 : decode cX2_value 69 = .ok (.iload 8, 2) := by decide +kernel
theorem dX2_value_71 : decode cX2_value 71 = .ok (.iload 6, 2) := by decide +kernel
theorem dX2_value_73 : decode cX2_value 73 = .ok (.invokevirtual 31, 3) := by decide +kernel
theorem dX2_value_76 : decode cX2_value 76 = .ok (.istore 6, 2) := by decide +kernel
theorem dX2_value_78 : decode cX2_value 78 = .ok (.goto 39, 3) := by decide +kernel
theorem dX2_value_81 : decode cX2_value 81 = .ok (.iload 6, 2) := by decide +kernel
theorem dX2_value_83 : decode cX2_value 83 = .ok (.bipush 64, 2) := by decide +kernel
theorem dX2_value_85 : decode cX2_value 85 = .ok (.if_icmp .ge 32, 3) := by decide +kernel
theorem dX2_value_88 : decode cX2_value 88 = .ok (.aload_n 0, 1) := by decide +kernel
theorem dX2_value_89 : decode cX2_value 89 = .ok (.getfield 15, 3) := by decide +kernel
theorem dX2_value_92 : decode cX2_value 92 = .ok (.iload 6, 2) := by decide +kernel
theorem dX2_value_94 : decode cX2_value 94 = .ok (.iload 8, 2) := by decide +kernel
theorem dX2_value_96 : decode cX2_value 96 = .ok (.ifCond .lt 8, 3) := by decide +kernel
theorem dX2_value_99 : decode cX2_value 99 = .ok (.iload 8, 2) := by decide +kernel
theorem dX2_value_101 : decode cX2_value 101 = .ok (.goto 12, 3) := by decide +kernel
theorem dX2_value_104 : decode cX2_value 104 = .ok (.aload_n 0, 1) := by decide +kernel
theorem dX2_value_105 : decode cX2_value 105 = .ok (.getfield 18, 3) := by decide +kernel
theorem dX2_value_108 : decode cX2_value 108 = .ok (.iconst (-1), 1) := by decide +kernel
theorem dX2_value_109 : decode cX2_value 109 = .ok (.iload 8, 2) := by decide +kernel
theorem dX2_value_111 : decode cX2_value 111 = .ok (.isub, 1) := by decide +kernel
theorem dX2_value_112 : decode cX2_value 112 = .ok (.iaload, 1) := by decide +kernel
theorem dX2_value_113 : decode cX2_value 113 = .ok (.iastore, 1) := by decide +kernel
theorem dX2_value_114 : decode cX2_value 114 = .ok (.iinc 6 1, 3) := by decide +kernel
theorem dX2_value_117 : decode cX2_value 117 = .ok (.iinc 7 1, 3) := by decide +kernel
theorem dX2_value_120 : decode cX2_value 120 = .ok (.goto (-77), 3) := by decide +kernel
theorem dX2_value_123 : decode cX2_value 123 = .ok (.iload 6, 2) := by decide +kernel
theorem dX2_value_125 : decode cX2_value 125 = .ok (.ifCond .le 15, 3) := by decide +kernel
theorem dX2_value_128 : decode cX2_value 128 = .ok (.aload_n 0, 1) := by decide +kernel
theorem dX2_value_129 : decode cX2_value 129 = .ok (.getfield 15, 3) := by decide +kernel
theorem dX2_value_132 : decode cX2_value 132 = .ok (.iload 6, 2) := by decide +kernel
theorem dX2_value_134 : decode cX2_value 134 = .ok (.iconst 1, 1) := by decide +kernel
theorem dX2_value_135 : decode cX2_value 135 = .ok (.isub, 1) := by decide +kernel
theorem dX2_value_136 : decode cX2_value 136 = .ok (.iaload, 1) := by decide +kernel
theorem dX2_value_137 : decode cX2_value 137 = .ok (.goto 4, 3) := by decide +kernel
theorem dX2_value_140 : decode cX2_value 140 = .ok (.iconst 0, 1) := by decide +kernel
theorem dX2_value_141 : decode cX2_value 141 = .ok (.ireturn, 1) := by decide +kernel
theorem bX2_value_0 {d : Nat} {P : Int → q_Mem → Prop} {M : q_Mem} (x0 x1 x2 x3 x4 x5 : Int) (k0 : q_kd x0 = 2) (h : (∀ M1 : q_Mem, M1 = q_up M (q_lay x0 3) 0 x1 → (∀ M2 : q_Mem, M2 = q_up M1 (q_lay x0 3) 1 x2 → (∀ M3 : q_Mem, M3 = q_up M2 (q_lay x0 3) 2 x3 → (∀ M4 : q_Mem, M4 = q_up M3 (q_lay x0 3) 3 x4 → (∀ M5 : q_Mem, M5 = q_up M4 (q_lay x0 3) 4 x5 → q_v mX2_value d (qPI P) M5 43 [some (qR x0), none, none, none, none, none, some (qI 0), some (qI 0), none] [])))))) : q_v mX2_value d (qPI P) M 0 [some (qR x0), some (qI x1), some (qI x2), some (qI x3), some (qI x4), some (qI x5), none, none, none] [] := by
  refine qr_aload_n 0 1 rfl (x := x0) rfl dX2_value_0 ?_
  refine qr_getF 1 4 rfl ck2 3 (by decide) (b := (q_lay x0 3)) k0 rfl (by decide +kernel) rfl wm_47 rfl dX2_value_1 ?_
  refine qr_iconst 4 5 rfl (q_l32 _ rfl) dX2_value_4 ?_
  refine qr_iload_n 5 6 rfl (x := x1) rfl dX2_value_5 ?_
  refine qi_st 6 7 rfl (N := 5) (lk2_3 _ k0) (ll2_3 _ k0) (by decide) (by decide) dX2_value_6 (fun M1 e_M1 => ?_)
  have h := h M1 e_M1
  refine qr_aload_n 7 8 rfl (x := x0) rfl dX2_value_7 ?_
  refine qr_getF 8 11 rfl ck2 3 (by decide) (b := (q_lay x0 3)) k0 rfl (by decide +kernel) rfl wm_47 rfl dX2_value_8 ?_
  refine qr_iconst 11 12 rfl (q_l32 _ rfl) dX2_value_11 ?_
  refine qr_iload_n 12 13 rfl (x := x2) rfl dX2_value_12 ?_
  refine qi_st 13 14 rfl (N := 5) (lk2_3 _ k0) (ll2_3 _ k0) (by decide) (by decide) dX2_value_13 (fun M2 e_M2 => ?_)
  have h := h M2 e_M2
  refine qr_aload_n 14 15 rfl (x := x0) rfl dX2_value_14 ?_
  refine qr_getF 15 18 rfl ck2 3 (by decide) (b := (q_lay x0 3)) k0 rfl (by decide +kernel) rfl wm_47 rfl dX2_value_15 ?_
  refine qr_iconst 18 19 rfl (q_l32 _ rfl) dX2_value_18 ?_
  refine qr_iload_n 19 20 rfl (x := x3) rfl dX2_value_19 ?_
  refine qi_st 20 21 rfl (N := 5) (lk2_3 _ k0) (ll2_3 _ k0) (by decide) (by decide) dX2_value_20 (fun M3 e_M3 => ?_)
  have h := h M3 e_M3
  refine qr_aload_n 21 22 rfl (x := x0) rfl dX2_value_21 ?_
  refine qr_getF 22 25 rfl ck2 3 (by decide) (b := (q_lay x0 3)) k0 rfl (by decide +kernel) rfl wm_47 rfl dX2_value_22 ?_
  refine qr_iconst 25 26 rfl (q_l32 _ rfl) dX2_value_25 ?_
  refine qr_iload 26 28 rfl (x := x4) rfl dX2_value_26 ?_
  refine qi_st 28 29 rfl (N := 5) (lk2_3 _ k0) (ll2_3 _ k0) (by decide) (by decide) dX2_value_28 (fun M4 e_M4 => ?_)
  have h := h M4 e_M4
  refine qr_aload_n 29 30 rfl (x := x0) rfl dX2_value_29 ?_
  refine qr_getF 30 33 rfl ck2 3 (by decide) (b := (q_lay x0 3)) k0 rfl (by decide +kernel) rfl wm_47 rfl dX2_value_30 ?_
  refine qr_iconst 33 34 rfl (q_l32 _ rfl) dX2_value_33 ?_
  refine qr_iload 34 36 rfl (x := x5) rfl dX2_value_34 ?_
  refine qi_st 36 37 rfl (N := 5) (lk2_3 _ k0) (ll2_3 _ k0) (by decide) (by decide) dX2_value_36 (fun M5 e_M5 => ?_)
  have h := h M5 e_M5
  refine qr_iconst 37 38 rfl (q_l32 _ rfl) dX2_value_37 ?_
  refine qr_istore 38 40 rfl (by decide) rfl rfl dX2_value_38 ?_
  refine qr_iconst 40 41 rfl (q_l32 _ rfl) dX2_value_40 ?_
  refine qr_istore 41 43 rfl (by decide) rfl rfl dX2_value_41 ?_
  exact qr_cut 43 (ls' := [some (qR x0), none, none, none, none, none, some (qI 0), some (qI 0), none]) (And.intro rfl (And.intro rfl (And.intro rfl trivial))) h
theorem bX2_value_43 {d : Nat} {P : Int → q_Mem → Prop} {M : q_Mem} (x0 x6 x7 : Int) (k0 : q_kd x0 = 2) (h : (((M x0 0) ≤ x7) → ((x6 ≤ 0) → P 0 M) ∧ ((¬ (x6 ≤ 0)) → (0 ≤ (q_sub x6 1) ∧ (q_sub x6 1) < (64 : Int)) ∧ (P (M (q_lay x0 2) (q_sub x6 1)) M))) ∧ ((¬ ((M x0 0) ≤ x7)) → (0 ≤ x7 ∧ x7 < (900 : Int)) ∧ (∀ x8_3 : Int, x8_3 = (M (q_lay x0 1) x7) → ((((-5) : Int) ≤ x8_3) → (((64 : Int) ≤ x6) → q_v mX2_value d (qPI P) M 43 [some (qR x0), none, none, none, none, none, some (qI x6), some (qI (q_add x7 1)), none] []) ∧ ((¬ ((64 : Int) ≤ x6)) → ((x8_3 < 0) → (0 ≤ (q_sub (-1) x8_3) ∧ (q_sub (-1) x8_3) < (5 : Int)) ∧ ((0 ≤ x6 ∧ x6 < (64 : Int)) ∧ (∀ M6 : q_Mem, M6 = q_up M (q_lay x0 2) x6 (M (q_lay x0 3) (q_sub (-1) x8_3)) → q_v mX2_value d (qPI P) M6 43 [some (qR x0), none, none, none, none, none, some (qI (q_add x6 1)), some (qI (q_add x7 1)), none] []))) ∧ ((¬ (x8_3 < 0)) → (0 ≤ x6 ∧ x6 < (64 : Int)) ∧ (∀ M8 : q_Mem, M8 = q_up M (q_lay x0 2) x6 x8_3 → q_v mX2_value d (qPI P) M8 43 [some (qR x0), none, none, none, none, none, some (qI (q_add x6 1)), some (qI (q_add x7 1)), none] [])))) ∧ ((¬ (((-5) : Int) ≤ x8_3)) → q_kI yX2_apply mX2_apply d [qR x0, qI x8_3, qI x6] M (fun v10 M9 => q_v mX2_value d (qPI P) M9 43 [some (qR x0), none, none, none, none, none, some (qI v10), some (qI (q_add x7 1)), none] []))))) : q_v mX2_value d (qPI P) M 43 [some (qR x0), none, none, none, none, none, some (qI x6), some (qI x7), none] [] := by
  refine qr_iload 43 45 rfl (x := x7) rfl dX2_value_43 ?_
  refine qr_aload_n 45 46 rfl (x := x0) rfl dX2_value_45 ?_
  refine qg_i 46 49 rfl ck2 0 (kk := 0) (by decide) k0 (by decide +kernel) rfl wm_43 rfl dX2_value_46 ?_
  refine qr_icmp_ge 49 52 123 rfl (by decide) dX2_value_49 (fun c49 => ?_) (fun c49 => ?_)
  · have h := h.1 c49
    refine qr_iload 123 125 rfl (x := x6) rfl dX2_value_123 ?_
    refine qr_if_le 125 128 140 rfl (by decide) dX2_value_125 (fun c125 => ?_) (fun c125 => ?_)
    · have h := h.1 c125
      refine qr_iconst 140 141 rfl (q_l32 _ rfl) dX2_value_140 ?_
      exact qe_i 141 rfl dX2_value_141 h
    · have h := h.2 c125
      refine qr_aload_n 128 129 rfl (x := x0) rfl dX2_value_128 ?_
      refine qr_getF 129 132 rfl ck2 2 (by decide) (b := (q_lay x0 2)) k0 rfl (by decide +kernel) rfl wm_46 rfl dX2_value_129 ?_
      refine qr_iload 132 134 rfl (x := x6) rfl dX2_value_132 ?_
      refine qr_iconst 134 135 rfl (q_l32 _ rfl) dX2_value_134 ?_
      refine qr_isub 135 136 rfl dX2_value_135 ?_
      have hb1 := h.1
      have h := h.2
      refine qi_ld 136 137 rfl (N := 64) (lk2_2 _ k0) (ll2_2 _ k0) hb1.1 hb1.2 dX2_value_136 ?_
      refine qr_goto 137 141 (by decide) dX2_value_137 ?_
      exact qe_i 141 rfl dX2_value_141 h
  · have h := h.2 c49
    refine qr_aload_n 52 53 rfl (x := x0) rfl dX2_value_52 ?_
    refine qr_getF 53 56 rfl ck2 1 (by decide) (b := (q_lay x0 1)) k0 rfl (by decide +kernel) rfl wm_45 rfl dX2_value_53 ?_
    refine qr_iload 56 58 rfl (x := x7) rfl dX2_value_56 ?_
    have hb2 := h.1
    have h := h.2
    refine qi_ld 58 59 rfl (N := 900) (lk2_1 _ k0) (ll2_1 _ k0) hb2.1 hb2.2 dX2_value_58 ?_
    refine qn_i 59 (fun x8_3 e_x8_3 => ?_)
    have h := h x8_3 e_x8_3
    refine qr_istore 59 61 rfl (by decide) rfl rfl dX2_value_59 ?_
    refine qr_iload 61 63 rfl (x := x8_3) rfl dX2_value_61 ?_
    refine qr_bipush 63 65 rfl (q_l32 _ rfl) (by decide) dX2_value_63 ?_
    refine qr_icmp_ge 65 68 81 rfl (by decide) dX2_value_65 (fun c65 => ?_) (fun c65 => ?_)
    · have h := h.1 c65
      refine qr_iload 81 83 rfl (x := x6) rfl dX2_value_81 ?_
      refine qr_bipush 83 85 rfl (q_l32 _ rfl) (by decide) dX2_value_83 ?_
      refine qr_icmp_ge 85 88 117 rfl (by decide) dX2_value_85 (fun c85 => ?_) (fun c85 => ?_)
      · have h := h.1 c85
        refine qr_iinc 117 120 rfl (by decide) (x := x7) rfl rfl rfl dX2_value_117 ?_
        refine qr_goto 120 43 (by decide) dX2_value_120 ?_
        exact qr_cut 43 (ls' := [some (qR x0), none, none, none, none, none, some (qI x6), some (qI (q_add x7 1)), none]) (And.intro rfl (And.intro rfl (And.intro rfl trivial))) h
      · have h := h.2 c85
        refine qr_aload_n 88 89 rfl (x := x0) rfl dX2_value_88 ?_
        refine qr_getF 89 92 rfl ck2 2 (by decide) (b := (q_lay x0 2)) k0 rfl (by decide +kernel) rfl wm_46 rfl dX2_value_89 ?_
        refine qr_iload 92 94 rfl (x := x6) rfl dX2_value_92 ?_
        refine qr_iload 94 96 rfl (x := x8_3) rfl dX2_value_94 ?_
        refine qr_if_lt 96 99 104 rfl (by decide) dX2_value_96 (fun c96 => ?_) (fun c96 => ?_)
        · have h := h.1 c96
          refine qr_aload_n 104 105 rfl (x := x0) rfl dX2_value_104 ?_
          refine qr_getF 105 108 rfl ck2 3 (by decide) (b := (q_lay x0 3)) k0 rfl (by decide +kernel) rfl wm_47 rfl dX2_value_105 ?_
          refine qr_iconst 108 109 rfl (q_l32 _ rfl) dX2_value_108 ?_
          refine qr_iload 109 111 rfl (x := x8_3) rfl dX2_value_109 ?_
          refine qr_isub 111 112 rfl dX2_value_111 ?_
          have hb4 := h.1
          have h := h.2
          refine qi_ld 112 113 rfl (N := 5) (lk2_3 _ k0) (ll2_3 _ k0) hb4.1 hb4.2 dX2_value_112 ?_
          have hb5 := h.1
          have h := h.2
          refine qi_st 113 114 rfl (N := 64) (lk2_2 _ k0) (ll2_2 _ k0) hb5.1 hb5.2 dX2_value_113 (fun M6 e_M6 => ?_)
          have h := h M6 e_M6
          refine qr_iinc 114 117 rfl (by decide) (x := x6) rfl rfl rfl dX2_value_114 ?_
          refine qr_iinc 117 120 rfl (by decide) (x := x7) rfl rfl rfl dX2_value_117 ?_
          refine qr_goto 120 43 (by decide) dX2_value_120 ?_
          exact qr_cut 43 (ls' := [some (qR x0), none, none, none, none, none, some (qI (q_add x6 1)), some (qI (q_add x7 1)), none]) (And.intro rfl (And.intro rfl (And.intro rfl trivial))) h
        · have h := h.2 c96
          refine qr_iload 99 101 rfl (x := x8_3) rfl dX2_value_99 ?_
          refine qr_goto 101 113 (by decide) dX2_value_101 ?_
          have hb7 := h.1
          have h := h.2
          refine qi_st 113 114 rfl (N := 64) (lk2_2 _ k0) (ll2_2 _ k0) hb7.1 hb7.2 dX2_value_113 (fun M8 e_M8 => ?_)
          have h := h M8 e_M8
          refine qr_iinc 114 117 rfl (by decide) (x := x6) rfl rfl rfl dX2_value_114 ?_
          refine qr_iinc 117 120 rfl (by decide) (x := x7) rfl rfl rfl dX2_value_117 ?_
          refine qr_goto 120 43 (by decide) dX2_value_120 ?_
          exact qr_cut 43 (ls' := [some (qR x0), none, none, none, none, none, some (qI (q_add x6 1)), some (qI (q_add x7 1)), none]) (And.intro rfl (And.intro rfl (And.intro rfl trivial))) h
    · have h := h.2 c65
      refine qr_aload_n 68 69 rfl (x := x0) rfl dX2_value_68 ?_
      refine qr_iload 69 71 rfl (x := x8_3) rfl dX2_value_69 ?_
      refine qr_iload 71 73 rfl (x := x6) rfl dX2_value_71 ?_
      refine qw_I 73 76 rfl (av := [qI x8_3, qI x6]) ca_X2_apply wm_807 wp_37 wm_805 ck2 k0 rfl rfl (Nat.le_of_ble_eq_true rfl) dX2_value_73 h (fun v10 M9 h => ?_)
      refine qr_istore 76 78 rfl (by decide) rfl rfl dX2_value_76 ?_
      refine qr_goto 78 117 (by decide) dX2_value_78 ?_
      refine qr_iinc 117 120 rfl (by decide) (x := x7) rfl rfl rfl dX2_value_117 ?_
      refine qr_goto 120 43 (by decide) dX2_value_120 ?_
      exact qr_cut 43 (ls' := [some (qR x0), none, none, none, none, none, some (qI v10), some (qI (q_add x7 1)), none]) (And.intro rfl (And.intro rfl (And.intro rfl trivial))) h
theorem dX2_apply_0 : decode cX2_apply 0 = .ok (.iload_n 1, 1) := by decide +kernel
theorem dX2_apply_1 : decode cX2_apply 1 = .ok (.bipush (-14), 2) := by decide +kernel
theorem dX2_apply_3 : decode cX2_apply 3 = .ok (.if_icmp .ne 28, 3) := by decide +kernel
theorem dX2_apply_6 : decode cX2_apply 6 = .ok (.iload_n 2, 1) := by decide +kernel
theorem dX2_apply_7 : decode cX2_apply 7 = .ok (.iconst 1, 1) := by decide +kernel
theorem dX2_apply_8 : decode cX2_apply 8 = .ok (.if_icmp .lt 23, 3) := by decide +kernel
theorem dX2_apply_11 : decode cX2_apply 11 = .ok (.aload_n 0, 1) := by decide +kernel
theorem dX2_apply_12 : decode cX2_apply 12 = .ok (.getfield 15, 3) := by decide +kernel
theorem dX2_apply_15 : decode cX2_apply 15 = .ok (.iload_n 2, 1) := by decide +kernel
theorem dX2_apply_16 : decode cX2_apply 16 = .ok (.iconst 1, 1) := by decide +kernel
theorem dX2_apply_17 : decode cX2_apply 17 = .ok (.isub, 1) := by decide +kernel
theorem dX2_apply_18 : decode cX2_apply 18 = .ok (.iconst 1, 1) := by decide +kernel
theorem dX2_apply_19 : decode cX2_apply 19 = .ok (.aload_n 0, 1) := by decide +kernel
theorem dX2_apply_20 : decode cX2_apply 20 = .ok (.getfield 15, 3) := by decide +kernel
theorem dX2_apply_23 : decode cX2_apply 23 = .ok (.iload_n 2, 1) := by decide +kernel
theorem dX2_apply_24 : decode cX2_apply 24 = .ok (.iconst 1, 1) := by decide +kernel
theorem dX2_apply_25 : decode cX2_apply 25 = .ok (.isub, 1) := by decide +kernel
theorem dX2_apply_26 : decode cX2_apply 26 = .ok (.iaload, 1) := by decide +kernel
theorem dX2_apply_27 : decode cX2_apply 27 = .ok (.isub, 1) := by decide +kernel
theorem dX2_apply_28 : decode cX2_apply 28 = .ok (.iastore, 1) := by decide +kernel
theorem dX2_apply_29 : decode cX2_apply 29 = .ok (.iload_n 2, 1) := by decide +kernel
theorem dX2_apply_30 : decode cX2_apply 30 = .ok (.ireturn, 1) := by decide +kernel
theorem dX2_apply_31 : decode cX2_apply 31 = .ok (.iload_n 1, 1) := by decide +kernel
theorem dX2_apply_32 : decode cX2_apply 32 = .ok (.bipush (-15), 2) := by decide +kernel
theorem dX2_apply_34 : decode cX2_apply 34 = .ok (.if_icmp .ne 50, 3) := by decide +kernel
theorem dX2_apply_37 : decode cX2_apply 37 = .ok (.iload_n 2, 1) := by decide +kernel
theorem dX2_apply_38 : decode cX2_apply 38 = .ok (.iconst 3, 1) := by decide +kernel
theorem dX2_apply_39 : decode cX2_apply 39 = .ok (.if_icmp .lt 45, 3) := by decide +kernel
theorem dX2_apply_42 : decode cX2_apply 42 = .ok (.aload_n 0, 1) := by decide +kernel
theorem dX2_apply_43 : decode cX2_apply 43 = .ok (.getfield 15, 3) := by decide +kernel
theorem dX2_apply_46 : decode cX2_apply 46 = .ok (.iload_n 2, 1) := by decide +kernel
theorem dX2_apply_47 : decode cX2_apply 47 = .ok (.iconst 3, 1) := by decide +kernel
theorem dX2_apply_48 : decode cX2_apply 48 = .ok (.isub, 1) := by decide +kernel
theorem dX2_apply_49 : decode cX2_apply 49 = .ok (.aload_n 0, 1) := by decide +kernel
theorem dX2_apply_50 : decode cX2_apply 50 = .ok (.getfield 15, 3) := by decide +kernel
theorem dX2_apply_53 : decode cX2_apply 53 = .ok (.iload_n 2, 1) := by decide +kernel
theorem dX2_apply_54 : decode cX2_apply 54 = .ok (.iconst 3, 1) := by decide +kernel
theorem dX2_apply_55 : decode cX2_apply 55 = .ok (.isub, 1) := by decide +kernel
theorem dX2_apply_56 : decode cX2_apply 56 = .ok (.iaload, 1) := by decide +kernel
theorem dX2_apply_57 : decode cX2_apply 57 = .ok (.ifCond .eq 14, 3) := by decide +kernel
theorem dX2_apply_60 : decode cX2_apply 60 = .ok (.aload_n 0, 1) := by decide +kernel
theorem dX2_apply_61 : decode cX2_apply 61 = .ok (.getfield 15, 3) := by decide +kernel
theorem dX2_apply_64 : decode cX2_apply 64 = .ok (.iload_n 2, 1) := by decide +kernel
theorem dX2_apply_65 : decode cX2_apply 65 = .ok (.iconst 2, 1) := by decide +kernel
theorem dX2_apply_66 : decode cX2_apply 66 = .ok (.isub, 1) := by decide +kernel
theorem dX2_apply_67 : decode cX2_apply 67 = .ok (.iaload, 1) := by decide +kernel
theorem dX2_apply_68 : decode cX2_apply 68 = .ok (.goto 11, 3) := by decide +kernel
theorem dX2_apply_71 : decode cX2_apply 71 = .ok (.aload_n 0, 1) := by decide +kernel
theorem dX2_apply_72 : decode cX2_apply 72 = .ok (.getfield 15, 3) := by decide +kernel
theorem dX2_apply_75 : decode cX2_apply 75 = .ok (.iload_n 2, 1) := by decide +kernel
theorem dX2_apply_76 : decode cX2_apply 76 = .ok (.iconst 1, 1) := by decide +kernel
theorem dX2_apply_77 : decode cX2_apply 77 = .ok (.isub, 1) := by decide +kernel
theorem dX2_apply_78 : decode cX2_apply 78 = .ok (.iaload, 1) := by decide +kernel
theorem dX2_apply_79 : decode cX2_apply 79 = .ok (.iastore, 1) := by decide +kernel
theorem dX2_apply_80 : decode cX2_apply 80 = .ok (.iload_n 2, 1) := by decide +kernel
theorem dX2_apply_81 : decode cX2_apply 81 = .ok (.iconst 2, 1) := by decide +kernel
theorem dX2_apply_82 : decode cX2_apply 82 = .ok (.isub, 1) := by decide +kernel
theorem dX2_apply_83 : decode cX2_apply 83 = .ok (.ireturn, 1) := by decide +kernel
theorem dX2_apply_84 : decode cX2_apply 84 = .ok (.iload_n 2, 1) := by decide +kernel
theorem dX2_apply_85 : decode cX2_apply 85 = .ok (.iconst 2, 1) := by decide +kernel
theorem dX2_apply_86 : decode cX2_apply 86 = .ok (.if_icmp .ge 5, 3) := by decide +kernel
theorem dX2_apply_89 : decode cX2_apply 89 = .ok (.iload_n 2, 1) := by decide +kernel
theorem dX2_apply_90 : decode cX2_apply 90 = .ok (.ireturn, 1) := by decide +kernel
theorem dX2_apply_91 : decode cX2_apply 91 = .ok (.aload_n 0, 1) := by decide +kernel
theorem dX2_apply_92 : decode cX2_apply 92 = .ok (.getfield 15, 3) := by decide +kernel
theorem dX2_apply_95 : decode cX2_apply 95 = .ok (.iload_n 2, 1) := by decide +kernel
theorem dX2_apply_96 : decode cX2_apply 96 = .ok (.iconst 2, 1) := by decide +kernel
theorem dX2_apply_97 : decode cX2_apply 97 = .ok (.isub, 1) := by decide +kernel
theorem dX2_apply_98 : decode cX2_apply 98 = .ok (.iload_n 1, 1) := by decide +kernel
theorem dX2_apply_99 : decode cX2_apply 99 = .ok (.aload_n 0, 1) := by decide +kernel
theorem dX2_apply_100 : decode cX2_apply 100 = .ok (.getfield 15, 3) := by decide +kernel
theorem dX2_apply_103 : decode cX2_apply 103 = .ok (.iload_n 2, 1) := by decide +kernel
theorem dX2_apply_104 : decode cX2_apply 104 = .ok (.iconst 2, 1) := by decide +kernel
theorem dX2_apply_105 : decode cX2_apply 105 = .ok (.isub, 1) := by decide +kernel
theorem dX2_apply_106 : decode cX2_apply 106 = .ok (.iaload, 1) := by decide +kernel
theorem dX2_apply_107 : decode cX2_apply 107 = .ok (.aload_n 0, 1) := by decide +kernel
theorem dX2_apply_108 : decode cX2_apply 108 = .ok (.getfield 15, 3) := by decide +kernel
theorem dX2_apply_111 : decode cX2_apply 111 = .ok (.iload_n 2, 1) := by decide +kernel
theorem dX2_apply_112 : decode cX2_apply 112 = .ok (.iconst 1, 1) := by decide +kernel
theorem dX2_apply_113 : decode cX2_apply 113 = .ok (.isub, 1) := by decide +kernel
theorem dX2_apply_114 : decode cX2_apply 114 = .ok (.iaload, 1) := by decide +kernel
theorem dX2_apply_115 : decode cX2_apply 115 = .ok (.invokestatic 35, 3) := by decide +kernel
theorem dX2_apply_118 : decode cX2_apply 118 = .ok (.iastore, 1) := by decide +kernel
theorem dX2_apply_119 : decode cX2_apply 119 = .ok (.iload_n 2, 1) := by decide +kernel
theorem dX2_apply_120 : decode cX2_apply 120 = .ok (.iconst 1, 1) := by decide +kernel
theorem dX2_apply_121 : decode cX2_apply 121 = .ok (.isub, 1) := by decide +kernel
theorem dX2_apply_122 : decode cX2_apply 122 = .ok (.ireturn, 1) := by decide +kernel
theorem bX2_apply_0 {d : Nat} {P : Int → q_Mem → Prop} {M : q_Mem} (x0 x1 x2 : Int) (k0 : q_kd x0 = 2) (h : ((¬ x1 = ((-14) : Int)) → q_v mX2_apply d (qPI P) M 31 [some (qR x0), some (qI x1), some (qI x2)] []) ∧ ((x1 = ((-14) : Int)) → ((x2 < (1 : Int)) → q_v mX2_apply d (qPI P) M 31 [some (qR x0), some (qI x1), some (qI x2)] []) ∧ ((¬ (x2 < (1 : Int))) → (0 ≤ (q_sub x2 1) ∧ (q_sub x2 1) < (64 : Int)) ∧ ((0 ≤ (q_sub x2 1) ∧ (q_sub x2 1) < (64 : Int)) ∧ (∀ M3 : q_Mem, M3 = q_up M (q_lay x0 2) (q_sub x2 1) (q_sub 1 (M (q_lay x0 2) (q_sub x2 1))) → P x2 M3))))) : q_v mX2_apply d (qPI P) M 0 [some (qR x0), some (qI x1), some (qI x2)] [] := by
  refine qr_iload_n 0 1 rfl (x := x1) rfl dX2_apply_0 ?_
  refine qr_bipush 1 3 rfl (q_l32 _ rfl) (by decide) dX2_apply_1 ?_
  refine qr_icmp_ne 3 6 31 rfl (by decide) dX2_apply_3 (fun c3 => ?_) (fun c3 => ?_)
  · have h := h.1 c3
    exact h
  · have h := h.2 c3
    refine qr_iload_n 6 7 rfl (x := x2) rfl dX2_apply_6 ?_
    refine qr_iconst 7 8 rfl (q_l32 _ rfl) dX2_apply_7 ?_
    refine qr_icmp_lt 8 11 31 rfl (by decide) dX2_apply_8 (fun c8 => ?_) (fun c8 => ?_)
    · have h := h.1 c8
      exact h
    · have h := h.2 c8
      refine qr_aload_n 11 12 rfl (x := x0) rfl dX2_apply_11 ?_
      refine qr_getF 12 15 rfl ck2 2 (by decide) (b := (q_lay x0 2)) k0 rfl (by decide +kernel) rfl wm_46 rfl dX2_apply_12 ?_
      refine qr_iload_n 15 16 rfl (x := x2) rfl dX2_apply_15 ?_
      refine qr_iconst 16 17 rfl (q_l32 _ rfl) dX2_apply_16 ?_
      refine qr_isub 17 18 rfl dX2_apply_17 ?_
      refine qr_iconst 18 19 rfl (q_l32 _ rfl) dX2_apply_18 ?_
      refine qr_aload_n 19 20 rfl (x := x0) rfl dX2_apply_19 ?_
      refine qr_getF 20 23 rfl ck2 2 (by decide) (b := (q_lay x0 2)) k0 rfl (by decide +kernel) rfl wm_46 rfl dX2_apply_20 ?_
      refine qr_iload_n 23 24 rfl (x := x2) rfl dX2_apply_23 ?_
      refine qr_iconst 24 25 rfl (q_l32 _ rfl) dX2_apply_24 ?_
      refine qr_isub 25 26 rfl dX2_apply_25 ?_
      have hb1 := h.1
      have h := h.2
      refine qi_ld 26 27 rfl (N := 64) (lk2_2 _ k0) (ll2_2 _ k0) hb1.1 hb1.2 dX2_apply_26 ?_
      refine qr_isub 27 28 rfl dX2_apply_27 ?_
      have hb2 := h.1
      have h := h.2
      refine qi_st 28 29 rfl (N := 64) (lk2_2 _ k0) (ll2_2 _ k0) hb2.1 hb2.2 dX2_apply_28 (fun M3 e_M3 => ?_)
      have h := h M3 e_M3
      refine qr_iload_n 29 30 rfl (x := x2) rfl dX2_apply_29 ?_
      exact qe_i 30 rfl dX2_apply_30 h
theorem bX2_apply_31 {d : Nat} {P : Int → q_Mem → Prop} {M : q_Mem} (x0 x1 x2 : Int) (k0 : q_kd x0 = 2) (h : ((¬ x1 = ((-15) : Int)) → q_v mX2_apply d (qPI P) M 84 [some (qR x0), some (qI x1), some (qI x2)] []) ∧ ((x1 = ((-15) : Int)) → ((x2 < (3 : Int)) → q_v mX2_apply d (qPI P) M 84 [some (qR x0), some (qI x1), some (qI x2)] []) ∧ ((¬ (x2 < (3 : Int))) → (0 ≤ (q_sub x2 3) ∧ (q_sub x2 3) < (64 : Int)) ∧ ((((M (q_lay x0 2) (q_sub x2 3)) = 0) → (0 ≤ (q_sub x2 1) ∧ (q_sub x2 1) < (64 : Int)) ∧ ((0 ≤ (q_sub x2 3) ∧ (q_sub x2 3) < (64 : Int)) ∧ (∀ M4 : q_Mem, M4 = q_up M (q_lay x0 2) (q_sub x2 3) (M (q_lay x0 2) (q_sub x2 1)) → P (q_sub x2 2) M4))) ∧ ((¬ ((M (q_lay x0 2) (q_sub x2 3)) = 0)) → (0 ≤ (q_sub x2 2) ∧ (q_sub x2 2) < (64 : Int)) ∧ ((0 ≤ (q_sub x2 3) ∧ (q_sub x2 3) < (64 : Int)) ∧ (∀ M7 : q_Mem, M7 = q_up M (q_lay x0 2) (q_sub x2 3) (M (q_lay x0 2) (q_sub x2 2)) → P (q_sub x2 2) M7))))))) : q_v mX2_apply d (qPI P) M 31 [some (qR x0), some (qI x1), some (qI x2)] [] := by
  refine qr_iload_n 31 32 rfl (x := x1) rfl dX2_apply_31 ?_
  refine qr_bipush 32 34 rfl (q_l32 _ rfl) (by decide) dX2_apply_32 ?_
  refine qr_icmp_ne 34 37 84 rfl (by decide) dX2_apply_34 (fun c34 => ?_) (fun c34 => ?_)
  · have h := h.1 c34
    exact h
  · have h := h.2 c34
    refine qr_iload_n 37 38 rfl (x := x2) rfl dX2_apply_37 ?_
    refine qr_iconst 38 39 rfl (q_l32 _ rfl) dX2_apply_38 ?_
    refine qr_icmp_lt 39 42 84 rfl (by decide) dX2_apply_39 (fun c39 => ?_) (fun c39 => ?_)
    · have h := h.1 c39
      exact h
    · have h := h.2 c39
      refine qr_aload_n 42 43 rfl (x := x0) rfl dX2_apply_42 ?_
      refine qr_getF 43 46 rfl ck2 2 (by decide) (b := (q_lay x0 2)) k0 rfl (by decide +kernel) rfl wm_46 rfl dX2_apply_43 ?_
      refine qr_iload_n 46 47 rfl (x := x2) rfl dX2_apply_46 ?_
      refine qr_iconst 47 48 rfl (q_l32 _ rfl) dX2_apply_47 ?_
      refine qr_isub 48 49 rfl dX2_apply_48 ?_
      refine qr_aload_n 49 50 rfl (x := x0) rfl dX2_apply_49 ?_
      refine qr_getF 50 53 rfl ck2 2 (by decide) (b := (q_lay x0 2)) k0 rfl (by decide +kernel) rfl wm_46 rfl dX2_apply_50 ?_
      refine qr_iload_n 53 54 rfl (x := x2) rfl dX2_apply_53 ?_
      refine qr_iconst 54 55 rfl (q_l32 _ rfl) dX2_apply_54 ?_
      refine qr_isub 55 56 rfl dX2_apply_55 ?_
      have hb1 := h.1
      have h := h.2
      refine qi_ld 56 57 rfl (N := 64) (lk2_2 _ k0) (ll2_2 _ k0) hb1.1 hb1.2 dX2_apply_56 ?_
      refine qr_if_eq 57 60 71 rfl (by decide) dX2_apply_57 (fun c57 => ?_) (fun c57 => ?_)
      · have h := h.1 c57
        refine qr_aload_n 71 72 rfl (x := x0) rfl dX2_apply_71 ?_
        refine qr_getF 72 75 rfl ck2 2 (by decide) (b := (q_lay x0 2)) k0 rfl (by decide +kernel) rfl wm_46 rfl dX2_apply_72 ?_
        refine qr_iload_n 75 76 rfl (x := x2) rfl dX2_apply_75 ?_
        refine qr_iconst 76 77 rfl (q_l32 _ rfl) dX2_apply_76 ?_
        refine qr_isub 77 78 rfl dX2_apply_77 ?_
        have hb2 := h.1
        have h := h.2
        refine qi_ld 78 79 rfl (N := 64) (lk2_2 _ k0) (ll2_2 _ k0) hb2.1 hb2.2 dX2_apply_78 ?_
        have hb3 := h.1
        have h := h.2
        refine qi_st 79 80 rfl (N := 64) (lk2_2 _ k0) (ll2_2 _ k0) hb3.1 hb3.2 dX2_apply_79 (fun M4 e_M4 => ?_)
        have h := h M4 e_M4
        refine qr_iload_n 80 81 rfl (x := x2) rfl dX2_apply_80 ?_
        refine qr_iconst 81 82 rfl (q_l32 _ rfl) dX2_apply_81 ?_
        refine qr_isub 82 83 rfl dX2_apply_82 ?_
        exact qe_i 83 rfl dX2_apply_83 h
      · have h := h.2 c57
        refine qr_aload_n 60 61 rfl (x := x0) rfl dX2_apply_60 ?_
        refine qr_getF 61 64 rfl ck2 2 (by decide) (b := (q_lay x0 2)) k0 rfl (by decide +kernel) rfl wm_46 rfl dX2_apply_61 ?_
        refine qr_iload_n 64 65 rfl (x := x2) rfl dX2_apply_64 ?_
        refine qr_iconst 65 66 rfl (q_l32 _ rfl) dX2_apply_65 ?_
        refine qr_isub 66 67 rfl dX2_apply_66 ?_
        have hb5 := h.1
        have h := h.2
        refine qi_ld 67 68 rfl (N := 64) (lk2_2 _ k0) (ll2_2 _ k0) hb5.1 hb5.2 dX2_apply_67 ?_
        refine qr_goto 68 79 (by decide) dX2_apply_68 ?_
        have hb6 := h.1
        have h := h.2
        refine qi_st 79 80 rfl (N := 64) (lk2_2 _ k0) (ll2_2 _ k0) hb6.1 hb6.2 dX2_apply_79 (fun M7 e_M7 => ?_)
        have h := h M7 e_M7
        refine qr_iload_n 80 81 rfl (x := x2) rfl dX2_apply_80 ?_
        refine qr_iconst 81 82 rfl (q_l32 _ rfl) dX2_apply_81 ?_
        refine qr_isub 82 83 rfl dX2_apply_82 ?_
        exact qe_i 83 rfl dX2_apply_83 h
theorem bX2_apply_84 {d : Nat} {P : Int → q_Mem → Prop} {M : q_Mem} (x0 x1 x2 : Int) (k0 : q_kd x0 = 2) (h : (((2 : Int) ≤ x2) → (0 ≤ (q_sub x2 2) ∧ (q_sub x2 2) < (64 : Int)) ∧ ((0 ≤ (q_sub x2 1) ∧ (q_sub x2 1) < (64 : Int)) ∧ (q_kI yX2_combined mX2_combined d [qI x1, qI (M (q_lay x0 2) (q_sub x2 2)), qI (M (q_lay x0 2) (q_sub x2 1))] M (fun v4 M3 => (0 ≤ (q_sub x2 2) ∧ (q_sub x2 2) < (64 : Int)) ∧ (∀ M6 : q_Mem, M6 = q_up M3 (q_lay x0 2) (q_sub x2 2) v4 → P (q_sub x2 1) M6))))) ∧ ((¬ ((2 : Int) ≤ x2)) → P x2 M)) : q_v mX2_apply d (qPI P) M 84 [some (qR x0), some (qI x1), some (qI x2)] [] := by
  refine qr_iload_n 84 85 rfl (x := x2) rfl dX2_apply_84 ?_
  refine qr_iconst 85 86 rfl (q_l32 _ rfl) dX2_apply_85 ?_
  refine qr_icmp_ge 86 89 91 rfl (by decide) dX2_apply_86 (fun c86 => ?_) (fun c86 => ?_)
  · have h := h.1 c86
    refine qr_aload_n 91 92 rfl (x := x0) rfl dX2_apply_91 ?_
    refine qr_getF 92 95 rfl ck2 2 (by decide) (b := (q_lay x0 2)) k0 rfl (by decide +kernel) rfl wm_46 rfl dX2_apply_92 ?_
    refine qr_iload_n 95 96 rfl (x := x2) rfl dX2_apply_95 ?_
    refine qr_iconst 96 97 rfl (q_l32 _ rfl) dX2_apply_96 ?_
    refine qr_isub 97 98 rfl dX2_apply_97 ?_
    refine qr_iload_n 98 99 rfl (x := x1) rfl dX2_apply_98 ?_
    refine qr_aload_n 99 100 rfl (x := x0) rfl dX2_apply_99 ?_
    refine qr_getF 100 103 rfl ck2 2 (by decide) (b := (q_lay x0 2)) k0 rfl (by decide +kernel) rfl wm_46 rfl dX2_apply_100 ?_
    refine qr_iload_n 103 104 rfl (x := x2) rfl dX2_apply_103 ?_
    refine qr_iconst 104 105 rfl (q_l32 _ rfl) dX2_apply_104 ?_
    refine qr_isub 105 106 rfl dX2_apply_105 ?_
    have hb1 := h.1
    have h := h.2
    refine qi_ld 106 107 rfl (N := 64) (lk2_2 _ k0) (ll2_2 _ k0) hb1.1 hb1.2 dX2_apply_106 ?_
    refine qr_aload_n 107 108 rfl (x := x0) rfl dX2_apply_107 ?_
    refine qr_getF 108 111 rfl ck2 2 (by decide) (b := (q_lay x0 2)) k0 rfl (by decide +kernel) rfl wm_46 rfl dX2_apply_108 ?_
    refine qr_iload_n 111 112 rfl (x := x2) rfl dX2_apply_111 ?_
    refine qr_iconst 112 113 rfl (q_l32 _ rfl) dX2_apply_112 ?_
    refine qr_isub 113 114 rfl dX2_apply_113 ?_
    have hb2 := h.1
    have h := h.2
    refine qi_ld 114 115 rfl (N := 64) (lk2_2 _ k0) (ll2_2 _ k0) hb2.1 hb2.2 dX2_apply_114 ?_
    refine qs_I 115 118 rfl (av := [qI x1, qI (M (q_lay x0 2) (q_sub x2 2)), qI (M (q_lay x0 2) (q_sub x2 1))]) ca_X2_combined wm_810 wm_809 rfl rfl (Nat.le_of_ble_eq_true rfl) dX2_apply_115 h (fun v4 M3 h => ?_)
    have hb5 := h.1
    have h := h.2
    refine qi_st 118 119 rfl (N := 64) (lk2_2 _ k0) (ll2_2 _ k0) hb5.1 hb5.2 dX2_apply_118 (fun M6 e_M6 => ?_)
    have h := h M6 e_M6
    refine qr_iload_n 119 120 rfl (x := x2) rfl dX2_apply_119 ?_
    refine qr_iconst 120 121 rfl (q_l32 _ rfl) dX2_apply_120 ?_
    refine qr_isub 121 122 rfl dX2_apply_121 ?_
    exact qe_i 122 rfl dX2_apply_122 h
  · have h := h.2 c86
    refine qr_iload_n 89 90 rfl (x := x2) rfl dX2_apply_89 ?_
    exact qe_i 90 rfl dX2_apply_90 h
theorem dX2_combined_0 : decode cX2_combined 0 = .ok (.iload_n 0, 1) := by decide +kernel
theorem dX2_combined_1 : decode cX2_combined 1 = .ok (.tableswitch 76 (-13) (-9) #[72, 68, 57, 46, 35], 35) := by decide +kernel
theorem dX2_combined_36 : decode cX2_combined 36 = .ok (.iload_n 1, 1) := by decide +kernel
theorem dX2_combined_37 : decode cX2_combined 37 = .ok (.iload_n 2, 1) := by decide +kernel
theorem dX2_combined_38 : decode cX2_combined 38 = .ok (.if_icmp .ne 7, 3) := by decide +kernel
theorem dX2_combined_41 : decode cX2_combined 41 = .ok (.iconst 1, 1) := by decide +kernel
theorem dX2_combined_42 : decode cX2_combined 42 = .ok (.goto 4, 3) := by decide +kernel
theorem dX2_combined_45 : decode cX2_combined 45 = .ok (.iconst 0, 1) := by decide +kernel
theorem dX2_combined_46 : decode cX2_combined 46 = .ok (.ireturn, 1) := by decide +kernel
theorem dX2_combined_47 : decode cX2_combined 47 = .ok (.iload_n 1, 1) := by decide +kernel
theorem dX2_combined_48 : decode cX2_combined 48 = .ok (.iload_n 2, 1) := by decide +kernel
theorem dX2_combined_49 : decode cX2_combined 49 = .ok (.if_icmp .ge 7, 3) := by decide +kernel
theorem dX2_combined_52 : decode cX2_combined 52 = .ok (.iconst 1, 1) := by decide +kernel
theorem dX2_combined_53 : decode cX2_combined 53 = .ok (.goto 4, 3) := by decide +kernel
theorem dX2_combined_56 : decode cX2_combined 56 = .ok (.iconst 0, 1) := by decide +kernel
theorem dX2_combined_57 : decode cX2_combined 57 = .ok (.ireturn, 1) := by decide +kernel
theorem dX2_combined_58 : decode cX2_combined 58 = .ok (.iload_n 1, 1) := by decide +kernel
theorem dX2_combined_59 : decode cX2_combined 59 = .ok (.iload_n 2, 1) := by decide +kernel
theorem dX2_combined_60 : decode cX2_combined 60 = .ok (.if_icmp .le 7, 3) := by decide +kernel
theorem dX2_combined_63 : decode cX2_combined 63 = .ok (.iconst 1, 1) := by decide +kernel
theorem dX2_combined_64 : decode cX2_combined 64 = .ok (.goto 4, 3) := by decide +kernel
theorem dX2_combined_67 : decode cX2_combined 67 = .ok (.iconst 0, 1) := by decide +kernel
theorem dX2_combined_68 : decode cX2_combined 68 = .ok (.ireturn, 1) := by decide +kernel
theorem dX2_combined_69 : decode cX2_combined 69 = .ok (.iload_n 1, 1) := by decide +kernel
theorem dX2_combined_70 : decode cX2_combined 70 = .ok (.iload_n 2, 1) := by decide +kernel
theorem dX2_combined_71 : decode cX2_combined 71 = .ok (.iand, 1) := by decide +kernel
theorem dX2_combined_72 : decode cX2_combined 72 = .ok (.ireturn, 1) := by decide +kernel
theorem dX2_combined_73 : decode cX2_combined 73 = .ok (.iload_n 1, 1) := by decide +kernel
theorem dX2_combined_74 : decode cX2_combined 74 = .ok (.iload_n 2, 1) := by decide +kernel
theorem dX2_combined_75 : decode cX2_combined 75 = .ok (.ior, 1) := by decide +kernel
theorem dX2_combined_76 : decode cX2_combined 76 = .ok (.ireturn, 1) := by decide +kernel
theorem dX2_combined_77 : decode cX2_combined 77 = .ok (.iload_n 0, 1) := by decide +kernel
theorem dX2_combined_78 : decode cX2_combined 78 = .ok (.bipush (-8), 2) := by decide +kernel
theorem dX2_combined_80 : decode cX2_combined 80 = .ok (.if_icmp .ne 11, 3) := by decide +kernel
theorem dX2_combined_83 : decode cX2_combined 83 = .ok (.iload_n 1, 1) := by decide +kernel
theorem dX2_combined_84 : decode cX2_combined 84 = .ok (.i2l, 1) := by decide +kernel
theorem dX2_combined_85 : decode cX2_combined 85 = .ok (.iload_n 2, 1) := by decide +kernel
theorem dX2_combined_86 : decode cX2_combined 86 = .ok (.i2l, 1) := by decide +kernel
theorem dX2_combined_87 : decode cX2_combined 87 = .ok (.lmul, 1) := by decide +kernel
theorem dX2_combined_88 : decode cX2_combined 88 = .ok (.goto 20, 3) := by decide +kernel
theorem dX2_combined_91 : decode cX2_combined 91 = .ok (.iload_n 0, 1) := by decide +kernel
theorem dX2_combined_92 : decode cX2_combined 92 = .ok (.bipush (-7), 2) := by decide +kernel
theorem dX2_combined_94 : decode cX2_combined 94 = .ok (.if_icmp .ne 10, 3) := by decide +kernel
theorem dX2_combined_97 : decode cX2_combined 97 = .ok (.iload_n 1, 1) := by decide +kernel
theorem dX2_combined_98 : decode cX2_combined 98 = .ok (.iload_n 2, 1) := by decide +kernel
theorem dX2_combined_99 : decode cX2_combined 99 = .ok (.isub, 1) := by decide +kernel
theorem dX2_combined_100 : decode cX2_combined 100 = .ok (.i2l, 1) := by decide +kernel
theorem dX2_combined_101 : decode cX2_combined 101 = .ok (.goto 7, 3) := by decide +kernel
theorem dX2_combined_104 : decode cX2_combined 104 = .ok (.iload_n 1, 1) := by decide +kernel
theorem dX2_combined_105 : decode cX2_combined 105 = .ok (.iload_n 2, 1) := by decide +kernel
theorem dX2_combined_106 : decode cX2_combined 106 = .ok (.iadd, 1) := by decide +kernel
theorem dX2_combined_107 : decode cX2_combined 107 = .ok (.i2l, 1) := by decide +kernel
theorem dX2_combined_108 : decode cX2_combined 108 = .ok (.lstore_n 3, 1) := by decide +kernel
theorem dX2_combined_109 : decode cX2_combined 109 = .ok (.ldc2_w 39, 3) := by decide +kernel
theorem dX2_combined_112 : decode cX2_combined 112 = .ok (.ldc2_w 41, 3) := by decide +kernel
theorem dX2_combined_115 : decode cX2_combined 115 = .ok (.lload_n 3, 1) := by decide +kernel
theorem dX2_combined_116 : decode cX2_combined 116 = .ok (.invokestatic 43, 3) := by decide +kernel
theorem dX2_combined_119 : decode cX2_combined 119 = .ok (.invokestatic 49, 3) := by decide +kernel
theorem dX2_combined_122 : decode cX2_combined 122 = .ok (.l2i, 1) := by decide +kernel
theorem dX2_combined_123 : decode cX2_combined 123 = .ok (.ireturn, 1) := by decide +kernel
theorem txX2_combined_1 (x : Int) (h : ¬ (x < (-13) ∨ (-9) < x)) (h0 : ¬ x = (-13)) (h1 : ¬ x = (-12)) (h2 : ¬ x = (-11)) (h3 : ¬ x = (-10)) (h4 : ¬ x = (-9)) : False := by omega
theorem bX2_combined_0 {d : Nat} {P : Int → q_Mem → Prop} {M : q_Mem} (x0 x1 x2 : Int) (h : (((x0 < (-13) ∨ (-9) < x0) → ((¬ x0 = ((-8) : Int)) → ((¬ x0 = ((-7) : Int)) → q_v mX2_combined d (qPI P) M 108 [none, none, none, none, none] [qL (q_add x1 x2)]) ∧ ((x0 = ((-7) : Int)) → q_v mX2_combined d (qPI P) M 108 [none, none, none, none, none] [qL (q_sub x1 x2)])) ∧ ((x0 = ((-8) : Int)) → q_v mX2_combined d (qPI P) M 108 [none, none, none, none, none] [qL (q_lmul x1 x2)])) ∧ (((x0 = (-13)) → P (q_or x1 x2) M) ∧ (((x0 = (-12)) → P (q_and x1 x2) M) ∧ (((x0 = (-11)) → ((x1 ≤ x2) → P 0 M) ∧ ((¬ (x1 ≤ x2)) → P 1 M)) ∧ (((x0 = (-10)) → ((x2 ≤ x1) → P 0 M) ∧ ((¬ (x2 ≤ x1)) → P 1 M)) ∧ (((x0 = (-9)) → ((¬ x1 = x2) → P 0 M) ∧ ((x1 = x2) → P 1 M))))))))) : q_v mX2_combined d (qPI P) M 0 [some (qI x0), some (qI x1), some (qI x2), none, none] [] := by
  refine qr_iload_n 0 1 rfl (x := x0) rfl dX2_combined_0 ?_
  by_cases c1 : x0 < (-13) ∨ (-9) < x0
  · have h := h.1 c1
    refine qr_tabOut 1 77 c1 (by decide) dX2_combined_1 ?_
    refine qr_iload_n 77 78 rfl (x := x0) rfl dX2_combined_77 ?_
    refine qr_bipush 78 80 rfl (q_l32 _ rfl) (by decide) dX2_combined_78 ?_
    refine qr_icmp_ne 80 83 91 rfl (by decide) dX2_combined_80 (fun c80 => ?_) (fun c80 => ?_)
    · have h := h.1 c80
      refine qr_iload_n 91 92 rfl (x := x0) rfl dX2_combined_91 ?_
      refine qr_bipush 92 94 rfl (q_l32 _ rfl) (by decide) dX2_combined_92 ?_
      refine qr_icmp_ne 94 97 104 rfl (by decide) dX2_combined_94 (fun c94 => ?_) (fun c94 => ?_)
      · have h := h.1 c94
        refine qr_iload_n 104 105 rfl (x := x1) rfl dX2_combined_104 ?_
        refine qr_iload_n 105 106 rfl (x := x2) rfl dX2_combined_105 ?_
        refine qr_iadd 106 107 rfl dX2_combined_106 ?_
        refine qr_i2l 107 108 rfl dX2_combined_107 ?_
        exact qr_cut 108 (ls' := [none, none, none, none, none]) trivial h
      · have h := h.2 c94
        refine qr_iload_n 97 98 rfl (x := x1) rfl dX2_combined_97 ?_
        refine qr_iload_n 98 99 rfl (x := x2) rfl dX2_combined_98 ?_
        refine qr_isub 99 100 rfl dX2_combined_99 ?_
        refine qr_i2l 100 101 rfl dX2_combined_100 ?_
        refine qr_goto 101 108 (by decide) dX2_combined_101 ?_
        exact qr_cut 108 (ls' := [none, none, none, none, none]) trivial h
    · have h := h.2 c80
      refine qr_iload_n 83 84 rfl (x := x1) rfl dX2_combined_83 ?_
      refine qr_i2l 84 85 rfl dX2_combined_84 ?_
      refine qr_iload_n 85 86 rfl (x := x2) rfl dX2_combined_85 ?_
      refine qr_i2l 86 87 rfl dX2_combined_86 ?_
      refine qr_lmul 87 88 rfl dX2_combined_87 ?_
      refine qr_goto 88 108 (by decide) dX2_combined_88 ?_
      exact qr_cut 108 (ls' := [none, none, none, none, none]) trivial h
  have h := h.2
  by_cases e1_0 : x0 = (-13)
  · have h := h.1 e1_0
    refine qr_tabIn 1 73 0 (e1_0.trans (by decide)) (by decide) rfl (by decide) dX2_combined_1 ?_
    refine qr_iload_n 73 74 rfl (x := x1) rfl dX2_combined_73 ?_
    refine qr_iload_n 74 75 rfl (x := x2) rfl dX2_combined_74 ?_
    refine qr_ior 75 76 rfl dX2_combined_75 ?_
    exact qe_i 76 rfl dX2_combined_76 h
  have h := h.2
  by_cases e1_1 : x0 = (-12)
  · have h := h.1 e1_1
    refine qr_tabIn 1 69 1 (e1_1.trans (by decide)) (by decide) rfl (by decide) dX2_combined_1 ?_
    refine qr_iload_n 69 70 rfl (x := x1) rfl dX2_combined_69 ?_
    refine qr_iload_n 70 71 rfl (x := x2) rfl dX2_combined_70 ?_
    refine qr_iand 71 72 rfl dX2_combined_71 ?_
    exact qe_i 72 rfl dX2_combined_72 h
  have h := h.2
  by_cases e1_2 : x0 = (-11)
  · have h := h.1 e1_2
    refine qr_tabIn 1 58 2 (e1_2.trans (by decide)) (by decide) rfl (by decide) dX2_combined_1 ?_
    refine qr_iload_n 58 59 rfl (x := x1) rfl dX2_combined_58 ?_
    refine qr_iload_n 59 60 rfl (x := x2) rfl dX2_combined_59 ?_
    refine qr_icmp_le 60 63 67 rfl (by decide) dX2_combined_60 (fun c60 => ?_) (fun c60 => ?_)
    · have h := h.1 c60
      refine qr_iconst 67 68 rfl (q_l32 _ rfl) dX2_combined_67 ?_
      exact qe_i 68 rfl dX2_combined_68 h
    · have h := h.2 c60
      refine qr_iconst 63 64 rfl (q_l32 _ rfl) dX2_combined_63 ?_
      refine qr_goto 64 68 (by decide) dX2_combined_64 ?_
      exact qe_i 68 rfl dX2_combined_68 h
  have h := h.2
  by_cases e1_3 : x0 = (-10)
  · have h := h.1 e1_3
    refine qr_tabIn 1 47 3 (e1_3.trans (by decide)) (by decide) rfl (by decide) dX2_combined_1 ?_
    refine qr_iload_n 47 48 rfl (x := x1) rfl dX2_combined_47 ?_
    refine qr_iload_n 48 49 rfl (x := x2) rfl dX2_combined_48 ?_
    refine qr_icmp_ge 49 52 56 rfl (by decide) dX2_combined_49 (fun c49 => ?_) (fun c49 => ?_)
    · have h := h.1 c49
      refine qr_iconst 56 57 rfl (q_l32 _ rfl) dX2_combined_56 ?_
      exact qe_i 57 rfl dX2_combined_57 h
    · have h := h.2 c49
      refine qr_iconst 52 53 rfl (q_l32 _ rfl) dX2_combined_52 ?_
      refine qr_goto 53 57 (by decide) dX2_combined_53 ?_
      exact qe_i 57 rfl dX2_combined_57 h
  have h := h.2
  by_cases e1_4 : x0 = (-9)
  · have h := h e1_4
    refine qr_tabIn 1 36 4 (e1_4.trans (by decide)) (by decide) rfl (by decide) dX2_combined_1 ?_
    refine qr_iload_n 36 37 rfl (x := x1) rfl dX2_combined_36 ?_
    refine qr_iload_n 37 38 rfl (x := x2) rfl dX2_combined_37 ?_
    refine qr_icmp_ne 38 41 45 rfl (by decide) dX2_combined_38 (fun c38 => ?_) (fun c38 => ?_)
    · have h := h.1 c38
      refine qr_iconst 45 46 rfl (q_l32 _ rfl) dX2_combined_45 ?_
      exact qe_i 46 rfl dX2_combined_46 h
    · have h := h.2 c38
      refine qr_iconst 41 42 rfl (q_l32 _ rfl) dX2_combined_41 ?_
      refine qr_goto 42 46 (by decide) dX2_combined_42 ?_
      exact qe_i 46 rfl dX2_combined_46 h
  exact (txX2_combined_1 x0 c1 e1_0 e1_1 e1_2 e1_3 e1_4).elim
theorem bX2_combined_108 {d : Nat} {P : Int → q_Mem → Prop} {M : q_Mem} (y0 : Int) (h : q_kL yJ9_min_f86c9 mJ9_min_f86c9 d [qL 1000000, qL y0] M (fun v2 M1 => q_kL yJ9_max_f86c9 mJ9_max_f86c9 d [qL (-1000000), qL v2] M1 (fun v4 M3 => P (q_l2i v4) M3))) : q_v mX2_combined d (qPI P) M 108 [none, none, none, none, none] [qL y0] := by
  refine qr_lstore_n 108 109 rfl (by decide) rfl rfl dX2_combined_108 ?_
  refine qr_ldc2 109 112 rfl (v := (-1000000)) (q_l64 _ rfl) wm_812 dX2_combined_109 ?_
  refine qr_ldc2 112 115 rfl (v := 1000000) (q_l64 _ rfl) wm_813 dX2_combined_112 ?_
  refine qr_lload_n 115 116 rfl (x := y0) rfl dX2_combined_115 ?_
  refine qs_L 116 119 rfl (av := [qL 1000000, qL y0]) ca_J9_min_f86c9 wm_815 wm_814 rfl rfl (Nat.le_of_ble_eq_true rfl) dX2_combined_116 h (fun v2 M1 h => ?_)
  refine qs_L 119 122 rfl (av := [qL (-1000000), qL v2]) ca_J9_max_f86c9 wm_818 wm_817 rfl rfl (Nat.le_of_ble_eq_true rfl) dX2_combined_119 h (fun v4 M3 h => ?_)
  refine qr_l2i 122 123 rfl dX2_combined_122 ?_
  exact qe_i 123 rfl dX2_combined_123 h
theorem dX3_workOut_0 : decode cX3_workOut 0 = .ok (.aload_n 0, 1) := by decide +kernel
theorem dX3_workOut_1 : decode cX3_workOut 1 = .ok (.aload_n 2, 1) := by decide +kernel
theorem dX3_workOut_2 : decode cX3_workOut 2 = .ok (.getfield 26, 3) := by decide +kernel
theorem dX3_workOut_5 : decode cX3_workOut 5 = .ok (.putfield 17, 3) := by decide +kernel
theorem dX3_workOut_8 : decode cX3_workOut 8 = .ok (.aload_n 0, 1) := by decide +kernel
theorem dX3_workOut_9 : decode cX3_workOut 9 = .ok (.iconst 0, 1) := by decide +kernel
theorem dX3_workOut_10 : decode cX3_workOut 10 = .ok (.putfield 29, 3) := by decide +kernel
theorem dX3_workOut_13 : decode cX3_workOut 13 = .ok (.iconst 0, 1) := by decide +kernel
theorem dX3_workOut_14 : decode cX3_workOut 14 = .ok (.istore 4, 2) := by decide +kernel
theorem dX3_workOut_16 : decode cX3_workOut 16 = .ok (.iload 4, 2) := by decide +kernel
theorem dX3_workOut_18 : decode cX3_workOut 18 = .ok (.bipush 16, 2) := by decide +kernel
theorem dX3_workOut_20 : decode cX3_workOut 20 = .ok (.if_icmp .ge 47, 3) := by decide +kernel
theorem dX3_workOut_23 : decode cX3_workOut 23 = .ok (.aload_n 0, 1) := by decide +kernel
theorem dX3_workOut_24 : decode cX3_workOut 24 = .ok (.getfield 9, 3) := by decide +kernel
theorem dX3_workOut_27 : decode cX3_workOut 27 = .ok (.iload 4, 2) := by decide +kernel
theorem dX3_workOut_29 : decode cX3_workOut 29 = .ok (.iconst (-1), 1) := by decide +kernel
theorem dX3_workOut_30 : decode cX3_workOut 30 = .ok (.iastore, 1) := by decide +kernel
theorem dX3_workOut_31 : decode cX3_workOut 31 = .ok (.iload_n 3, 1) := by decide +kernel
theorem dX3_workOut_32 : decode cX3_workOut 32 = .ok (.iload 4, 2) := by decide +kernel
theorem dX3_workOut_34 : decode cX3_workOut 34 = .ok (.ishr, 1) := by decide +kernel
theorem dX3_workOut_35 : decode cX3_workOut 35 = .ok (.iconst 1, 1) := by decide +kernel
theorem dX3_workOut_36 : decode cX3_workOut 36 = .ok (.iand, 1) := by decide +kernel
theorem dX3_workOut_37 : decode cX3_workOut 37 = .ok (.ifCond .eq 24, 3) := by decide +kernel
theorem dX3_workOut_40 : decode cX3_workOut 40 = .ok (.aload_n 0, 1) := by decide +kernel
theorem dX3_workOut_41 : decode cX3_workOut 41 = .ok (.getfield 20, 3) := by decide +kernel
theorem dX3_workOut_44 : decode cX3_workOut 44 = .ok (.aload_n 0, 1) := by decide +kernel
theorem dX3_workOut_45 : decode cX3_workOut 45 = .ok (.getfield 29, 3) := by decide +kernel
theorem dX3_workOut_48 : decode cX3_workOut 48 = .ok (.iload 4, 2) := by decide +kernel
theorem dX3_workOut_50 : decode cX3_workOut 50 = .ok (.iastore, 1) := by decide +kernel
theorem dX3_workOut_51 : decode cX3_workOut 51 = .ok (.aload_n 0, 1) := by decide +kernel
theorem dX3_workOut_52 : decode cX3_workOut 52 = .ok (.dup, 1) := by decide +kernel
theorem dX3_workOut_53 : decode cX3_workOut 53 = .ok (.getfield 29, 3) := by decide +kernel
theorem dX3_workOut_56 : decode cX3_workOut 56 = .ok (.iconst 1, 1) := by decide +kernel
theorem dX3_workOut_57 : decode cX3_workOut 57 = .ok (.iadd, 1) := by decide +kernel
theorem dX3_workOut_58 : decode cX3_workOut 58 = .ok (.putfield 29, 3) := by decide +kernel
theorem dX3_workOut_61 : decode cX3_workOut 61 = .ok (.iinc 4 1, 3) := by decide +kernel
theorem dX3_workOut_64 : decode cX3_workOut 64 = .ok (.goto (-48), 3) := by decide +kernel
theorem dX3_workOut_67 : decode cX3_workOut 67 = .ok (.iconst 1, 1) := by decide +kernel
theorem dX3_workOut_68 : decode cX3_workOut 68 = .ok (.aload_n 0, 1) := by decide +kernel
theorem dX3_workOut_69 : decode cX3_workOut 69 = .ok (.getfield 29, 3) := by decide +kernel
theorem dX3_workOut_72 : decode cX3_workOut 72 = .ok (.ishl, 1) := by decide +kernel
theorem dX3_workOut_73 : decode cX3_workOut 73 = .ok (.iconst 1, 1) := by decide +kernel
theorem dX3_workOut_74 : decode cX3_workOut 74 = .ok (.isub, 1) := by decide +kernel
theorem dX3_workOut_75 : decode cX3_workOut 75 = .ok (.istore 4, 2) := by decide +kernel
theorem dX3_workOut_77 : decode cX3_workOut 77 = .ok (.aload_n 0, 1) := by decide +kernel
theorem dX3_workOut_78 : decode cX3_workOut 78 = .ok (.getfield 23, 3) := by decide +kernel
theorem dX3_workOut_81 : decode cX3_workOut 81 = .ok (.iconst 0, 1) := by decide +kernel
theorem dX3_workOut_82 : decode cX3_workOut 82 = .ok (.iload 4, 2) := by decide +kernel
theorem dX3_workOut_84 : decode cX3_workOut 84 = .ok (.iconst 1, 1) := by decide +kernel
theorem dX3_workOut_85 : decode cX3_workOut 85 = .ok (.iadd, 1) := by decide +kernel
theorem dX3_workOut_86 : decode cX3_workOut 86 = .ok (.iconst (-1), 1) := by decide +kernel
theorem dX3_workOut_87 : decode cX3_workOut 87 = .ok (.invokestatic 33, 3) := by decide +kernel
theorem dX3_workOut_90 : decode cX3_workOut 90 = .ok (.aload_n 0, 1) := by decide +kernel
theorem dX3_workOut_91 : decode cX3_workOut 91 = .ok (.iconst 0, 1) := by decide +kernel
theorem dX3_workOut_92 : decode cX3_workOut 92 = .ok (.putfield 39, 3) := by decide +kernel
theorem dX3_workOut_95 : decode cX3_workOut 95 = .ok (.iload 4, 2) := by decide +kernel
theorem dX3_workOut_97 : decode cX3_workOut 97 = .ok (.istore 5, 2) := by decide +kernel
theorem dX3_workOut_99 : decode cX3_workOut 99 = .ok (.iconst 0, 1) := by decide +kernel
theorem dX3_workOut_100 : decode cX3_workOut 100 = .ok (.istore 6, 2) := by decide +kernel
theorem dX3_workOut_102 : decode cX3_workOut 102 = .ok (.iload 6, 2) := by decide +kernel
theorem dX3_workOut_104 : decode cX3_workOut 104 = .ok (.bipush 8, 2) := by decide +kernel
theorem dX3_workOut_106 : decode cX3_workOut 106 = .ok (.if_icmp .ge 110, 3) := by decide +kernel
theorem dX3_workOut_109 : decode cX3_workOut 109 = .ok (.iload 5, 2) := by decide +kernel
theorem dX3_workOut_111 : decode cX3_workOut 111 = .ok (.ifCond .eq 105, 3) := by decide +kernel
theorem dX3_workOut_114 : decode cX3_workOut 114 = .ok (.iload 5, 2) := by decide +kernel
theorem dX3_workOut_116 : decode cX3_workOut 116 = .ok (.invokestatic 42, 3) := by decide +kernel
theorem dX3_workOut_119 : decode cX3_workOut 119 = .ok (.istore 7, 2) := by decide +kernel
theorem dX3_workOut_121 : decode cX3_workOut 121 = .ok (.aload_n 0, 1) := by decide +kernel
theorem dX3_workOut_122 : decode cX3_workOut 122 = .ok (.iload 5, 2) := by decide +kernel
theorem dX3_workOut_124 : decode cX3_workOut 124 = .ok (.iload 7, 2) := by decide +kernel
theorem dX3_workOut_126 : decode cX3_workOut 126 = .ok (.invokevirtual 48, 3) := by decide +kernel
theorem dX3_workOut_129 : decode cX3_workOut 129 = .ok (.istore 8, 2) := by decide +kernel
theorem dX3_workOut_131 : decode cX3_workOut 131 = .ok (.iload 8, 2) := by decide +kernel
theorem dX3_workOut_133 : decode cX3_workOut 133 = .ok (.iconst (-1), 1) := by decide +kernel
theorem dX3_workOut_134 : decode cX3_workOut 134 = .ok (.if_icmp .ne 6, 3) := by decide +kernel
theorem dX3_workOut_137 : decode cX3_workOut 137 = .ok (.goto 79, 3) := by decide +kernel
theorem dX3_workOut_140 : decode cX3_workOut 140 = .ok (.aload_n 0, 1) := by decide +kernel
theorem dX3_workOut_141 : decode cX3_workOut 141 = .ok (.getfield 20, 3) := by decide +kernel
theorem dX3_workOut_144 : decode cX3_workOut 144 = .ok (.iload 7, 2) := by decide +kernel
theorem dX3_workOut_146 : decode cX3_workOut 146 = .ok (.iaload, 1) := by decide +kernel
theorem dX3_workOut_147 : decode cX3_workOut 147 = .ok (.istore 9, 2) := by decide +kernel
theorem dX3_workOut_149 : decode cX3_workOut 149 = .ok (.aload_n 0, 1) := by decide +kernel
theorem dX3_workOut_150 : decode cX3_workOut 150 = .ok (.getfield 20, 3) := by decide +kernel
theorem dX3_workOut_153 : decode cX3_workOut 153 = .ok (.iload 8, 2) := by decide +kernel
theorem dX3_workOut_155 : decode cX3_workOut 155 = .ok (.iaload, 1) := by decide +kernel
theorem dX3_workOut_156 : decode cX3_workOut 156 = .ok (.istore 10, 2) := by decide +kernel
theorem dX3_workOut_158 : decode cX3_workOut 158 = .ok (.aload_n 0, 1) := by decide +kernel
theorem dX3_workOut_159 : decode cX3_workOut 159 = .ok (.getfield 9, 3) := by decide +kernel
theorem dX3_workOut_162 : decode cX3_workOut 162 = .ok (.iload 9, 2) := by decide +kernel
theorem dX3_workOut_164 : decode cX3_workOut 164 = .ok (.iload 10, 2) := by decide +kernel
theorem dX3_workOut_166 : decode cX3_workOut 166 = .ok (.iastore, 1) := by decide +kernel
theorem dX3_workOut_167 : decode cX3_workOut 167 = .ok (.aload_n 0, 1) := by decide +kernel
theorem dX3_workOut_168 : decode cX3_workOut 168 = .ok (.getfield 9, 3) := by decide +kernel
theorem dX3_workOut_171 : decode cX3_workOut 171 = .ok (.iload 10, 2) := by decide +kernel
theorem dX3_workOut_173 : decode cX3_workOut 173 = .ok (.iload 9, 2) := by decide +kernel
theorem dX3_workOut_175 : decode cX3_workOut 175 = .ok (.iastore, 1) := by decide +kernel
theorem dX3_workOut_176 : decode cX3_workOut 176 = .ok (.aload_n 0, 1) := by decide +kernel
theorem dX3_workOut_177 : decode cX3_workOut 177 = .ok (.dup, 1) := by decide +kernel
theorem dX3_workOut_178 : decode cX3_workOut 178 = .ok (.getfield 39, 3) := by decide +kernel
theorem dX3_workOut_181 : decode cX3_workOut 181 = .ok (.aload_n 2, 1) := by decide +kernel
theorem dX3_workOut_182 : decode cX3_workOut 182 = .ok (.aload_n 1, 1) := by decide +kernel
theorem dX3_workOut_183 : decode cX3_workOut 183 = .ok (.iload 9, 2) := by decide +kernel
theorem dX3_workOut_185 : decode cX3_workOut 185 = .ok (.iload 10, 2) := by decide +kernel
theorem dX3_workOut_187 : decode cX3_workOut 187 = .ok (.invokevirtual 52, 3) := by decide +kernel
theorem dX3_workOut_190 : decode cX3_workOut 190 = .ok (.ixor, 1) := by decide +kernel
theorem dX3_workOut_191 : decode cX3_workOut 191 = .ok (.putfield 39, 3) := by decide +kernel
theorem dX3_workOut_194 : decode cX3_workOut 194 = .ok (.iload 5, 2) := by decide +kernel
theorem dX3_workOut_196 : decode cX3_workOut 196 = .ok (.iconst 1, 1) := by decide +kernel
theorem dX3_workOut_197 : decode cX3_workOut 197 = .ok (.iload 7, 2) := by decide +kernel
theorem dX3_workOut_199 : decode cX3_workOut 199 = .ok (.ishl, 1) := by decide +kernel
theorem dX3_workOut_200 : decode cX3_workOut 200 = .ok (.iconst 1, 1) := by decide +kernel
theorem dX3_workOut_201 : decode cX3_workOut 201 = .ok (.iload 8, 2) := by decide +kernel
theorem dX3_workOut_203 : decode cX3_workOut 203 = .ok (.ishl, 1) := by decide +kernel
theorem dX3_workOut_204 : decode cX3_workOut 204 = .ok (.ior, 1) := by decide +kernel
theorem dX3_workOut_205 : decode cX3_workOut 205 = .ok (.iconst (-1), 1) := by decide +kernel
theorem dX3_workOut_206 : decode cX3_workOut 206 = .ok (.ixor, 1) := by decide +kernel
theorem dX3_workOut_207 : decode cX3_workOut 207 = .ok (.iand, 1) := by decide +kernel
theorem dX3_workOut_208 : decode cX3_workOut 208 = .ok (.istore 5, 2) := by decide +kernel
theorem dX3_workOut_210 : decode cX3_workOut 210 = .ok (.iinc 6 1, 3) := by decide +kernel
theorem dX3_workOut_213 : decode cX3_workOut 213 = .ok (.goto (-111), 3) := by decide +kernel
theorem dX3_workOut_216 : decode cX3_workOut 216 = .ok (.return_, 1) := by decide +kernel
theorem bX3_workOut_0 {d : Nat} {P : q_Mem → Prop} {M : q_Mem} (x0 x1 x2 x3 : Int) (k0 : q_kd x0 = 3) (k1 : q_kd x1 = 6) (k2 : q_kd x2 = 10) (h : (∀ M1 : q_Mem, M1 = q_up M x0 2 (q_lay x2 0) → (∀ M2 : q_Mem, M2 = q_up M1 x0 5 0 → q_v mX3_workOut d (qPU P) M2 16 [some (qR x0), some (qR x1), some (qR x2), some (qI x3), some (qI 0), none, none, none, none, none, none] []))) : q_v mX3_workOut d (qPU P) M 0 [some (qR x0), some (qR x1), some (qR x2), some (qI x3), none, none, none, none, none, none, none] [] := by
  refine qr_aload_n 0 1 rfl (x := x0) rfl dX3_workOut_0 ?_
  refine qr_aload_n 1 2 rfl (x := x2) rfl dX3_workOut_1 ?_
  refine qr_getF 2 5 rfl ck10 0 (by decide) (b := (q_lay x2 0)) k2 rfl (by decide +kernel) rfl wm_263 rfl dX3_workOut_2 ?_
  refine qp_r 5 8 rfl ck3 2 (kk := 2) (by decide) k0 (by decide) (by decide +kernel) rfl wm_360 rfl dX3_workOut_5 (fun M1 e_M1 => ?_)
  have h := h M1 e_M1
  refine qr_aload_n 8 9 rfl (x := x0) rfl dX3_workOut_8 ?_
  refine qr_iconst 9 10 rfl (q_l32 _ rfl) dX3_workOut_9 ?_
  refine qp_i 10 13 rfl ck3 5 (kk := 5) (by decide) k0 (by decide) rfl rfl wm_363 rfl dX3_workOut_10 (fun M2 e_M2 => ?_)
  have h := h M2 e_M2
  refine qr_iconst 13 14 rfl (q_l32 _ rfl) dX3_workOut_13 ?_
  refine qr_istore 14 16 rfl (by decide) rfl rfl dX3_workOut_14 ?_
  exact h
theorem bX3_workOut_16 {d : Nat} {P : q_Mem → Prop} {M : q_Mem} (x0 x1 x2 x3 x4 : Int) (k0 : q_kd x0 = 3) (k1 : q_kd x1 = 6) (k2 : q_kd x2 = 10) (h : (((16 : Int) ≤ x4) → ∀ x4_1 : Int, x4_1 = (q_sub (q_shl 1 (M x0 5)) 1) → q_kU yJ7_fill_fda19 mJ7_fill_fda19 d [qR (q_lay x0 3), qI 0, qI (q_add x4_1 1), qI (-1)] M (fun M2 => (∀ M3 : q_Mem, M3 = q_up M2 x0 0 0 → q_v mX3_workOut d (qPU P) M3 102 [some (qR x0), some (qR x1), some (qR x2), none, none, some (qI x4_1), some (qI 0), none, none, none, none] []))) ∧ ((¬ ((16 : Int) ≤ x4)) → (0 ≤ x4 ∧ x4 < (16 : Int)) ∧ (∀ M5 : q_Mem, M5 = q_up M (q_lay x0 1) x4 (-1) → (((q_and (q_shr x3 x4) 1) = 0) → q_v mX3_workOut d (qPU P) M5 16 [some (qR x0), some (qR x1), some (qR x2), some (qI x3), some (qI (q_add x4 1)), none, none, none, none, none, none] []) ∧ ((¬ ((q_and (q_shr x3 x4) 1) = 0)) → (0 ≤ (M5 x0 5) ∧ (M5 x0 5) < (16 : Int)) ∧ (∀ M7 : q_Mem, M7 = q_up M5 (q_lay x0 4) (M5 x0 5) x4 → (∀ M8 : q_Mem, M8 = q_up M7 x0 5 (q_add (M7 x0 5) 1) → q_v mX3_workOut d (qPU P) M8 16 [some (qR x0), some (qR x1), some (qR x2), some (qI x3), some (qI (q_add x4 1)), none, none, none, none, none, none] [])))))) : q_v mX3_workOut d (qPU P) M 16 [some (qR x0), some (qR x1), some (qR x2), some (qI x3), some (qI x4), none, none, none, none, none, none] [] := by
  refine qr_iload 16 18 rfl (x := x4) rfl dX3_workOut_16 ?_
  refine qr_bipush 18 20 rfl (q_l32 _ rfl) (by decide) dX3_workOut_18 ?_
  refine qr_icmp_ge 20 23 67 rfl (by decide) dX3_workOut_20 (fun c20 => ?_) (fun c20 => ?_)
  · have h := h.1 c20
    refine qr_iconst 67 68 rfl (q_l32 _ rfl) dX3_workOut_67 ?_
    refine qr_aload_n 68 69 rfl (x := x0) rfl dX3_workOut_68 ?_
    refine qg_i 69 72 rfl ck3 5 (kk := 5) (by decide) k0 (by decide +kernel) rfl wm_363 rfl dX3_workOut_69 ?_
    refine qr_ishl 72 73 rfl dX3_workOut_72 ?_
    refine qr_iconst 73 74 rfl (q_l32 _ rfl) dX3_workOut_73 ?_
    refine qr_isub 74 75 rfl dX3_workOut_74 ?_
    refine qn_i 75 (fun x4_1 e_x4_1 => ?_)
    have h := h x4_1 e_x4_1
    refine qr_istore 75 77 rfl (by decide) rfl rfl dX3_workOut_75 ?_
    refine qr_aload_n 77 78 rfl (x := x0) rfl dX3_workOut_77 ?_
    refine qr_getF 78 81 rfl ck3 3 (by decide) (b := (q_lay x0 3)) k0 rfl (by decide +kernel) rfl wm_361 rfl dX3_workOut_78 ?_
    refine qr_iconst 81 82 rfl (q_l32 _ rfl) dX3_workOut_81 ?_
    refine qr_iload 82 84 rfl (x := x4_1) rfl dX3_workOut_82 ?_
    refine qr_iconst 84 85 rfl (q_l32 _ rfl) dX3_workOut_84 ?_
    refine qr_iadd 85 86 rfl dX3_workOut_85 ?_
    refine qr_iconst 86 87 rfl (q_l32 _ rfl) dX3_workOut_86 ?_
    refine qs_U 87 90 rfl (av := [qR (q_lay x0 3), qI 0, qI (q_add x4_1 1), qI (-1)]) ca_J7_fill_fda19 wm_855 wm_854 rfl rfl (Nat.le_of_ble_eq_true rfl) dX3_workOut_87 h (fun M2 h => ?_)
    refine qr_aload_n 90 91 rfl (x := x0) rfl dX3_workOut_90 ?_
    refine qr_iconst 91 92 rfl (q_l32 _ rfl) dX3_workOut_91 ?_
    refine qp_i 92 95 rfl ck3 0 (kk := 0) (by decide) k0 (by decide) rfl rfl wm_356 rfl dX3_workOut_92 (fun M3 e_M3 => ?_)
    have h := h M3 e_M3
    refine qr_iload 95 97 rfl (x := x4_1) rfl dX3_workOut_95 ?_
    refine qr_istore 97 99 rfl (by decide) rfl rfl dX3_workOut_97 ?_
    refine qr_iconst 99 100 rfl (q_l32 _ rfl) dX3_workOut_99 ?_
    refine qr_istore 100 102 rfl (by decide) rfl rfl dX3_workOut_100 ?_
    exact qr_cut 102 (ls' := [some (qR x0), some (qR x1), some (qR x2), none, none, some (qI x4_1), some (qI 0), none, none, none, none]) (And.intro rfl (And.intro rfl (And.intro rfl (And.intro rfl (And.intro rfl trivial))))) h
  · have h := h.2 c20
    refine qr_aload_n 23 24 rfl (x := x0) rfl dX3_workOut_23 ?_
    refine qr_getF 24 27 rfl ck3 1 (by decide) (b := (q_lay x0 1)) k0 rfl (by decide +kernel) rfl wm_358 rfl dX3_workOut_24 ?_
    refine qr_iload 27 29 rfl (x := x4) rfl dX3_workOut_27 ?_
    refine qr_iconst 29 30 rfl (q_l32 _ rfl) dX3_workOut_29 ?_
    have hb4 := h.1
    have h := h.2
    refine qi_st 30 31 rfl (N := 16) (lk3_1 _ k0) (ll3_1 _ k0) hb4.1 hb4.2 dX3_workOut_30 (fun M5 e_M5 => ?_)
    have h := h M5 e_M5
    refine qr_iload_n 31 32 rfl (x := x3) rfl dX3_workOut_31 ?_
    refine qr_iload 32 34 rfl (x := x4) rfl dX3_workOut_32 ?_
    refine qr_ishr 34 35 rfl dX3_workOut_34 ?_
    refine qr_iconst 35 36 rfl (q_l32 _ rfl) dX3_workOut_35 ?_
    refine qr_iand 36 37 rfl dX3_workOut_36 ?_
    refine qr_if_eq 37 40 61 rfl (by decide) dX3_workOut_37 (fun c37 => ?_) (fun c37 => ?_)
    · have h := h.1 c37
      refine qr_iinc 61 64 rfl (by decide) (x := x4) rfl rfl rfl dX3_workOut_61 ?_
      refine qr_goto 64 16 (by decide) dX3_workOut_64 ?_
      exact h
    · have h := h.2 c37
      refine qr_aload_n 40 41 rfl (x := x0) rfl dX3_workOut_40 ?_
      refine qr_getF 41 44 rfl ck3 4 (by decide) (b := (q_lay x0 4)) k0 rfl (by decide +kernel) rfl wm_362 rfl dX3_workOut_41 ?_
      refine qr_aload_n 44 45 rfl (x := x0) rfl dX3_workOut_44 ?_
      refine qg_i 45 48 rfl ck3 5 (kk := 5) (by decide) k0 (by decide +kernel) rfl wm_363 rfl dX3_workOut_45 ?_
      refine qr_iload 48 50 rfl (x := x4) rfl dX3_workOut_48 ?_
      have hb6 := h.1
      have h := h.2
      refine qi_st 50 51 rfl (N := 16) (lk3_4 _ k0) (ll3_4 _ k0) hb6.1 hb6.2 dX3_workOut_50 (fun M7 e_M7 => ?_)
      have h := h M7 e_M7
      refine qr_aload_n 51 52 rfl (x := x0) rfl dX3_workOut_51 ?_
      refine qr_dup 52 53 rfl rfl dX3_workOut_52 ?_
      refine qg_i 53 56 rfl ck3 5 (kk := 5) (by decide) k0 (by decide +kernel) rfl wm_363 rfl dX3_workOut_53 ?_
      refine qr_iconst 56 57 rfl (q_l32 _ rfl) dX3_workOut_56 ?_
      refine qr_iadd 57 58 rfl dX3_workOut_57 ?_
      refine qp_i 58 61 rfl ck3 5 (kk := 5) (by decide) k0 (by decide) rfl rfl wm_363 rfl dX3_workOut_58 (fun M8 e_M8 => ?_)
      have h := h M8 e_M8
      refine qr_iinc 61 64 rfl (by decide) (x := x4) rfl rfl rfl dX3_workOut_61 ?_
      refine qr_goto 64 16 (by decide) dX3_workOut_64 ?_
      exact h
theorem bX3_workOut_102 {d : Nat} {P : q_Mem → Prop} {M : q_Mem} (x0 x1 x2 x5 x6 : Int) (k0 : q_kd x0 = 3) (k1 : q_kd x1 = 6) (k2 : q_kd x2 = 10) (h : (((8 : Int) ≤ x6) → P M) ∧ ((¬ ((8 : Int) ≤ x6)) → ((x5 = 0) → P M) ∧ ((¬ (x5 = 0)) → q_kI yJ6_numberOfTrailingZeros_0f7a4 mJ6_numberOfTrailingZeros_0f7a4 d [qI x5] M (fun v2 M1 => q_kI yX3_leastPartner mX3_leastPartner d [qR x0, qI x5, qI v2] M1 (fun v4 M3 => ((¬ v4 = ((-1) : Int)) → (0 ≤ v2 ∧ v2 < (16 : Int)) ∧ (∀ x9_6 : Int, x9_6 = (M3 (q_lay x0 4) v2) → (0 ≤ v4 ∧ v4 < (16 : Int)) ∧ (∀ x10_8 : Int, x10_8 = (M3 (q_lay x0 4) v4) → (0 ≤ x9_6 ∧ x9_6 < (16 : Int)) ∧ (∀ M10 : q_Mem, M10 = q_up M3 (q_lay x0 1) x9_6 x10_8 → (0 ≤ x10_8 ∧ x10_8 < (16 : Int)) ∧ (∀ M12 : q_Mem, M12 = q_up M10 (q_lay x0 1) x10_8 x9_6 → q_kI yX10_crossedBits mX10_crossedBits d [qR x2, qR x1, qI x9_6, qI x10_8] M12 (fun v14 M13 => (∀ M15 : q_Mem, M15 = q_up M13 x0 0 (q_xor (M12 x0 0) v14) → ∀ x5_16 : Int, x5_16 = (q_and x5 (q_xor (q_or (q_shl 1 v2) (q_shl 1 v4)) (-1))) → q_v mX3_workOut d (qPU P) M15 102 [some (qR x0), some (qR x1), some (qR x2), none, none, some (qI x5_16), some (qI (q_add x6 1)), none, none, none, none] []))))))) ∧ ((v4 = ((-1) : Int)) → P M3)))))) : q_v mX3_workOut d (qPU P) M 102 [some (qR x0), some (qR x1), some (qR x2), none, none, some (qI x5), some (qI x6), none, none, none, none] [] := by
  refine qr_iload 102 104 rfl (x := x6) rfl dX3_workOut_102 ?_
  refine qr_bipush 104 106 rfl (q_l32 _ rfl) (by decide) dX3_workOut_104 ?_
  refine qr_icmp_ge 106 109 216 rfl (by decide) dX3_workOut_106 (fun c106 => ?_) (fun c106 => ?_)
  · have h := h.1 c106
    exact qe_u 216 rfl dX3_workOut_216 h
  · have h := h.2 c106
    refine qr_iload 109 111 rfl (x := x5) rfl dX3_workOut_109 ?_
    refine qr_if_eq 111 114 216 rfl (by decide) dX3_workOut_111 (fun c111 => ?_) (fun c111 => ?_)
    · have h := h.1 c111
      exact qe_u 216 rfl dX3_workOut_216 h
    · have h := h.2 c111
      refine qr_iload 114 116 rfl (x := x5) rfl dX3_workOut_114 ?_
      refine qs_I 116 119 rfl (av := [qI x5]) ca_J6_numberOfTrailingZeros_0f7a4 wm_861 wm_860 rfl rfl (Nat.le_of_ble_eq_true rfl) dX3_workOut_116 h (fun v2 M1 h => ?_)
      refine qr_istore 119 121 rfl (by decide) rfl rfl dX3_workOut_119 ?_
      refine qr_aload_n 121 122 rfl (x := x0) rfl dX3_workOut_121 ?_
      refine qr_iload 122 124 rfl (x := x5) rfl dX3_workOut_122 ?_
      refine qr_iload 124 126 rfl (x := v2) rfl dX3_workOut_124 ?_
      refine qw_I 126 129 rfl (av := [qI x5, qI v2]) ca_X3_leastPartner wm_866 wp_40 wm_864 ck3 k0 rfl rfl (Nat.le_of_ble_eq_true rfl) dX3_workOut_126 h (fun v4 M3 h => ?_)
      refine qr_istore 129 131 rfl (by decide) rfl rfl dX3_workOut_129 ?_
      refine qr_iload 131 133 rfl (x := v4) rfl dX3_workOut_131 ?_
      refine qr_iconst 133 134 rfl (q_l32 _ rfl) dX3_workOut_133 ?_
      refine qr_icmp_ne 134 137 140 rfl (by decide) dX3_workOut_134 (fun c134 => ?_) (fun c134 => ?_)
      · have h := h.1 c134
        refine qr_aload_n 140 141 rfl (x := x0) rfl dX3_workOut_140 ?_
        refine qr_getF 141 144 rfl ck3 4 (by decide) (b := (q_lay x0 4)) k0 rfl (by decide +kernel) rfl wm_362 rfl dX3_workOut_141 ?_
        refine qr_iload 144 146 rfl (x := v2) rfl dX3_workOut_144 ?_
        have hb5 := h.1
        have h := h.2
        refine qi_ld 146 147 rfl (N := 16) (lk3_4 _ k0) (ll3_4 _ k0) hb5.1 hb5.2 dX3_workOut_146 ?_
        refine qn_i 147 (fun x9_6 e_x9_6 => ?_)
        have h := h x9_6 e_x9_6
        refine qr_istore 147 149 rfl (by decide) rfl rfl dX3_workOut_147 ?_
        refine qr_aload_n 149 150 rfl (x := x0) rfl dX3_workOut_149 ?_
        refine qr_getF 150 153 rfl ck3 4 (by decide) (b := (q_lay x0 4)) k0 rfl (by decide +kernel) rfl wm_362 rfl dX3_workOut_150 ?_
        refine qr_iload 153 155 rfl (x := v4) rfl dX3_workOut_153 ?_
        have hb7 := h.1
        have h := h.2
        refine qi_ld 155 156 rfl (N := 16) (lk3_4 _ k0) (ll3_4 _ k0) hb7.1 hb7.2 dX3_workOut_155 ?_
        refine qn_i 156 (fun x10_8 e_x10_8 => ?_)
        have h := h x10_8 e_x10_8
        refine qr_istore 156 158 rfl (by decide) rfl rfl dX3_workOut_156 ?_
        refine qr_aload_n 158 159 rfl (x := x0) rfl dX3_workOut_158 ?_
        refine qr_getF 159 162 rfl ck3 1 (by decide) (b := (q_lay x0 1)) k0 rfl (by decide +kernel) rfl wm_358 rfl dX3_workOut_159 ?_
        refine qr_iload 162 164 rfl (x := x9_6) rfl dX3_workOut_162 ?_
        refine qr_iload 164 166 rfl (x := x10_8) rfl dX3_workOut_164 ?_
        have hb9 := h.1
        have h := h.2
        refine qi_st 166 167 rfl (N := 16) (lk3_1 _ k0) (ll3_1 _ k0) hb9.1 hb9.2 dX3_workOut_166 (fun M10 e_M10 => ?_)
        have h := h M10 e_M10
        refine qr_aload_n 167 168 rfl (x := x0) rfl dX3_workOut_167 ?_
        refine qr_getF 168 171 rfl ck3 1 (by decide) (b := (q_lay x0 1)) k0 rfl (by decide +kernel) rfl wm_358 rfl dX3_workOut_168 ?_
        refine qr_iload 171 173 rfl (x := x10_8) rfl dX3_workOut_171 ?_
        refine qr_iload 173 175 rfl (x := x9_6) rfl dX3_workOut_173 ?_
        have hb11 := h.1
        have h := h.2
        refine qi_st 175 176 rfl (N := 16) (lk3_1 _ k0) (ll3_1 _ k0) hb11.1 hb11.2 dX3_workOut_175 (fun M12 e_M12 => ?_)
        have h := h M12 e_M12
        refine qr_aload_n 176 177 rfl (x := x0) rfl dX3_workOut_176 ?_
        refine qr_dup 177 178 rfl rfl dX3_workOut_177 ?_
        refine qg_i 178 181 rfl ck3 0 (kk := 0) (by decide) k0 (by decide +kernel) rfl wm_356 rfl dX3_workOut_178 ?_
        refine qr_aload_n 181 182 rfl (x := x2) rfl dX3_workOut_181 ?_
        refine qr_aload_n 182 183 rfl (x := x1) rfl dX3_workOut_182 ?_
        refine qr_iload 183 185 rfl (x := x9_6) rfl dX3_workOut_183 ?_
        refine qr_iload 185 187 rfl (x := x10_8) rfl dX3_workOut_185 ?_
        refine qw_I 187 190 rfl (av := [qR x1, qI x9_6, qI x10_8]) ca_X10_crossedBits wm_879 wm_880 wm_878 ck10 k2 rfl rfl (Nat.le_of_ble_eq_true rfl) dX3_workOut_187 h (fun v14 M13 h => ?_)
        refine qr_ixor 190 191 rfl dX3_workOut_190 ?_
        refine qp_i 191 194 rfl ck3 0 (kk := 0) (by decide) k0 (by decide) rfl rfl wm_356 rfl dX3_workOut_191 (fun M15 e_M15 => ?_)
        have h := h M15 e_M15
        refine qr_iload 194 196 rfl (x := x5) rfl dX3_workOut_194 ?_
        refine qr_iconst 196 197 rfl (q_l32 _ rfl) dX3_workOut_196 ?_
        refine qr_iload 197 199 rfl (x := v2) rfl dX3_workOut_197 ?_
        refine qr_ishl 199 200 rfl dX3_workOut_199 ?_
        refine qr_iconst 200 201 rfl (q_l32 _ rfl) dX3_workOut_200 ?_
        refine qr_iload 201 203 rfl (x := v4) rfl dX3_workOut_201 ?_
        refine qr_ishl 203 204 rfl dX3_workOut_203 ?_
        refine qr_ior 204 205 rfl dX3_workOut_204 ?_
        refine qr_iconst 205 206 rfl (q_l32 _ rfl) dX3_workOut_205 ?_
        refine qr_ixor 206 207 rfl dX3_workOut_206 ?_
        refine qr_iand 207 208 rfl dX3_workOut_207 ?_
        refine qn_i 208 (fun x5_16 e_x5_16 => ?_)
        have h := h x5_16 e_x5_16
        refine qr_istore 208 210 rfl (by decide) rfl rfl dX3_workOut_208 ?_
        refine qr_iinc 210 213 rfl (by decide) (x := x6) rfl rfl rfl dX3_workOut_210 ?_
        refine qr_goto 213 102 (by decide) dX3_workOut_213 ?_
        exact qr_cut 102 (ls' := [some (qR x0), some (qR x1), some (qR x2), none, none, some (qI x5_16), some (qI (q_add x6 1)), none, none, none, none]) (And.intro rfl (And.intro rfl (And.intro rfl (And.intro rfl (And.intro rfl trivial))))) h
      · have h := h.2 c134
        refine qr_goto 137 216 (by decide) dX3_workOut_137 ?_
        exact qe_u 216 rfl dX3_workOut_216 h
theorem dX3_leastPartner_0 : decode cX3_leastPartner 0 = .ok (.aload_n 0, 1) := by decide +kernel
theorem dX3_leastPartner_1 : decode cX3_leastPartner 1 = .ok (.iload_n 1, 1) := by decide +kernel
theorem dX3_leastPartner_2 : decode cX3_leastPartner 2 = .ok (.iconst 0, 1) := by decide +kernel
theorem dX3_leastPartner_3 : decode cX3_leastPartner 3 = .ok (.invokevirtual 56, 3) := by decide +kernel
theorem dX3_leastPartner_6 : decode cX3_leastPartner 6 = .ok (.istore_n 3, 1) := by decide +kernel
theorem dX3_leastPartner_7 : decode cX3_leastPartner 7 = .ok (.iload_n 2, 1) := by decide +kernel
theorem dX3_leastPartner_8 : decode cX3_leastPartner 8 = .ok (.iconst 1, 1) := by decide +kernel
theorem dX3_leastPartner_9 : decode cX3_leastPartner 9 = .ok (.iadd, 1) := by decide +kernel
theorem dX3_leastPartner_10 : decode cX3_leastPartner 10 = .ok (.istore 4, 2) := by decide +kernel
theorem dX3_leastPartner_12 : decode cX3_leastPartner 12 = .ok (.iload 4, 2) := by decide +kernel
theorem dX3_leastPartner_14 : decode cX3_leastPartner 14 = .ok (.aload_n 0, 1) := by decide +kernel
theorem dX3_leastPartner_15 : decode cX3_leastPartner 15 = .ok (.getfield 29, 3) := by decide +kernel
theorem dX3_leastPartner_18 : decode cX3_leastPartner 18 = .ok (.if_icmp .ge 34, 3) := by decide +kernel
theorem dX3_leastPartner_21 : decode cX3_leastPartner 21 = .ok (.iload_n 1, 1) := by decide +kernel
theorem dX3_leastPartner_22 : decode cX3_leastPartner 22 = .ok (.iload 4, 2) := by decide +kernel
theorem dX3_leastPartner_24 : decode cX3_leastPartner 24 = .ok (.ishr, 1) := by decide +kernel
theorem dX3_leastPartner_25 : decode cX3_leastPartner 25 = .ok (.iconst 1, 1) := by decide +kernel
theorem dX3_leastPartner_26 : decode cX3_leastPartner 26 = .ok (.iand, 1) := by decide +kernel
theorem dX3_leastPartner_27 : decode cX3_leastPartner 27 = .ok (.ifCond .eq 19, 3) := by decide +kernel
theorem dX3_leastPartner_30 : decode cX3_leastPartner 30 = .ok (.aload_n 0, 1) := by decide +kernel
theorem dX3_leastPartner_31 : decode cX3_leastPartner 31 = .ok (.iload_n 1, 1) := by decide +kernel
theorem dX3_leastPartner_32 : decode cX3_leastPartner 32 = .ok (.iload_n 2, 1) := by decide +kernel
theorem dX3_leastPartner_33 : decode cX3_leastPartner 33 = .ok (.iload 4, 2) := by decide +kernel
theorem dX3_leastPartner_35 : decode cX3_leastPartner 35 = .ok (.iconst 0, 1) := by decide +kernel
theorem dX3_leastPartner_36 : decode cX3_leastPartner 36 = .ok (.invokevirtual 59, 3) := by decide +kernel
theorem dX3_leastPartner_39 : decode cX3_leastPartner 39 = .ok (.iload_n 3, 1) := by decide +kernel
theorem dX3_leastPartner_40 : decode cX3_leastPartner 40 = .ok (.if_icmp .ne 6, 3) := by decide +kernel
theorem dX3_leastPartner_43 : decode cX3_leastPartner 43 = .ok (.iload 4, 2) := by decide +kernel
theorem dX3_leastPartner_45 : decode cX3_leastPartner 45 = .ok (.ireturn, 1) := by decide +kernel
theorem dX3_leastPartner_46 : decode cX3_leastPartner 46 = .ok (.iinc 4 1, 3) := by decide +kernel
theorem dX3_leastPartner_49 : decode cX3_leastPartner 49 = .ok (.goto (-37), 3) := by decide +kernel
theorem dX3_leastPartner_52 : decode cX3_leastPartner 52 = .ok (.iconst (-1), 1) := by decide +kernel
theorem dX3_leastPartner_53 : decode cX3_leastPartner 53 = .ok (.ireturn, 1) := by decide +kernel
theorem bX3_leastPartner_0 {d : Nat} {P : Int → q_Mem → Prop} {M : q_Mem} (x0 x1 x2 : Int) (k0 : q_kd x0 = 3) (h : q_kI yX3_leastCost mX3_leastCost d [qR x0, qI x1, qI 0] M (fun v2 M1 => ∀ x4_3 : Int, x4_3 = (q_add x2 1) → q_v mX3_leastPartner d (qPI P) M1 12 [some (qR x0), some (qI x1), some (qI x2), some (qI v2), some (qI x4_3)] [])) : q_v mX3_leastPartner d (qPI P) M 0 [some (qR x0), some (qI x1), some (qI x2), none, none] [] := by
  refine qr_aload_n 0 1 rfl (x := x0) rfl dX3_leastPartner_0 ?_
  refine qr_iload_n 1 2 rfl (x := x1) rfl dX3_leastPartner_1 ?_
  refine qr_iconst 2 3 rfl (q_l32 _ rfl) dX3_leastPartner_2 ?_
  refine qw_I 3 6 rfl (av := [qI x1, qI 0]) ca_X3_leastCost wm_870 wp_41 wm_868 ck3 k0 rfl rfl (Nat.le_of_ble_eq_true rfl) dX3_leastPartner_3 h (fun v2 M1 h => ?_)
  refine qr_istore_n 6 7 rfl (by decide) rfl rfl dX3_leastPartner_6 ?_
  refine qr_iload_n 7 8 rfl (x := x2) rfl dX3_leastPartner_7 ?_
  refine qr_iconst 8 9 rfl (q_l32 _ rfl) dX3_leastPartner_8 ?_
  refine qr_iadd 9 10 rfl dX3_leastPartner_9 ?_
  refine qn_i 10 (fun x4_3 e_x4_3 => ?_)
  have h := h x4_3 e_x4_3
  refine qr_istore 10 12 rfl (by decide) rfl rfl dX3_leastPartner_10 ?_
  exact h
theorem bX3_leastPartner_12 {d : Nat} {P : Int → q_Mem → Prop} {M : q_Mem} (x0 x1 x2 x3 x4 : Int) (k0 : q_kd x0 = 3) (h : (((M x0 5) ≤ x4) → P (-1) M) ∧ ((¬ ((M x0 5) ≤ x4)) → (((q_and (q_shr x1 x4) 1) = 0) → q_v mX3_leastPartner d (qPI P) M 12 [some (qR x0), some (qI x1), some (qI x2), some (qI x3), some (qI (q_add x4 1))] []) ∧ ((¬ ((q_and (q_shr x1 x4) 1) = 0)) → q_kI yX3_costWith mX3_costWith d [qR x0, qI x1, qI x2, qI x4, qI 0] M (fun v2 M1 => ((¬ v2 = x3) → q_v mX3_leastPartner d (qPI P) M1 12 [some (qR x0), some (qI x1), some (qI x2), some (qI x3), some (qI (q_add x4 1))] []) ∧ ((v2 = x3) → P x4 M1))))) : q_v mX3_leastPartner d (qPI P) M 12 [some (qR x0), some (qI x1), some (qI x2), some (qI x3), some (qI x4)] [] := by
  refine qr_iload 12 14 rfl (x := x4) rfl dX3_leastPartner_12 ?_
  refine qr_aload_n 14 15 rfl (x := x0) rfl dX3_leastPartner_14 ?_
  refine qg_i 15 18 rfl ck3 5 (kk := 5) (by decide) k0 (by decide +kernel) rfl wm_363 rfl dX3_leastPartner_15 ?_
  refine qr_icmp_ge 18 21 52 rfl (by decide) dX3_leastPartner_18 (fun c18 => ?_) (fun c18 => ?_)
  · have h := h.1 c18
    refine qr_iconst 52 53 rfl (q_l32 _ rfl) dX3_leastPartner_52 ?_
    exact qe_i 53 rfl dX3_leastPartner_53 h
  · have h := h.2 c18
    refine qr_iload_n 21 22 rfl (x := x1) rfl dX3_leastPartner_21 ?_
    refine qr_iload 22 24 rfl (x := x4) rfl dX3_leastPartner_22 ?_
    refine qr_ishr 24 25 rfl dX3_leastPartner_24 ?_
    refine qr_iconst 25 26 rfl (q_l32 _ rfl) dX3_leastPartner_25 ?_
    refine qr_iand 26 27 rfl dX3_leastPartner_26 ?_
    refine qr_if_eq 27 30 46 rfl (by decide) dX3_leastPartner_27 (fun c27 => ?_) (fun c27 => ?_)
    · have h := h.1 c27
      refine qr_iinc 46 49 rfl (by decide) (x := x4) rfl rfl rfl dX3_leastPartner_46 ?_
      refine qr_goto 49 12 (by decide) dX3_leastPartner_49 ?_
      exact h
    · have h := h.2 c27
      refine qr_aload_n 30 31 rfl (x := x0) rfl dX3_leastPartner_30 ?_
      refine qr_iload_n 31 32 rfl (x := x1) rfl dX3_leastPartner_31 ?_
      refine qr_iload_n 32 33 rfl (x := x2) rfl dX3_leastPartner_32 ?_
      refine qr_iload 33 35 rfl (x := x4) rfl dX3_leastPartner_33 ?_
      refine qr_iconst 35 36 rfl (q_l32 _ rfl) dX3_leastPartner_35 ?_
      refine qw_I 36 39 rfl (av := [qI x1, qI x2, qI x4, qI 0]) ca_X3_costWith wm_875 wp_42 wm_873 ck3 k0 rfl rfl (Nat.le_of_ble_eq_true rfl) dX3_leastPartner_36 h (fun v2 M1 h => ?_)
      refine qr_iload_n 39 40 rfl (x := x3) rfl dX3_leastPartner_39 ?_
      refine qr_icmp_ne 40 43 46 rfl (by decide) dX3_leastPartner_40 (fun c40 => ?_) (fun c40 => ?_)
      · have h := h.1 c40
        refine qr_iinc 46 49 rfl (by decide) (x := x4) rfl rfl rfl dX3_leastPartner_46 ?_
        refine qr_goto 49 12 (by decide) dX3_leastPartner_49 ?_
        exact h
      · have h := h.2 c40
        refine qr_iload 43 45 rfl (x := x4) rfl dX3_leastPartner_43 ?_
        exact qe_i 45 rfl dX3_leastPartner_45 h
theorem dX3_leastCost_0 : decode cX3_leastCost 0 = .ok (.iload_n 1, 1) := by decide +kernel
theorem dX3_leastCost_1 : decode cX3_leastCost 1 = .ok (.ifCond .eq 9, 3) := by decide +kernel
theorem dX3_leastCost_4 : decode cX3_leastCost 4 = .ok (.iload_n 2, 1) := by decide +kernel
theorem dX3_leastCost_5 : decode cX3_leastCost 5 = .ok (.bipush 8, 2) := by decide +kernel
theorem dX3_leastCost_7 : decode cX3_leastCost 7 = .ok (.if_icmp .le 5, 3) := by decide +kernel
theorem dX3_leastCost_10 : decode cX3_leastCost 10 = .ok (.iconst 0, 1) := by decide +kernel
theorem dX3_leastCost_11 : decode cX3_leastCost 11 = .ok (.ireturn, 1) := by decide +kernel
theorem dX3_leastCost_12 : decode cX3_leastCost 12 = .ok (.aload_n 0, 1) := by decide +kernel
theorem dX3_leastCost_13 : decode cX3_leastCost 13 = .ok (.getfield 23, 3) := by decide +kernel
theorem dX3_leastCost_16 : decode cX3_leastCost 16 = .ok (.iload_n 1, 1) := by decide +kernel
theorem dX3_leastCost_17 : decode cX3_leastCost 17 = .ok (.iaload, 1) := by decide +kernel
theorem dX3_leastCost_18 : decode cX3_leastCost 18 = .ok (.ifCond .lt 10, 3) := by decide +kernel
theorem dX3_leastCost_21 : decode cX3_leastCost 21 = .ok (.aload_n 0, 1) := by decide +kernel
theorem dX3_leastCost_22 : decode cX3_leastCost 22 = .ok (.getfield 23, 3) := by decide +kernel
theorem dX3_leastCost_25 : decode cX3_leastCost 25 = .ok (.iload_n 1, 1) := by decide +kernel
theorem dX3_leastCost_26 : decode cX3_leastCost 26 = .ok (.iaload, 1) := by decide +kernel
theorem dX3_leastCost_27 : decode cX3_leastCost 27 = .ok (.ireturn, 1) := by decide +kernel
theorem dX3_leastCost_28 : decode cX3_leastCost 28 = .ok (.iload_n 1, 1) := by decide +kernel
theorem dX3_leastCost_29 : decode cX3_leastCost 29 = .ok (.invokestatic 42, 3) := by decide +kernel
theorem dX3_leastCost_32 : decode cX3_leastCost 32 = .ok (.istore_n 3, 1) := by decide +kernel
theorem dX3_leastCost_33 : decode cX3_leastCost 33 = .ok (.ldc 63, 2) := by decide +kernel
theorem dX3_leastCost_35 : decode cX3_leastCost 35 = .ok (.istore 4, 2) := by decide +kernel
theorem dX3_leastCost_37 : decode cX3_leastCost 37 = .ok (.iload_n 3, 1) := by decide +kernel
theorem dX3_leastCost_38 : decode cX3_leastCost 38 = .ok (.iconst 1, 1) := by decide +kernel
theorem dX3_leastCost_39 : decode cX3_leastCost 39 = .ok (.iadd, 1) := by decide +kernel
theorem dX3_leastCost_40 : decode cX3_leastCost 40 = .ok (.istore 5, 2) := by decide +kernel
theorem dX3_leastCost_42 : decode cX3_leastCost 42 = .ok (.iload 5, 2) := by decide +kernel
theorem dX3_leastCost_44 : decode cX3_leastCost 44 = .ok (.aload_n 0, 1) := by decide +kernel
theorem dX3_leastCost_45 : decode cX3_leastCost 45 = .ok (.getfield 29, 3) := by decide +kernel
theorem dX3_leastCost_48 : decode cX3_leastCost 48 = .ok (.if_icmp .ge 34, 3) := by decide +kernel
theorem dX3_leastCost_51 : decode cX3_leastCost 51 = .ok (.iload_n 1, 1) := by decide +kernel
theorem dX3_leastCost_52 : decode cX3_leastCost 52 = .ok (.iload 5, 2) := by decide +kernel
theorem dX3_leastCost_54 : decode cX3_leastCost 54 = .ok (.ishr, 1) := by decide +kernel
theorem dX3_leastCost_55 : decode cX3_leastCost 55 = .ok (.iconst 1, 1) := by decide +kernel
theorem dX3_leastCost_56 : decode cX3_leastCost 56 = .ok (.iand, 1) := by decide +kernel
theorem dX3_leastCost_57 : decode cX3_leastCost 57 = .ok (.ifCond .eq 19, 3) := by decide +kernel
theorem dX3_leastCost_60 : decode cX3_leastCost 60 = .ok (.iload 4, 2) := by decide +kernel
theorem dX3_leastCost_62 : decode cX3_leastCost 62 = .ok (.aload_n 0, 1) := by decide +kernel
theorem dX3_leastCost_63 : decode cX3_leastCost 63 = .ok (.iload_n 1, 1) := by decide +kernel
theorem dX3_leastCost_64 : decode cX3_leastCost 64 = .ok (.iload_n 3, 1) := by decide +kernel
theorem dX3_leastCost_65 : decode cX3_leastCost 65 = .ok (.iload 5, 2) := by decide +kernel
theorem dX3_leastCost_67 : decode cX3_leastCost 67 = .ok (.iload_n 2, 1) := by decide +kernel
theorem dX3_leastCost_68 : decode cX3_leastCost 68 = .ok (.invokevirtual 59, 3) := by decide +kernel
theorem dX3_leastCost_71 : decode cX3_leastCost 71 = .ok (.invokestatic 64, 3) := by decide +kernel
theorem dX3_leastCost_74 : decode cX3_leastCost 74 = .ok (.istore 4, 2) := by decide +kernel
theorem dX3_leastCost_76 : decode cX3_leastCost 76 = .ok (.iinc 5 1, 3) := by decide +kernel
theorem dX3_leastCost_79 : decode cX3_leastCost 79 = .ok (.goto (-37), 3) := by decide +kernel
theorem dX3_leastCost_82 : decode cX3_leastCost 82 = .ok (.aload_n 0, 1) := by decide +kernel
theorem dX3_leastCost_83 : decode cX3_leastCost 83 = .ok (.getfield 23, 3) := by decide +kernel
theorem dX3_leastCost_86 : decode cX3_leastCost 86 = .ok (.iload_n 1, 1) := by decide +kernel
theorem dX3_leastCost_87 : decode cX3_leastCost 87 = .ok (.iload 4, 2) := by decide +kernel
theorem dX3_leastCost_89 : decode cX3_leastCost 89 = .ok (.iastore, 1) := by decide +kernel
theorem dX3_leastCost_90 : decode cX3_leastCost 90 = .ok (.iload 4, 2) := by decide +kernel
theorem dX3_leastCost_92 : decode cX3_leastCost 92 = .ok (.ireturn, 1) := by decide +kernel
theorem bX3_leastCost_0 {d : Nat} {P : Int → q_Mem → Prop} {M : q_Mem} (x0 x1 x2 : Int) (k0 : q_kd x0 = 3) (h : ((x1 = 0) → P 0 M) ∧ ((¬ (x1 = 0)) → ((x2 ≤ (8 : Int)) → (0 ≤ x1 ∧ x1 < (65536 : Int)) ∧ ((((M (q_lay x0 3) x1) < 0) → q_kI yJ6_numberOfTrailingZeros_0f7a4 mJ6_numberOfTrailingZeros_0f7a4 d [qI x1] M (fun v3 M2 => ∀ x5_4 : Int, x5_4 = (q_add v3 1) → q_v mX3_leastCost d (qPI P) M2 42 [some (qR x0), some (qI x1), some (qI x2), some (qI v3), some (qI 536870912), some (qI x5_4)] [])) ∧ ((¬ ((M (q_lay x0 3) x1) < 0)) → (0 ≤ x1 ∧ x1 < (65536 : Int)) ∧ (P (M (q_lay x0 3) x1) M)))) ∧ ((¬ (x2 ≤ (8 : Int))) → P 0 M))) : q_v mX3_leastCost d (qPI P) M 0 [some (qR x0), some (qI x1), some (qI x2), none, none, none] [] := by
  refine qr_iload_n 0 1 rfl (x := x1) rfl dX3_leastCost_0 ?_
  refine qr_if_eq 1 4 10 rfl (by decide) dX3_leastCost_1 (fun c1 => ?_) (fun c1 => ?_)
  · have h := h.1 c1
    refine qr_iconst 10 11 rfl (q_l32 _ rfl) dX3_leastCost_10 ?_
    exact qe_i 11 rfl dX3_leastCost_11 h
  · have h := h.2 c1
    refine qr_iload_n 4 5 rfl (x := x2) rfl dX3_leastCost_4 ?_
    refine qr_bipush 5 7 rfl (q_l32 _ rfl) (by decide) dX3_leastCost_5 ?_
    refine qr_icmp_le 7 10 12 rfl (by decide) dX3_leastCost_7 (fun c7 => ?_) (fun c7 => ?_)
    · have h := h.1 c7
      refine qr_aload_n 12 13 rfl (x := x0) rfl dX3_leastCost_12 ?_
      refine qr_getF 13 16 rfl ck3 3 (by decide) (b := (q_lay x0 3)) k0 rfl (by decide +kernel) rfl wm_361 rfl dX3_leastCost_13 ?_
      refine qr_iload_n 16 17 rfl (x := x1) rfl dX3_leastCost_16 ?_
      have hb1 := h.1
      have h := h.2
      refine qi_ld 17 18 rfl (N := 65536) (lk3_3 _ k0) (ll3_3 _ k0) hb1.1 hb1.2 dX3_leastCost_17 ?_
      refine qr_if_lt 18 21 28 rfl (by decide) dX3_leastCost_18 (fun c18 => ?_) (fun c18 => ?_)
      · have h := h.1 c18
        refine qr_iload_n 28 29 rfl (x := x1) rfl dX3_leastCost_28 ?_
        refine qs_I 29 32 rfl (av := [qI x1]) ca_J6_numberOfTrailingZeros_0f7a4 wm_861 wm_860 rfl rfl (Nat.le_of_ble_eq_true rfl) dX3_leastCost_29 h (fun v3 M2 h => ?_)
        refine qr_istore_n 32 33 rfl (by decide) rfl rfl dX3_leastCost_32 ?_
        refine qr_ldc 33 35 rfl (v := 536870912) (q_l32 _ rfl) wm_872 dX3_leastCost_33 ?_
        refine qr_istore 35 37 rfl (by decide) rfl rfl dX3_leastCost_35 ?_
        refine qr_iload_n 37 38 rfl (x := v3) rfl dX3_leastCost_37 ?_
        refine qr_iconst 38 39 rfl (q_l32 _ rfl) dX3_leastCost_38 ?_
        refine qr_iadd 39 40 rfl dX3_leastCost_39 ?_
        refine qn_i 40 (fun x5_4 e_x5_4 => ?_)
        have h := h x5_4 e_x5_4
        refine qr_istore 40 42 rfl (by decide) rfl rfl dX3_leastCost_40 ?_
        exact h
      · have h := h.2 c18
        refine qr_aload_n 21 22 rfl (x := x0) rfl dX3_leastCost_21 ?_
        refine qr_getF 22 25 rfl ck3 3 (by decide) (b := (q_lay x0 3)) k0 rfl (by decide +kernel) rfl wm_361 rfl dX3_leastCost_22 ?_
        refine qr_iload_n 25 26 rfl (x := x1) rfl dX3_leastCost_25 ?_
        have hb5 := h.1
        have h := h.2
        refine qi_ld 26 27 rfl (N := 65536) (lk3_3 _ k0) (ll3_3 _ k0) hb5.1 hb5.2 dX3_leastCost_26 ?_
        exact qe_i 27 rfl dX3_leastCost_27 h
    · have h := h.2 c7
      refine qr_iconst 10 11 rfl (q_l32 _ rfl) dX3_leastCost_10 ?_
      exact qe_i 11 rfl dX3_leastCost_11 h
theorem bX3_leastCost_42 {d : Nat} {P : Int → q_Mem → Prop} {M : q_Mem} (x0 x1 x2 x3 x4 x5 : Int) (k0 : q_kd x0 = 3) (h : (((M x0 5) ≤ x5) → (0 ≤ x1 ∧ x1 < (65536 : Int)) ∧ (∀ M2 : q_Mem, M2 = q_up M (q_lay x0 3) x1 x4 → P x4 M2)) ∧ ((¬ ((M x0 5) ≤ x5)) → (((q_and (q_shr x1 x5) 1) = 0) → q_v mX3_leastCost d (qPI P) M 42 [some (qR x0), some (qI x1), some (qI x2), some (qI x3), some (qI x4), some (qI (q_add x5 1))] []) ∧ ((¬ ((q_and (q_shr x1 x5) 1) = 0)) → q_kI yX3_costWith mX3_costWith d [qR x0, qI x1, qI x3, qI x5, qI x2] M (fun v4 M3 => q_kI yJ9_min_7cf53 mJ9_min_7cf53 d [qI x4, qI v4] M3 (fun v6 M5 => q_v mX3_leastCost d (qPI P) M5 42 [some (qR x0), some (qI x1), some (qI x2), some (qI x3), some (qI v6), some (qI (q_add x5 1))] []))))) : q_v mX3_leastCost d (qPI P) M 42 [some (qR x0), some (qI x1), some (qI x2), some (qI x3), some (qI x4), some (qI x5)] [] := by
  refine qr_iload 42 44 rfl (x := x5) rfl dX3_leastCost_42 ?_
  refine qr_aload_n 44 45 rfl (x := x0) rfl dX3_leastCost_44 ?_
  refine qg_i 45 48 rfl ck3 5 (kk := 5) (by decide) k0 (by decide +kernel) rfl wm_363 rfl dX3_leastCost_45 ?_
  refine qr_icmp_ge 48 51 82 rfl (by decide) dX3_leastCost_48 (fun c48 => ?_) (fun c48 => ?_)
  · have h := h.1 c48
    refine qr_aload_n 82 83 rfl (x := x0) rfl dX3_leastCost_82 ?_
    refine qr_getF 83 86 rfl ck3 3 (by decide) (b := (q_lay x0 3)) k0 rfl (by decide +kernel) rfl wm_361 rfl dX3_leastCost_83 ?_
    refine qr_iload_n 86 87 rfl (x := x1) rfl dX3_leastCost_86 ?_
    refine qr_iload 87 89 rfl (x := x4) rfl dX3_leastCost_87 ?_
    have hb1 := h.1
    have h := h.2
    refine qi_st 89 90 rfl (N := 65536) (lk3_3 _ k0) (ll3_3 _ k0) hb1.1 hb1.2 dX3_leastCost_89 (fun M2 e_M2 => ?_)
    have h := h M2 e_M2
    refine qr_iload 90 92 rfl (x := x4) rfl dX3_leastCost_90 ?_
    exact qe_i 92 rfl dX3_leastCost_92 h
  · have h := h.2 c48
    refine qr_iload_n 51 52 rfl (x := x1) rfl dX3_leastCost_51 ?_
    refine qr_iload 52 54 rfl (x := x5) rfl dX3_leastCost_52 ?_
    refine qr_ishr 54 55 rfl dX3_leastCost_54 ?_
    refine qr_iconst 55 56 rfl (q_l32 _ rfl) dX3_leastCost_55 ?_
    refine qr_iand 56 57 rfl dX3_leastCost_56 ?_
    refine qr_if_eq 57 60 76 rfl (by decide) dX3_leastCost_57 (fun c57 => ?_) (fun c57 => ?_)
    · have h := h.1 c57
      refine qr_iinc 76 79 rfl (by decide) (x := x5) rfl rfl rfl dX3_leastCost_76 ?_
      refine qr_goto 79 42 (by decide) dX3_leastCost_79 ?_
      exact h
    · have h := h.2 c57
      refine qr_iload 60 62 rfl (x := x4) rfl dX3_leastCost_60 ?_
      refine qr_aload_n 62 63 rfl (x := x0) rfl dX3_leastCost_62 ?_
      refine qr_iload_n 63 64 rfl (x := x1) rfl dX3_leastCost_63 ?_
      refine qr_iload_n 64 65 rfl (x := x3) rfl dX3_leastCost_64 ?_
      refine qr_iload 65 67 rfl (x := x5) rfl dX3_leastCost_65 ?_
      refine qr_iload_n 67 68 rfl (x := x2) rfl dX3_leastCost_67 ?_
      refine qw_I 68 71 rfl (av := [qI x1, qI x3, qI x5, qI x2]) ca_X3_costWith wm_875 wp_42 wm_873 ck3 k0 rfl rfl (Nat.le_of_ble_eq_true rfl) dX3_leastCost_68 h (fun v4 M3 h => ?_)
      refine qs_I 71 74 rfl (av := [qI x4, qI v4]) ca_J9_min_7cf53 wm_452 wm_877 rfl rfl (Nat.le_of_ble_eq_true rfl) dX3_leastCost_71 h (fun v6 M5 h => ?_)
      refine qr_istore 74 76 rfl (by decide) rfl rfl dX3_leastCost_74 ?_
      refine qr_iinc 76 79 rfl (by decide) (x := x5) rfl rfl rfl dX3_leastCost_76 ?_
      refine qr_goto 79 42 (by decide) dX3_leastCost_79 ?_
      exact h
theorem dX3_costWith_0 : decode cX3_costWith 0 = .ok (.aload_n 0, 1) := by decide +kernel
theorem dX3_costWith_1 : decode cX3_costWith 1 = .ok (.getfield 17, 3) := by decide +kernel
theorem dX3_costWith_4 : decode cX3_costWith 4 = .ok (.aload_n 0, 1) := by decide +kernel
theorem dX3_costWith_5 : decode cX3_costWith 5 = .ok (.getfield 20, 3) := by decide +kernel
theorem dX3_costWith_8 : decode cX3_costWith 8 = .ok (.iload_n 2, 1) := by decide +kernel
theorem dX3_costWith_9 : decode cX3_costWith 9 = .ok (.iaload, 1) := by decide +kernel
theorem dX3_costWith_10 : decode cX3_costWith 10 = .ok (.aaload, 1) := by decide +kernel
theorem dX3_costWith_11 : decode cX3_costWith 11 = .ok (.aload_n 0, 1) := by decide +kernel
theorem dX3_costWith_12 : decode cX3_costWith 12 = .ok (.getfield 20, 3) := by decide +kernel
theorem dX3_costWith_15 : decode cX3_costWith 15 = .ok (.iload_n 3, 1) := by decide +kernel
theorem dX3_costWith_16 : decode cX3_costWith 16 = .ok (.iaload, 1) := by decide +kernel
theorem dX3_costWith_17 : decode cX3_costWith 17 = .ok (.iaload, 1) := by decide +kernel
theorem dX3_costWith_18 : decode cX3_costWith 18 = .ok (.istore 5, 2) := by decide +kernel
theorem dX3_costWith_20 : decode cX3_costWith 20 = .ok (.iload 5, 2) := by decide +kernel
theorem dX3_costWith_22 : decode cX3_costWith 22 = .ok (.ldc 63, 2) := by decide +kernel
theorem dX3_costWith_24 : decode cX3_costWith 24 = .ok (.if_icmp .lt 6, 3) := by decide +kernel
theorem dX3_costWith_27 : decode cX3_costWith 27 = .ok (.ldc 63, 2) := by decide +kernel
theorem dX3_costWith_29 : decode cX3_costWith 29 = .ok (.ireturn, 1) := by decide +kernel
theorem dX3_costWith_30 : decode cX3_costWith 30 = .ok (.aload_n 0, 1) := by decide +kernel
theorem dX3_costWith_31 : decode cX3_costWith 31 = .ok (.iload_n 1, 1) := by decide +kernel
theorem dX3_costWith_32 : decode cX3_costWith 32 = .ok (.iconst 1, 1) := by decide +kernel
theorem dX3_costWith_33 : decode cX3_costWith 33 = .ok (.iload_n 2, 1) := by decide +kernel
theorem dX3_costWith_34 : decode cX3_costWith 34 = .ok (.ishl, 1) := by decide +kernel
theorem dX3_costWith_35 : decode cX3_costWith 35 = .ok (.iconst 1, 1) := by decide +kernel
theorem dX3_costWith_36 : decode cX3_costWith 36 = .ok (.iload_n 3, 1) := by decide +kernel
theorem dX3_costWith_37 : decode cX3_costWith 37 = .ok (.ishl, 1) := by decide +kernel
theorem dX3_costWith_38 : decode cX3_costWith 38 = .ok (.ior, 1) := by decide +kernel
theorem dX3_costWith_39 : decode cX3_costWith 39 = .ok (.iconst (-1), 1) := by decide +kernel
theorem dX3_costWith_40 : decode cX3_costWith 40 = .ok (.ixor, 1) := by decide +kernel
theorem dX3_costWith_41 : decode cX3_costWith 41 = .ok (.iand, 1) := by decide +kernel
theorem dX3_costWith_42 : decode cX3_costWith 42 = .ok (.iload 4, 2) := by decide +kernel
theorem dX3_costWith_44 : decode cX3_costWith 44 = .ok (.iconst 1, 1) := by decide +kernel
theorem dX3_costWith_45 : decode cX3_costWith 45 = .ok (.iadd, 1) := by decide +kernel
theorem dX3_costWith_46 : decode cX3_costWith 46 = .ok (.invokevirtual 56, 3) := by decide +kernel
theorem dX3_costWith_49 : decode cX3_costWith 49 = .ok (.istore 6, 2) := by decide +kernel
theorem dX3_costWith_51 : decode cX3_costWith 51 = .ok (.iload 5, 2) := by decide +kernel
theorem dX3_costWith_53 : decode cX3_costWith 53 = .ok (.iload 6, 2) := by decide +kernel
theorem dX3_costWith_55 : decode cX3_costWith 55 = .ok (.iadd, 1) := by decide +kernel
theorem dX3_costWith_56 : decode cX3_costWith 56 = .ok (.ldc 63, 2) := by decide +kernel
theorem dX3_costWith_58 : decode cX3_costWith 58 = .ok (.invokestatic 64, 3) := by decide +kernel
theorem dX3_costWith_61 : decode cX3_costWith 61 = .ok (.ireturn, 1) := by decide +kernel
theorem bX3_costWith_0 {d : Nat} {P : Int → q_Mem → Prop} {M : q_Mem} (x0 x1 x2 x3 x4 : Int) (k0 : q_kd x0 = 3) (h : (0 ≤ x2 ∧ x2 < (16 : Int)) ∧ (q_kd (M x0 2) = 20 ∧ (0 ≤ (M (q_lay x0 4) x2) ∧ (M (q_lay x0 4) x2) < (q_ln (M x0 2) : Int)) ∧ ((0 ≤ x3 ∧ x3 < (16 : Int)) ∧ (q_kd (q_lay (M x0 2) (Int.toNat (M (q_lay x0 4) x2))) = 14 ∧ (0 ≤ (M (q_lay x0 4) x3) ∧ (M (q_lay x0 4) x3) < (q_ln (q_lay (M x0 2) (Int.toNat (M (q_lay x0 4) x2))) : Int)) ∧ (∀ x5_7 : Int, x5_7 = (M (q_lay (M x0 2) (Int.toNat (M (q_lay x0 4) x2))) (M (q_lay x0 4) x3)) → ((x5_7 < (536870912 : Int)) → q_kI yX3_leastCost mX3_leastCost d [qR x0, qI (q_and x1 (q_xor (q_or (q_shl 1 x2) (q_shl 1 x3)) (-1))), qI (q_add x4 1)] M (fun v9 M8 => q_kI yJ9_min_7cf53 mJ9_min_7cf53 d [qI (q_add x5_7 v9), qI 536870912] M8 (fun v11 M10 => P v11 M10))) ∧ ((¬ (x5_7 < (536870912 : Int))) → P 536870912 M)))))) : q_v mX3_costWith d (qPI P) M 0 [some (qR x0), some (qI x1), some (qI x2), some (qI x3), some (qI x4), none, none] [] := by
  refine qr_aload_n 0 1 rfl (x := x0) rfl dX3_costWith_0 ?_
  refine qg_r 1 4 rfl ck3 2 (kk := 2) (by decide) k0 (by decide +kernel) rfl wm_360 rfl dX3_costWith_1 ?_
  refine qr_aload_n 4 5 rfl (x := x0) rfl dX3_costWith_4 ?_
  refine qr_getF 5 8 rfl ck3 4 (by decide) (b := (q_lay x0 4)) k0 rfl (by decide +kernel) rfl wm_362 rfl dX3_costWith_5 ?_
  refine qr_iload_n 8 9 rfl (x := x2) rfl dX3_costWith_8 ?_
  have hb1 := h.1
  have h := h.2
  refine qi_ld 9 10 rfl (N := 16) (lk3_4 _ k0) (ll3_4 _ k0) hb1.1 hb1.2 dX3_costWith_9 ?_
  have hk2 := h.1
  have h := h.2
  have hb3 := h.1
  have h := h.2
  refine qa_ld 10 11 rfl (by rw [hk2]; decide) rfl hb3.1 hb3.2 dX3_costWith_10 ?_
  refine qr_aload_n 11 12 rfl (x := x0) rfl dX3_costWith_11 ?_
  refine qr_getF 12 15 rfl ck3 4 (by decide) (b := (q_lay x0 4)) k0 rfl (by decide +kernel) rfl wm_362 rfl dX3_costWith_12 ?_
  refine qr_iload_n 15 16 rfl (x := x3) rfl dX3_costWith_15 ?_
  have hb4 := h.1
  have h := h.2
  refine qi_ld 16 17 rfl (N := 16) (lk3_4 _ k0) (ll3_4 _ k0) hb4.1 hb4.2 dX3_costWith_16 ?_
  have hk5 := h.1
  have h := h.2
  have hb6 := h.1
  have h := h.2
  refine qi_ld 17 18 rfl hk5 rfl hb6.1 hb6.2 dX3_costWith_17 ?_
  refine qn_i 18 (fun x5_7 e_x5_7 => ?_)
  have h := h x5_7 e_x5_7
  refine qr_istore 18 20 rfl (by decide) rfl rfl dX3_costWith_18 ?_
  refine qr_iload 20 22 rfl (x := x5_7) rfl dX3_costWith_20 ?_
  refine qr_ldc 22 24 rfl (v := 536870912) (q_l32 _ rfl) wm_872 dX3_costWith_22 ?_
  refine qr_icmp_lt 24 27 30 rfl (by decide) dX3_costWith_24 (fun c24 => ?_) (fun c24 => ?_)
  · have h := h.1 c24
    refine qr_aload_n 30 31 rfl (x := x0) rfl dX3_costWith_30 ?_
    refine qr_iload_n 31 32 rfl (x := x1) rfl dX3_costWith_31 ?_
    refine qr_iconst 32 33 rfl (q_l32 _ rfl) dX3_costWith_32 ?_
    refine qr_iload_n 33 34 rfl (x := x2) rfl dX3_costWith_33 ?_
    refine qr_ishl 34 35 rfl dX3_costWith_34 ?_
    refine qr_iconst 35 36 rfl (q_l32 _ rfl) dX3_costWith_35 ?_
    refine qr_iload_n 36 37 rfl (x := x3) rfl dX3_costWith_36 ?_
    refine qr_ishl 37 38 rfl dX3_costWith_37 ?_
    refine qr_ior 38 39 rfl dX3_costWith_38 ?_
    refine qr_iconst 39 40 rfl (q_l32 _ rfl) dX3_costWith_39 ?_
    refine qr_ixor 40 41 rfl dX3_costWith_40 ?_
    refine qr_iand 41 42 rfl dX3_costWith_41 ?_
    refine qr_iload 42 44 rfl (x := x4) rfl dX3_costWith_42 ?_
    refine qr_iconst 44 45 rfl (q_l32 _ rfl) dX3_costWith_44 ?_
    refine qr_iadd 45 46 rfl dX3_costWith_45 ?_
    refine qw_I 46 49 rfl (av := [qI (q_and x1 (q_xor (q_or (q_shl 1 x2) (q_shl 1 x3)) (-1))), qI (q_add x4 1)]) ca_X3_leastCost wm_870 wp_41 wm_868 ck3 k0 rfl rfl (Nat.le_of_ble_eq_true rfl) dX3_costWith_46 h (fun v9 M8 h => ?_)
    refine qr_istore 49 51 rfl (by decide) rfl rfl dX3_costWith_49 ?_
    refine qr_iload 51 53 rfl (x := x5_7) rfl dX3_costWith_51 ?_
    refine qr_iload 53 55 rfl (x := v9) rfl dX3_costWith_53 ?_
    refine qr_iadd 55 56 rfl dX3_costWith_55 ?_
    refine qr_ldc 56 58 rfl (v := 536870912) (q_l32 _ rfl) wm_872 dX3_costWith_56 ?_
    refine qs_I 58 61 rfl (av := [qI (q_add x5_7 v9), qI 536870912]) ca_J9_min_7cf53 wm_452 wm_877 rfl rfl (Nat.le_of_ble_eq_true rfl) dX3_costWith_58 h (fun v11 M10 h => ?_)
    exact qe_i 61 rfl dX3_costWith_61 h
  · have h := h.2 c24
    refine qr_ldc 27 29 rfl (v := 536870912) (q_l32 _ rfl) wm_872 dX3_costWith_27 ?_
    exact qe_i 29 rfl dX3_costWith_29 h
theorem dX4_clear_0 : decode cX4_clear 0 = .ok (.aload_n 0, 1) := by decide +kernel
theorem dX4_clear_1 : decode cX4_clear 1 = .ok (.iconst 0, 1) := by decide +kernel
theorem dX4_clear_2 : decode cX4_clear 2 = .ok (.putfield 40, 3) := by decide +kernel
theorem dX4_clear_5 : decode cX4_clear 5 = .ok (.aload_n 0, 1) := by decide +kernel
theorem dX4_clear_6 : decode cX4_clear 6 = .ok (.iconst 0, 1) := by decide +kernel
theorem dX4_clear_7 : decode cX4_clear 7 = .ok (.putfield 44, 3) := by decide +kernel
theorem dX4_clear_10 : decode cX4_clear 10 = .ok (.aload_n 0, 1) := by decide +kernel
theorem dX4_clear_11 : decode cX4_clear 11 = .ok (.iconst 0, 1) := by decide +kernel
theorem dX4_clear_12 : decode cX4_clear 12 = .ok (.putfield 47, 3) := by decide +kernel
theorem dX4_clear_15 : decode cX4_clear 15 = .ok (.aload_n 0, 1) := by decide +kernel
theorem dX4_clear_16 : decode cX4_clear 16 = .ok (.iconst 0, 1) := by decide +kernel
theorem dX4_clear_17 : decode cX4_clear 17 = .ok (.putfield 50, 3) := by decide +kernel
theorem dX4_clear_20 : decode cX4_clear 20 = .ok (.aload_n 0, 1) := by decide +kernel
theorem dX4_clear_21 : decode cX4_clear 21 = .ok (.getfield 21, 3) := by decide +kernel
theorem dX4_clear_24 : decode cX4_clear 24 = .ok (.iconst 0, 1) := by decide +kernel
theorem dX4_clear_25 : decode cX4_clear 25 = .ok (.invokestatic 53, 3) := by decide +kernel
theorem dX4_clear_28 : decode cX4_clear 28 = .ok (.aload_n 0, 1) := by decide +kernel
theorem dX4_clear_29 : decode cX4_clear 29 = .ok (.getfield 27, 3) := by decide +kernel
theorem dX4_clear_32 : decode cX4_clear 32 = .ok (.iconst 0, 1) := by decide +kernel
theorem dX4_clear_33 : decode cX4_clear 33 = .ok (.invokestatic 53, 3) := by decide +kernel
theorem dX4_clear_36 : decode cX4_clear 36 = .ok (.aload_n 0, 1) := by decide +kernel
theorem dX4_clear_37 : decode cX4_clear 37 = .ok (.getfield 33, 3) := by decide +kernel
theorem dX4_clear_40 : decode cX4_clear 40 = .ok (.invokevirtual 59, 3) := by decide +kernel
theorem dX4_clear_43 : decode cX4_clear 43 = .ok (.aload_n 0, 1) := by decide +kernel
theorem dX4_clear_44 : decode cX4_clear 44 = .ok (.getfield 37, 3) := by decide +kernel
theorem dX4_clear_47 : decode cX4_clear 47 = .ok (.invokevirtual 59, 3) := by decide +kernel
theorem dX4_clear_50 : decode cX4_clear 50 = .ok (.return_, 1) := by decide +kernel
theorem bX4_clear_0 {d : Nat} {P : q_Mem → Prop} {M : q_Mem} (x0 : Int) (k0 : q_kd x0 = 4) (h : (∀ M1 : q_Mem, M1 = q_up M x0 0 0 → (∀ M2 : q_Mem, M2 = q_up M1 x0 1 0 → (∀ M3 : q_Mem, M3 = q_up M2 x0 2 0 → (∀ M4 : q_Mem, M4 = q_up M3 x0 3 0 → q_kU yJ7_fill_53178 mJ7_fill_53178 d [qR (q_lay x0 7), qI 0] M4 (fun M5 => q_kU yJ7_fill_53178 mJ7_fill_53178 d [qR (q_lay x0 9), qI 0] M5 (fun M6 => q_kU yX2_clear mX2_clear d [qR (q_lay x0 10)] M6 (fun M7 => q_kU yX2_clear mX2_clear d [qR (q_lay x0 11)] M7 (fun M8 => P M8))))))))) : q_v mX4_clear d (qPU P) M 0 [some (qR x0)] [] := by
  refine qr_aload_n 0 1 rfl (x := x0) rfl dX4_clear_0 ?_
  refine qr_iconst 1 2 rfl (q_l32 _ rfl) dX4_clear_1 ?_
  refine qp_i 2 5 rfl ck4 0 (kk := 0) (by decide) k0 (by decide) rfl rfl wm_59 rfl dX4_clear_2 (fun M1 e_M1 => ?_)
  have h := h M1 e_M1
  refine qr_aload_n 5 6 rfl (x := x0) rfl dX4_clear_5 ?_
  refine qr_iconst 6 7 rfl (q_l32 _ rfl) dX4_clear_6 ?_
  refine qp_i 7 10 rfl ck4 1 (kk := 1) (by decide) k0 (by decide) rfl rfl wm_64 rfl dX4_clear_7 (fun M2 e_M2 => ?_)
  have h := h M2 e_M2
  refine qr_aload_n 10 11 rfl (x := x0) rfl dX4_clear_10 ?_
  refine qr_iconst 11 12 rfl (q_l32 _ rfl) dX4_clear_11 ?_
  refine qp_i 12 15 rfl ck4 2 (kk := 2) (by decide) k0 (by decide) rfl rfl wm_69 rfl dX4_clear_12 (fun M3 e_M3 => ?_)
  have h := h M3 e_M3
  refine qr_aload_n 15 16 rfl (x := x0) rfl dX4_clear_15 ?_
  refine qr_iconst 16 17 rfl (q_l32 _ rfl) dX4_clear_16 ?_
  refine qp_i 17 20 rfl ck4 3 (kk := 3) (by decide) k0 (by decide) rfl rfl wm_72 rfl dX4_clear_17 (fun M4 e_M4 => ?_)
  have h := h M4 e_M4
  refine qr_aload_n 20 21 rfl (x := x0) rfl dX4_clear_20 ?_
  refine qr_getF 21 24 rfl ck4 7 (by decide) (b := (q_lay x0 7)) k0 rfl (by decide +kernel) rfl wm_83 rfl dX4_clear_21 ?_
  refine qr_iconst 24 25 rfl (q_l32 _ rfl) dX4_clear_24 ?_
  refine qs_U 25 28 rfl (av := [qR (q_lay x0 7), qI 0]) ca_J7_fill_53178 wm_459 wm_458 rfl rfl (Nat.le_of_ble_eq_true rfl) dX4_clear_25 h (fun M5 h => ?_)
  refine qr_aload_n 28 29 rfl (x := x0) rfl dX4_clear_28 ?_
  refine qr_getF 29 32 rfl ck4 9 (by decide) (b := (q_lay x0 9)) k0 rfl (by decide +kernel) rfl wm_87 rfl dX4_clear_29 ?_
  refine qr_iconst 32 33 rfl (q_l32 _ rfl) dX4_clear_32 ?_
  refine qs_U 33 36 rfl (av := [qR (q_lay x0 9), qI 0]) ca_J7_fill_53178 wm_459 wm_458 rfl rfl (Nat.le_of_ble_eq_true rfl) dX4_clear_33 h (fun M6 h => ?_)
  refine qr_aload_n 36 37 rfl (x := x0) rfl dX4_clear_36 ?_
  refine qr_getF 37 40 rfl ck4 10 (by decide) (b := (q_lay x0 10)) k0 rfl (by decide +kernel) rfl wm_90 rfl dX4_clear_37 ?_
  refine qw_U 40 43 rfl (av := []) ca_X2_clear wm_462 wm_463 wm_461 ck2 (lk4_10 _ k0) rfl rfl (Nat.le_of_ble_eq_true rfl) dX4_clear_40 h (fun M7 h => ?_)
  refine qr_aload_n 43 44 rfl (x := x0) rfl dX4_clear_43 ?_
  refine qr_getF 44 47 rfl ck4 11 (by decide) (b := (q_lay x0 11)) k0 rfl (by decide +kernel) rfl wm_91 rfl dX4_clear_44 ?_
  refine qw_U 47 50 rfl (av := []) ca_X2_clear wm_462 wm_463 wm_461 ck2 (lk4_11 _ k0) rfl rfl (Nat.le_of_ble_eq_true rfl) dX4_clear_47 h (fun M8 h => ?_)
  exact qe_u 50 rfl dX4_clear_50 h
theorem dX4_takeFrom_0 : decode cX4_takeFrom 0 = .ok (.aload_n 0, 1) := by decide +kernel
theorem dX4_takeFrom_1 : decode cX4_takeFrom 1 = .ok (.aload_n 1, 1) := by decide +kernel
theorem dX4_takeFrom_2 : decode cX4_takeFrom 2 = .ok (.getfield 40, 3) := by decide +kernel
theorem dX4_takeFrom_5 : decode cX4_takeFrom 5 = .ok (.putfield 40, 3) := by decide +kernel
theorem dX4_takeFrom_8 : decode cX4_takeFrom 8 = .ok (.aload_n 0, 1) := by decide +kernel
theorem dX4_takeFrom_9 : decode cX4_takeFrom 9 = .ok (.aload_n 1, 1) := by decide +kernel
theorem dX4_takeFrom_10 : decode cX4_takeFrom 10 = .ok (.getfield 44, 3) := by decide +kernel
theorem dX4_takeFrom_13 : decode cX4_takeFrom 13 = .ok (.putfield 44, 3) := by decide +kernel
theorem dX4_takeFrom_16 : decode cX4_takeFrom 16 = .ok (.aload_n 0, 1) := by decide +kernel
theorem dX4_takeFrom_17 : decode cX4_takeFrom 17 = .ok (.aload_n 1, 1) := by decide +kernel
theorem dX4_takeFrom_18 : decode cX4_takeFrom 18 = .ok (.getfield 47, 3) := by decide +kernel
theorem dX4_takeFrom_21 : decode cX4_takeFrom 21 = .ok (.putfield 47, 3) := by decide +kernel
theorem dX4_takeFrom_24 : decode cX4_takeFrom 24 = .ok (.aload_n 0, 1) := by decide +kernel
theorem dX4_takeFrom_25 : decode cX4_takeFrom 25 = .ok (.aload_n 1, 1) := by decide +kernel
theorem dX4_takeFrom_26 : decode cX4_takeFrom 26 = .ok (.getfield 50, 3) := by decide +kernel
theorem dX4_takeFrom_29 : decode cX4_takeFrom 29 = .ok (.putfield 50, 3) := by decide +kernel
theorem dX4_takeFrom_32 : decode cX4_takeFrom 32 = .ok (.aload_n 1, 1) := by decide +kernel
theorem dX4_takeFrom_33 : decode cX4_takeFrom 33 = .ok (.getfield 9, 3) := by decide +kernel
theorem dX4_takeFrom_36 : decode cX4_takeFrom 36 = .ok (.iconst 0, 1) := by decide +kernel
theorem dX4_takeFrom_37 : decode cX4_takeFrom 37 = .ok (.aload_n 0, 1) := by decide +kernel
theorem dX4_takeFrom_38 : decode cX4_takeFrom 38 = .ok (.getfield 9, 3) := by decide +kernel
theorem dX4_takeFrom_41 : decode cX4_takeFrom 41 = .ok (.iconst 0, 1) := by decide +kernel
theorem dX4_takeFrom_42 : decode cX4_takeFrom 42 = .ok (.bipush 16, 2) := by decide +kernel
theorem dX4_takeFrom_44 : decode cX4_takeFrom 44 = .ok (.invokestatic 62, 3) := by decide +kernel
theorem dX4_takeFrom_47 : decode cX4_takeFrom 47 = .ok (.aload_n 1, 1) := by decide +kernel
theorem dX4_takeFrom_48 : decode cX4_takeFrom 48 = .ok (.getfield 15, 3) := by decide +kernel
theorem dX4_takeFrom_51 : decode cX4_takeFrom 51 = .ok (.iconst 0, 1) := by decide +kernel
theorem dX4_takeFrom_52 : decode cX4_takeFrom 52 = .ok (.aload_n 0, 1) := by decide +kernel
theorem dX4_takeFrom_53 : decode cX4_takeFrom 53 = .ok (.getfield 15, 3) := by decide +kernel
theorem dX4_takeFrom_56 : decode cX4_takeFrom 56 = .ok (.iconst 0, 1) := by decide +kernel
theorem dX4_takeFrom_57 : decode cX4_takeFrom 57 = .ok (.bipush 16, 2) := by decide +kernel
theorem dX4_takeFrom_59 : decode cX4_takeFrom 59 = .ok (.invokestatic 62, 3) := by decide +kernel
theorem dX4_takeFrom_62 : decode cX4_takeFrom 62 = .ok (.aload_n 1, 1) := by decide +kernel
theorem dX4_takeFrom_63 : decode cX4_takeFrom 63 = .ok (.getfield 18, 3) := by decide +kernel
theorem dX4_takeFrom_66 : decode cX4_takeFrom 66 = .ok (.iconst 0, 1) := by decide +kernel
theorem dX4_takeFrom_67 : decode cX4_takeFrom 67 = .ok (.aload_n 0, 1) := by decide +kernel
theorem dX4_takeFrom_68 : decode cX4_takeFrom 68 = .ok (.getfield 18, 3) := by decide +kernel
theorem dX4_takeFrom_71 : decode cX4_takeFrom 71 = .ok (.iconst 0, 1) := by decide +kernel
theorem dX4_takeFrom_72 : decode cX4_takeFrom 72 = .ok (.bipush 16, 2) := by decide +kernel
theorem dX4_takeFrom_74 : decode cX4_takeFrom 74 = .ok (.invokestatic 62, 3) := by decide +kernel
theorem dX4_takeFrom_77 : decode cX4_takeFrom 77 = .ok (.aload_n 1, 1) := by decide +kernel
theorem dX4_takeFrom_78 : decode cX4_takeFrom 78 = .ok (.getfield 21, 3) := by decide +kernel
theorem dX4_takeFrom_81 : decode cX4_takeFrom 81 = .ok (.iconst 0, 1) := by decide +kernel
theorem dX4_takeFrom_82 : decode cX4_takeFrom 82 = .ok (.aload_n 0, 1) := by decide +kernel
theorem dX4_takeFrom_83 : decode cX4_takeFrom 83 = .ok (.getfield 21, 3) := by decide +kernel
theorem dX4_takeFrom_86 : decode cX4_takeFrom 86 = .ok (.iconst 0, 1) := by decide +kernel
theorem dX4_takeFrom_87 : decode cX4_takeFrom 87 = .ok (.bipush 10, 2) := by decide +kernel
theorem dX4_takeFrom_89 : decode cX4_takeFrom 89 = .ok (.invokestatic 62, 3) := by decide +kernel
theorem dX4_takeFrom_92 : decode cX4_takeFrom 92 = .ok (.aload_n 1, 1) := by decide +kernel
theorem dX4_takeFrom_93 : decode cX4_takeFrom 93 = .ok (.getfield 24, 3) := by decide +kernel
theorem dX4_takeFrom_96 : decode cX4_takeFrom 96 = .ok (.iconst 0, 1) := by decide +kernel
theorem dX4_takeFrom_97 : decode cX4_takeFrom 97 = .ok (.aload_n 0, 1) := by decide +kernel
theorem dX4_takeFrom_98 : decode cX4_takeFrom 98 = .ok (.getfield 24, 3) := by decide +kernel
theorem dX4_takeFrom_101 : decode cX4_takeFrom 101 = .ok (.iconst 0, 1) := by decide +kernel
theorem dX4_takeFrom_102 : decode cX4_takeFrom 102 = .ok (.sipush 160, 3) := by decide +kernel
theorem dX4_takeFrom_105 : decode cX4_takeFrom 105 = .ok (.invokestatic 62, 3) := by decide +kernel
theorem dX4_takeFrom_108 : decode cX4_takeFrom 108 = .ok (.aload_n 1, 1) := by decide +kernel
theorem dX4_takeFrom_109 : decode cX4_takeFrom 109 = .ok (.getfield 27, 3) := by decide +kernel
theorem dX4_takeFrom_112 : decode cX4_takeFrom 112 = .ok (.iconst 0, 1) := by decide +kernel
theorem dX4_takeFrom_113 : decode cX4_takeFrom 113 = .ok (.aload_n 0, 1) := by decide +kernel
theorem dX4_takeFrom_114 : decode cX4_takeFrom 114 = .ok (.getfield 27, 3) := by decide +kernel
theorem dX4_takeFrom_117 : decode cX4_takeFrom 117 = .ok (.iconst 0, 1) := by decide +kernel
theorem dX4_takeFrom_118 : decode cX4_takeFrom 118 = .ok (.bipush 10, 2) := by decide +kernel
theorem dX4_takeFrom_120 : decode cX4_takeFrom 120 = .ok (.invokestatic 62, 3) := by decide +kernel
theorem dX4_takeFrom_123 : decode cX4_takeFrom 123 = .ok (.aload_n 0, 1) := by decide +kernel
theorem dX4_takeFrom_124 : decode cX4_takeFrom 124 = .ok (.getfield 33, 3) := by decide +kernel
theorem dX4_takeFrom_127 : decode cX4_takeFrom 127 = .ok (.aload_n 1, 1) := by decide +kernel
theorem dX4_takeFrom_128 : decode cX4_takeFrom 128 = .ok (.getfield 33, 3) := by decide +kernel
theorem dX4_takeFrom_131 : decode cX4_takeFrom 131 = .ok (.invokevirtual 68, 3) := by decide +kernel
theorem dX4_takeFrom_134 : decode cX4_takeFrom 134 = .ok (.aload_n 0, 1) := by decide +kernel
theorem dX4_takeFrom_135 : decode cX4_takeFrom 135 = .ok (.getfield 37, 3) := by decide +kernel
theorem dX4_takeFrom_138 : decode cX4_takeFrom 138 = .ok (.aload_n 1, 1) := by decide +kernel
theorem dX4_takeFrom_139 : decode cX4_takeFrom 139 = .ok (.getfield 37, 3) := by decide +kernel
theorem dX4_takeFrom_142 : decode cX4_takeFrom 142 = .ok (.invokevirtual 68, 3) := by decide +kernel
theorem dX4_takeFrom_145 : decode cX4_takeFrom 145 = .ok (.return_, 1) := by decide +kernel
theorem bX4_takeFrom_0 {d : Nat} {P : q_Mem → Prop} {M : q_Mem} (x0 x1 : Int) (k0 : q_kd x0 = 4) (k1 : q_kd x1 = 4) (h : (∀ M1 : q_Mem, M1 = q_up M x0 0 (M x1 0) → (∀ M2 : q_Mem, M2 = q_up M1 x0 1 (M1 x1 1) → (∀ M3 : q_Mem, M3 = q_up M2 x0 2 (M2 x1 2) → (∀ M4 : q_Mem, M4 = q_up M3 x0 3 (M3 x1 3) → ((0 ≤ (0 : Int) ∧ 0 ≤ (0 : Int) ∧ 0 ≤ (16 : Int)) ∧ ((0 : Int) + 16 ≤ 16 ∧ (0 : Int) + 16 ≤ 16) ∧ 1 ≤ d) ∧ (∀ M6 : q_Mem, M6 = q_cp M4 (q_lay x1 4) 0 (q_lay x0 4) 0 16 → ((0 ≤ (0 : Int) ∧ 0 ≤ (0 : Int) ∧ 0 ≤ (16 : Int)) ∧ ((0 : Int) + 16 ≤ 16 ∧ (0 : Int) + 16 ≤ 16) ∧ 1 ≤ d) ∧ (∀ M8 : q_Mem, M8 = q_cp M6 (q_lay x1 5) 0 (q_lay x0 5) 0 16 → ((0 ≤ (0 : Int) ∧ 0 ≤ (0 : Int) ∧ 0 ≤ (16 : Int)) ∧ ((0 : Int) + 16 ≤ 16 ∧ (0 : Int) + 16 ≤ 16) ∧ 1 ≤ d) ∧ (∀ M10 : q_Mem, M10 = q_cp M8 (q_lay x1 6) 0 (q_lay x0 6) 0 16 → ((0 ≤ (0 : Int) ∧ 0 ≤ (0 : Int) ∧ 0 ≤ (10 : Int)) ∧ ((0 : Int) + 10 ≤ 10 ∧ (0 : Int) + 10 ≤ 10) ∧ 1 ≤ d) ∧ (∀ M12 : q_Mem, M12 = q_cp M10 (q_lay x1 7) 0 (q_lay x0 7) 0 10 → ((0 ≤ (0 : Int) ∧ 0 ≤ (0 : Int) ∧ 0 ≤ (160 : Int)) ∧ ((0 : Int) + 160 ≤ 160 ∧ (0 : Int) + 160 ≤ 160) ∧ 1 ≤ d) ∧ (∀ M14 : q_Mem, M14 = q_cp M12 (q_lay x1 8) 0 (q_lay x0 8) 0 160 → ((0 ≤ (0 : Int) ∧ 0 ≤ (0 : Int) ∧ 0 ≤ (10 : Int)) ∧ ((0 : Int) + 10 ≤ 10 ∧ (0 : Int) + 10 ≤ 10) ∧ 1 ≤ d) ∧ (∀ M16 : q_Mem, M16 = q_cp M14 (q_lay x1 9) 0 (q_lay x0 9) 0 10 → q_kU yX2_takeFrom mX2_takeFrom d [qR (q_lay x0 10), qR (q_lay x1 10)] M16 (fun M17 => q_kU yX2_takeFrom mX2_takeFrom d [qR (q_lay x0 11), qR (q_lay x1 11)] M17 (fun M18 => P M18))))))))))))) : q_v mX4_takeFrom d (qPU P) M 0 [some (qR x0), some (qR x1)] [] := by
  refine qr_aload_n 0 1 rfl (x := x0) rfl dX4_takeFrom_0 ?_
  refine qr_aload_n 1 2 rfl (x := x1) rfl dX4_takeFrom_1 ?_
  refine qg_i 2 5 rfl ck4 0 (kk := 0) (by decide) k1 (by decide +kernel) rfl wm_59 rfl dX4_takeFrom_2 ?_
  refine qp_i 5 8 rfl ck4 0 (kk := 0) (by decide) k0 (by decide) rfl rfl wm_59 rfl dX4_takeFrom_5 (fun M1 e_M1 => ?_)
  have h := h M1 e_M1
  refine qr_aload_n 8 9 rfl (x := x0) rfl dX4_takeFrom_8 ?_
  refine qr_aload_n 9 10 rfl (x := x1) rfl dX4_takeFrom_9 ?_
  refine qg_i 10 13 rfl ck4 1 (kk := 1) (by decide) k1 (by decide +kernel) rfl wm_64 rfl dX4_takeFrom_10 ?_
  refine qp_i 13 16 rfl ck4 1 (kk := 1) (by decide) k0 (by decide) rfl rfl wm_64 rfl dX4_takeFrom_13 (fun M2 e_M2 => ?_)
  have h := h M2 e_M2
  refine qr_aload_n 16 17 rfl (x := x0) rfl dX4_takeFrom_16 ?_
  refine qr_aload_n 17 18 rfl (x := x1) rfl dX4_takeFrom_17 ?_
  refine qg_i 18 21 rfl ck4 2 (kk := 2) (by decide) k1 (by decide +kernel) rfl wm_69 rfl dX4_takeFrom_18 ?_
  refine qp_i 21 24 rfl ck4 2 (kk := 2) (by decide) k0 (by decide) rfl rfl wm_69 rfl dX4_takeFrom_21 (fun M3 e_M3 => ?_)
  have h := h M3 e_M3
  refine qr_aload_n 24 25 rfl (x := x0) rfl dX4_takeFrom_24 ?_
  refine qr_aload_n 25 26 rfl (x := x1) rfl dX4_takeFrom_25 ?_
  refine qg_i 26 29 rfl ck4 3 (kk := 3) (by decide) k1 (by decide +kernel) rfl wm_72 rfl dX4_takeFrom_26 ?_
  refine qp_i 29 32 rfl ck4 3 (kk := 3) (by decide) k0 (by decide) rfl rfl wm_72 rfl dX4_takeFrom_29 (fun M4 e_M4 => ?_)
  have h := h M4 e_M4
  refine qr_aload_n 32 33 rfl (x := x1) rfl dX4_takeFrom_32 ?_
  refine qr_getF 33 36 rfl ck4 4 (by decide) (b := (q_lay x1 4)) k1 rfl (by decide +kernel) rfl wm_74 rfl dX4_takeFrom_33 ?_
  refine qr_iconst 36 37 rfl (q_l32 _ rfl) dX4_takeFrom_36 ?_
  refine qr_aload_n 37 38 rfl (x := x0) rfl dX4_takeFrom_37 ?_
  refine qr_getF 38 41 rfl ck4 4 (by decide) (b := (q_lay x0 4)) k0 rfl (by decide +kernel) rfl wm_74 rfl dX4_takeFrom_38 ?_
  refine qr_iconst 41 42 rfl (q_l32 _ rfl) dX4_takeFrom_41 ?_
  refine qr_bipush 42 44 rfl (q_l32 _ rfl) (by decide) dX4_takeFrom_42 ?_
  have hb5 := h.1
  have h := h.2
  refine qr_copy 44 47 rfl (N1 := 16) (N2 := 16) (lk4_4 _ k1) (lk4_4 _ k0) (ll4_4 _ k1) (ll4_4 _ k0) hb5.1.1 hb5.1.2.1 hb5.1.2.2 hb5.2.1.1 hb5.2.1.2 hb5.2.2 (Nat.le_of_ble_eq_true rfl) wm_728 dX4_takeFrom_44 (fun M6 e_M6 => ?_)
  have h := h M6 e_M6
  refine qr_aload_n 47 48 rfl (x := x1) rfl dX4_takeFrom_47 ?_
  refine qr_getF 48 51 rfl ck4 5 (by decide) (b := (q_lay x1 5)) k1 rfl (by decide +kernel) rfl wm_78 rfl dX4_takeFrom_48 ?_
  refine qr_iconst 51 52 rfl (q_l32 _ rfl) dX4_takeFrom_51 ?_
  refine qr_aload_n 52 53 rfl (x := x0) rfl dX4_takeFrom_52 ?_
  refine qr_getF 53 56 rfl ck4 5 (by decide) (b := (q_lay x0 5)) k0 rfl (by decide +kernel) rfl wm_78 rfl dX4_takeFrom_53 ?_
  refine qr_iconst 56 57 rfl (q_l32 _ rfl) dX4_takeFrom_56 ?_
  refine qr_bipush 57 59 rfl (q_l32 _ rfl) (by decide) dX4_takeFrom_57 ?_
  have hb7 := h.1
  have h := h.2
  refine qr_copy 59 62 rfl (N1 := 16) (N2 := 16) (lk4_5 _ k1) (lk4_5 _ k0) (ll4_5 _ k1) (ll4_5 _ k0) hb7.1.1 hb7.1.2.1 hb7.1.2.2 hb7.2.1.1 hb7.2.1.2 hb7.2.2 (Nat.le_of_ble_eq_true rfl) wm_728 dX4_takeFrom_59 (fun M8 e_M8 => ?_)
  have h := h M8 e_M8
  refine qr_aload_n 62 63 rfl (x := x1) rfl dX4_takeFrom_62 ?_
  refine qr_getF 63 66 rfl ck4 6 (by decide) (b := (q_lay x1 6)) k1 rfl (by decide +kernel) rfl wm_82 rfl dX4_takeFrom_63 ?_
  refine qr_iconst 66 67 rfl (q_l32 _ rfl) dX4_takeFrom_66 ?_
  refine qr_aload_n 67 68 rfl (x := x0) rfl dX4_takeFrom_67 ?_
  refine qr_getF 68 71 rfl ck4 6 (by decide) (b := (q_lay x0 6)) k0 rfl (by decide +kernel) rfl wm_82 rfl dX4_takeFrom_68 ?_
  refine qr_iconst 71 72 rfl (q_l32 _ rfl) dX4_takeFrom_71 ?_
  refine qr_bipush 72 74 rfl (q_l32 _ rfl) (by decide) dX4_takeFrom_72 ?_
  have hb9 := h.1
  have h := h.2
  refine qr_copy 74 77 rfl (N1 := 16) (N2 := 16) (lk4_6 _ k1) (lk4_6 _ k0) (ll4_6 _ k1) (ll4_6 _ k0) hb9.1.1 hb9.1.2.1 hb9.1.2.2 hb9.2.1.1 hb9.2.1.2 hb9.2.2 (Nat.le_of_ble_eq_true rfl) wm_728 dX4_takeFrom_74 (fun M10 e_M10 => ?_)
  have h := h M10 e_M10
  refine qr_aload_n 77 78 rfl (x := x1) rfl dX4_takeFrom_77 ?_
  refine qr_getF 78 81 rfl ck4 7 (by decide) (b := (q_lay x1 7)) k1 rfl (by decide +kernel) rfl wm_83 rfl dX4_takeFrom_78 ?_
  refine qr_iconst 81 82 rfl (q_l32 _ rfl) dX4_takeFrom_81 ?_
  refine qr_aload_n 82 83 rfl (x := x0) rfl dX4_takeFrom_82 ?_
  refine qr_getF 83 86 rfl ck4 7 (by decide) (b := (q_lay x0 7)) k0 rfl (by decide +kernel) rfl wm_83 rfl dX4_takeFrom_83 ?_
  refine qr_iconst 86 87 rfl (q_l32 _ rfl) dX4_takeFrom_86 ?_
  refine qr_bipush 87 89 rfl (q_l32 _ rfl) (by decide) dX4_takeFrom_87 ?_
  have hb11 := h.1
  have h := h.2
  refine qr_copy 89 92 rfl (N1 := 10) (N2 := 10) (lk4_7 _ k1) (lk4_7 _ k0) (ll4_7 _ k1) (ll4_7 _ k0) hb11.1.1 hb11.1.2.1 hb11.1.2.2 hb11.2.1.1 hb11.2.1.2 hb11.2.2 (Nat.le_of_ble_eq_true rfl) wm_728 dX4_takeFrom_89 (fun M12 e_M12 => ?_)
  have h := h M12 e_M12
  refine qr_aload_n 92 93 rfl (x := x1) rfl dX4_takeFrom_92 ?_
  refine qr_getF 93 96 rfl ck4 8 (by decide) (b := (q_lay x1 8)) k1 rfl (by decide +kernel) rfl wm_86 rfl dX4_takeFrom_93 ?_
  refine qr_iconst 96 97 rfl (q_l32 _ rfl) dX4_takeFrom_96 ?_
  refine qr_aload_n 97 98 rfl (x := x0) rfl dX4_takeFrom_97 ?_
  refine qr_getF 98 101 rfl ck4 8 (by decide) (b := (q_lay x0 8)) k0 rfl (by decide +kernel) rfl wm_86 rfl dX4_takeFrom_98 ?_
  refine qr_iconst 101 102 rfl (q_l32 _ rfl) dX4_takeFrom_101 ?_
  refine qr_sipush 102 105 rfl (q_l32 _ rfl) (by decide) dX4_takeFrom_102 ?_
  have hb13 := h.1
  have h := h.2
  refine qr_copy 105 108 rfl (N1 := 160) (N2 := 160) (lk4_8 _ k1) (lk4_8 _ k0) (ll4_8 _ k1) (ll4_8 _ k0) hb13.1.1 hb13.1.2.1 hb13.1.2.2 hb13.2.1.1 hb13.2.1.2 hb13.2.2 (Nat.le_of_ble_eq_true rfl) wm_728 dX4_takeFrom_105 (fun M14 e_M14 => ?_)
  have h := h M14 e_M14
  refine qr_aload_n 108 109 rfl (x := x1) rfl dX4_takeFrom_108 ?_
  refine qr_getF 109 112 rfl ck4 9 (by decide) (b := (q_lay x1 9)) k1 rfl (by decide +kernel) rfl wm_87 rfl dX4_takeFrom_109 ?_
  refine qr_iconst 112 113 rfl (q_l32 _ rfl) dX4_takeFrom_112 ?_
  refine qr_aload_n 113 114 rfl (x := x0) rfl dX4_takeFrom_113 ?_
  refine qr_getF 114 117 rfl ck4 9 (by decide) (b := (q_lay x0 9)) k0 rfl (by decide +kernel) rfl wm_87 rfl dX4_takeFrom_114 ?_
  refine qr_iconst 117 118 rfl (q_l32 _ rfl) dX4_takeFrom_117 ?_
  refine qr_bipush 118 120 rfl (q_l32 _ rfl) (by decide) dX4_takeFrom_118 ?_
  have hb15 := h.1
  have h := h.2
  refine qr_copy 120 123 rfl (N1 := 10) (N2 := 10) (lk4_9 _ k1) (lk4_9 _ k0) (ll4_9 _ k1) (ll4_9 _ k0) hb15.1.1 hb15.1.2.1 hb15.1.2.2 hb15.2.1.1 hb15.2.1.2 hb15.2.2 (Nat.le_of_ble_eq_true rfl) wm_728 dX4_takeFrom_120 (fun M16 e_M16 => ?_)
  have h := h M16 e_M16
  refine qr_aload_n 123 124 rfl (x := x0) rfl dX4_takeFrom_123 ?_
  refine qr_getF 124 127 rfl ck4 10 (by decide) (b := (q_lay x0 10)) k0 rfl (by decide +kernel) rfl wm_90 rfl dX4_takeFrom_124 ?_
  refine qr_aload_n 127 128 rfl (x := x1) rfl dX4_takeFrom_127 ?_
  refine qr_getF 128 131 rfl ck4 10 (by decide) (b := (q_lay x1 10)) k1 rfl (by decide +kernel) rfl wm_90 rfl dX4_takeFrom_128 ?_
  refine qw_U 131 134 rfl (av := [qR (q_lay x1 10)]) ca_X2_takeFrom wm_1304 wm_1305 wm_1303 ck2 (lk4_10 _ k0) rfl rfl (Nat.le_of_ble_eq_true rfl) dX4_takeFrom_131 h (fun M17 h => ?_)
  refine qr_aload_n 134 135 rfl (x := x0) rfl dX4_takeFrom_134 ?_
  refine qr_getF 135 138 rfl ck4 11 (by decide) (b := (q_lay x0 11)) k0 rfl (by decide +kernel) rfl wm_91 rfl dX4_takeFrom_135 ?_
  refine qr_aload_n 138 139 rfl (x := x1) rfl dX4_takeFrom_138 ?_
  refine qr_getF 139 142 rfl ck4 11 (by decide) (b := (q_lay x1 11)) k1 rfl (by decide +kernel) rfl wm_91 rfl dX4_takeFrom_139 ?_
  refine qw_U 142 145 rfl (av := [qR (q_lay x1 11)]) ca_X2_takeFrom wm_1304 wm_1305 wm_1303 ck2 (lk4_11 _ k0) rfl rfl (Nat.le_of_ble_eq_true rfl) dX4_takeFrom_142 h (fun M18 h => ?_)
  exact qe_u 145 rfl dX4_takeFrom_145 h
theorem dX4_addLink_0 : decode cX4_addLink 0 = .ok (.aload_n 0, 1) := by decide +kernel
theorem dX4_addLink_1 : decode cX4_addLink 1 = .ok (.getfield 44, 3) := by decide +kernel
theorem dX4_addLink_4 : decode cX4_addLink 4 = .ok (.bipush 16, 2) := by decide +kernel
theorem dX4_addLink_6 : decode cX4_addLink 6 = .ok (.if_icmp .ge 63, 3) := by decide +kernel
theorem dX4_addLink_9 : decode cX4_addLink 9 = .ok (.aload_n 0, 1) := by decide +kernel
theorem dX4_addLink_10 : decode cX4_addLink 10 = .ok (.getfield 9, 3) := by decide +kernel
theorem dX4_addLink_13 : decode cX4_addLink 13 = .ok (.aload_n 0, 1) := by decide +kernel
theorem dX4_addLink_14 : decode cX4_addLink 14 = .ok (.getfield 44, 3) := by decide +kernel
theorem dX4_addLink_17 : decode cX4_addLink 17 = .ok (.iload_n 1, 1) := by decide +kernel
theorem dX4_addLink_18 : decode cX4_addLink 18 = .ok (.iastore, 1) := by decide +kernel
theorem dX4_addLink_19 : decode cX4_addLink 19 = .ok (.aload_n 0, 1) := by decide +kernel
theorem dX4_addLink_20 : decode cX4_addLink 20 = .ok (.getfield 15, 3) := by decide +kernel
theorem dX4_addLink_23 : decode cX4_addLink 23 = .ok (.aload_n 0, 1) := by decide +kernel
theorem dX4_addLink_24 : decode cX4_addLink 24 = .ok (.getfield 44, 3) := by decide +kernel
theorem dX4_addLink_27 : decode cX4_addLink 27 = .ok (.iload_n 2, 1) := by decide +kernel
theorem dX4_addLink_28 : decode cX4_addLink 28 = .ok (.iastore, 1) := by decide +kernel
theorem dX4_addLink_29 : decode cX4_addLink 29 = .ok (.aload_n 0, 1) := by decide +kernel
theorem dX4_addLink_30 : decode cX4_addLink 30 = .ok (.getfield 18, 3) := by decide +kernel
theorem dX4_addLink_33 : decode cX4_addLink 33 = .ok (.aload_n 0, 1) := by decide +kernel
theorem dX4_addLink_34 : decode cX4_addLink 34 = .ok (.getfield 44, 3) := by decide +kernel
theorem dX4_addLink_37 : decode cX4_addLink 37 = .ok (.iload_n 3, 1) := by decide +kernel
theorem dX4_addLink_38 : decode cX4_addLink 38 = .ok (.iastore, 1) := by decide +kernel
theorem dX4_addLink_39 : decode cX4_addLink 39 = .ok (.aload_n 0, 1) := by decide +kernel
theorem dX4_addLink_40 : decode cX4_addLink 40 = .ok (.getfield 21, 3) := by decide +kernel
theorem dX4_addLink_43 : decode cX4_addLink 43 = .ok (.iload_n 1, 1) := by decide +kernel
theorem dX4_addLink_44 : decode cX4_addLink 44 = .ok (.dup2, 1) := by decide +kernel
theorem dX4_addLink_45 : decode cX4_addLink 45 = .ok (.iaload, 1) := by decide +kernel
theorem dX4_addLink_46 : decode cX4_addLink 46 = .ok (.iconst 1, 1) := by decide +kernel
theorem dX4_addLink_47 : decode cX4_addLink 47 = .ok (.iadd, 1) := by decide +kernel
theorem dX4_addLink_48 : decode cX4_addLink 48 = .ok (.iastore, 1) := by decide +kernel
theorem dX4_addLink_49 : decode cX4_addLink 49 = .ok (.aload_n 0, 1) := by decide +kernel
theorem dX4_addLink_50 : decode cX4_addLink 50 = .ok (.getfield 21, 3) := by decide +kernel
theorem dX4_addLink_53 : decode cX4_addLink 53 = .ok (.iload_n 2, 1) := by decide +kernel
theorem dX4_addLink_54 : decode cX4_addLink 54 = .ok (.dup2, 1) := by decide +kernel
theorem dX4_addLink_55 : decode cX4_addLink 55 = .ok (.iaload, 1) := by decide +kernel
theorem dX4_addLink_56 : decode cX4_addLink 56 = .ok (.iconst 1, 1) := by decide +kernel
theorem dX4_addLink_57 : decode cX4_addLink 57 = .ok (.iadd, 1) := by decide +kernel
theorem dX4_addLink_58 : decode cX4_addLink 58 = .ok (.iastore, 1) := by decide +kernel
theorem dX4_addLink_59 : decode cX4_addLink 59 = .ok (.aload_n 0, 1) := by decide +kernel
theorem dX4_addLink_60 : decode cX4_addLink 60 = .ok (.dup, 1) := by decide +kernel
theorem dX4_addLink_61 : decode cX4_addLink 61 = .ok (.getfield 44, 3) := by decide +kernel
theorem dX4_addLink_64 : decode cX4_addLink 64 = .ok (.iconst 1, 1) := by decide +kernel
theorem dX4_addLink_65 : decode cX4_addLink 65 = .ok (.iadd, 1) := by decide +kernel
theorem dX4_addLink_66 : decode cX4_addLink 66 = .ok (.putfield 44, 3) := by decide +kernel
theorem dX4_addLink_69 : decode cX4_addLink 69 = .ok (.return_, 1) := by decide +kernel
theorem bX4_addLink_0 {d : Nat} {P : q_Mem → Prop} {M : q_Mem} (x0 x1 x2 x3 : Int) (k0 : q_kd x0 = 4) (h : (((16 : Int) ≤ (M x0 1)) → P M) ∧ ((¬ ((16 : Int) ≤ (M x0 1))) → (0 ≤ (M x0 1) ∧ (M x0 1) < (16 : Int)) ∧ (∀ M2 : q_Mem, M2 = q_up M (q_lay x0 4) (M x0 1) x1 → (0 ≤ (M2 x0 1) ∧ (M2 x0 1) < (16 : Int)) ∧ (∀ M4 : q_Mem, M4 = q_up M2 (q_lay x0 5) (M2 x0 1) x2 → (0 ≤ (M4 x0 1) ∧ (M4 x0 1) < (16 : Int)) ∧ (∀ M6 : q_Mem, M6 = q_up M4 (q_lay x0 6) (M4 x0 1) x3 → (0 ≤ x1 ∧ x1 < (10 : Int)) ∧ ((0 ≤ x1 ∧ x1 < (10 : Int)) ∧ (∀ M9 : q_Mem, M9 = q_up M6 (q_lay x0 7) x1 (q_add (M6 (q_lay x0 7) x1) 1) → (0 ≤ x2 ∧ x2 < (10 : Int)) ∧ ((0 ≤ x2 ∧ x2 < (10 : Int)) ∧ (∀ M12 : q_Mem, M12 = q_up M9 (q_lay x0 7) x2 (q_add (M9 (q_lay x0 7) x2) 1) → (∀ M13 : q_Mem, M13 = q_up M12 x0 1 (q_add (M12 x0 1) 1) → P M13)))))))))) : q_v mX4_addLink d (qPU P) M 0 [some (qR x0), some (qI x1), some (qI x2), some (qI x3)] [] := by
  refine qr_aload_n 0 1 rfl (x := x0) rfl dX4_addLink_0 ?_
  refine qg_i 1 4 rfl ck4 1 (kk := 1) (by decide) k0 (by decide +kernel) rfl wm_64 rfl dX4_addLink_1 ?_
  refine qr_bipush 4 6 rfl (q_l32 _ rfl) (by decide) dX4_addLink_4 ?_
  refine qr_icmp_ge 6 9 69 rfl (by decide) dX4_addLink_6 (fun c6 => ?_) (fun c6 => ?_)
  · have h := h.1 c6
    exact qe_u 69 rfl dX4_addLink_69 h
  · have h := h.2 c6
    refine qr_aload_n 9 10 rfl (x := x0) rfl dX4_addLink_9 ?_
    refine qr_getF 10 13 rfl ck4 4 (by decide) (b := (q_lay x0 4)) k0 rfl (by decide +kernel) rfl wm_74 rfl dX4_addLink_10 ?_
    refine qr_aload_n 13 14 rfl (x := x0) rfl dX4_addLink_13 ?_
    refine qg_i 14 17 rfl ck4 1 (kk := 1) (by decide) k0 (by decide +kernel) rfl wm_64 rfl dX4_addLink_14 ?_
    refine qr_iload_n 17 18 rfl (x := x1) rfl dX4_addLink_17 ?_
    have hb1 := h.1
    have h := h.2
    refine qi_st 18 19 rfl (N := 16) (lk4_4 _ k0) (ll4_4 _ k0) hb1.1 hb1.2 dX4_addLink_18 (fun M2 e_M2 => ?_)
    have h := h M2 e_M2
    refine qr_aload_n 19 20 rfl (x := x0) rfl dX4_addLink_19 ?_
    refine qr_getF 20 23 rfl ck4 5 (by decide) (b := (q_lay x0 5)) k0 rfl (by decide +kernel) rfl wm_78 rfl dX4_addLink_20 ?_
    refine qr_aload_n 23 24 rfl (x := x0) rfl dX4_addLink_23 ?_
    refine qg_i 24 27 rfl ck4 1 (kk := 1) (by decide) k0 (by decide +kernel) rfl wm_64 rfl dX4_addLink_24 ?_
    refine qr_iload_n 27 28 rfl (x := x2) rfl dX4_addLink_27 ?_
    have hb3 := h.1
    have h := h.2
    refine qi_st 28 29 rfl (N := 16) (lk4_5 _ k0) (ll4_5 _ k0) hb3.1 hb3.2 dX4_addLink_28 (fun M4 e_M4 => ?_)
    have h := h M4 e_M4
    refine qr_aload_n 29 30 rfl (x := x0) rfl dX4_addLink_29 ?_
    refine qr_getF 30 33 rfl ck4 6 (by decide) (b := (q_lay x0 6)) k0 rfl (by decide +kernel) rfl wm_82 rfl dX4_addLink_30 ?_
    refine qr_aload_n 33 34 rfl (x := x0) rfl dX4_addLink_33 ?_
    refine qg_i 34 37 rfl ck4 1 (kk := 1) (by decide) k0 (by decide +kernel) rfl wm_64 rfl dX4_addLink_34 ?_
    refine qr_iload_n 37 38 rfl (x := x3) rfl dX4_addLink_37 ?_
    have hb5 := h.1
    have h := h.2
    refine qi_st 38 39 rfl (N := 16) (lk4_6 _ k0) (ll4_6 _ k0) hb5.1 hb5.2 dX4_addLink_38 (fun M6 e_M6 => ?_)
    have h := h M6 e_M6
    refine qr_aload_n 39 40 rfl (x := x0) rfl dX4_addLink_39 ?_
    refine qr_getF 40 43 rfl ck4 7 (by decide) (b := (q_lay x0 7)) k0 rfl (by decide +kernel) rfl wm_83 rfl dX4_addLink_40 ?_
    refine qr_iload_n 43 44 rfl (x := x1) rfl dX4_addLink_43 ?_
    refine qr_dup2 44 45 rfl rfl rfl dX4_addLink_44 ?_
    have hb7 := h.1
    have h := h.2
    refine qi_ld 45 46 rfl (N := 10) (lk4_7 _ k0) (ll4_7 _ k0) hb7.1 hb7.2 dX4_addLink_45 ?_
    refine qr_iconst 46 47 rfl (q_l32 _ rfl) dX4_addLink_46 ?_
    refine qr_iadd 47 48 rfl dX4_addLink_47 ?_
    have hb8 := h.1
    have h := h.2
    refine qi_st 48 49 rfl (N := 10) (lk4_7 _ k0) (ll4_7 _ k0) hb8.1 hb8.2 dX4_addLink_48 (fun M9 e_M9 => ?_)
    have h := h M9 e_M9
    refine qr_aload_n 49 50 rfl (x := x0) rfl dX4_addLink_49 ?_
    refine qr_getF 50 53 rfl ck4 7 (by decide) (b := (q_lay x0 7)) k0 rfl (by decide +kernel) rfl wm_83 rfl dX4_addLink_50 ?_
    refine qr_iload_n 53 54 rfl (x := x2) rfl dX4_addLink_53 ?_
    refine qr_dup2 54 55 rfl rfl rfl dX4_addLink_54 ?_
    have hb10 := h.1
    have h := h.2
    refine qi_ld 55 56 rfl (N := 10) (lk4_7 _ k0) (ll4_7 _ k0) hb10.1 hb10.2 dX4_addLink_55 ?_
    refine qr_iconst 56 57 rfl (q_l32 _ rfl) dX4_addLink_56 ?_
    refine qr_iadd 57 58 rfl dX4_addLink_57 ?_
    have hb11 := h.1
    have h := h.2
    refine qi_st 58 59 rfl (N := 10) (lk4_7 _ k0) (ll4_7 _ k0) hb11.1 hb11.2 dX4_addLink_58 (fun M12 e_M12 => ?_)
    have h := h M12 e_M12
    refine qr_aload_n 59 60 rfl (x := x0) rfl dX4_addLink_59 ?_
    refine qr_dup 60 61 rfl rfl dX4_addLink_60 ?_
    refine qg_i 61 64 rfl ck4 1 (kk := 1) (by decide) k0 (by decide +kernel) rfl wm_64 rfl dX4_addLink_61 ?_
    refine qr_iconst 64 65 rfl (q_l32 _ rfl) dX4_addLink_64 ?_
    refine qr_iadd 65 66 rfl dX4_addLink_65 ?_
    refine qp_i 66 69 rfl ck4 1 (kk := 1) (by decide) k0 (by decide) rfl rfl wm_64 rfl dX4_addLink_66 (fun M13 e_M13 => ?_)
    have h := h M13 e_M13
    exact qe_u 69 rfl dX4_addLink_69 h
theorem dX4_touches_0 : decode cX4_touches 0 = .ok (.aload_n 0, 1) := by decide +kernel
theorem dX4_touches_1 : decode cX4_touches 1 = .ok (.getfield 9, 3) := by decide +kernel
theorem dX4_touches_4 : decode cX4_touches 4 = .ok (.iload_n 1, 1) := by decide +kernel
theorem dX4_touches_5 : decode cX4_touches 5 = .ok (.iaload, 1) := by decide +kernel
theorem dX4_touches_6 : decode cX4_touches 6 = .ok (.iload_n 2, 1) := by decide +kernel
theorem dX4_touches_7 : decode cX4_touches 7 = .ok (.if_icmp .eq 13, 3) := by decide +kernel
theorem dX4_touches_10 : decode cX4_touches 10 = .ok (.aload_n 0, 1) := by decide +kernel
theorem dX4_touches_11 : decode cX4_touches 11 = .ok (.getfield 15, 3) := by decide +kernel
theorem dX4_touches_14 : decode cX4_touches 14 = .ok (.iload_n 1, 1) := by decide +kernel
theorem dX4_touches_15 : decode cX4_touches 15 = .ok (.iaload, 1) := by decide +kernel
theorem dX4_touches_16 : decode cX4_touches 16 = .ok (.iload_n 2, 1) := by decide +kernel
theorem dX4_touches_17 : decode cX4_touches 17 = .ok (.if_icmp .ne 7, 3) := by decide +kernel
theorem dX4_touches_20 : decode cX4_touches 20 = .ok (.iconst 1, 1) := by decide +kernel
theorem dX4_touches_21 : decode cX4_touches 21 = .ok (.goto 4, 3) := by decide +kernel
theorem dX4_touches_24 : decode cX4_touches 24 = .ok (.iconst 0, 1) := by decide +kernel
theorem dX4_touches_25 : decode cX4_touches 25 = .ok (.ireturn, 1) := by decide +kernel
theorem bX4_touches_0 {d : Nat} {P : Int → q_Mem → Prop} {M : q_Mem} (x0 x1 x2 : Int) (k0 : q_kd x0 = 4) (h : (0 ≤ x1 ∧ x1 < (16 : Int)) ∧ ((((M (q_lay x0 4) x1) = x2) → P 1 M) ∧ ((¬ ((M (q_lay x0 4) x1) = x2)) → (0 ≤ x1 ∧ x1 < (16 : Int)) ∧ (((¬ (M (q_lay x0 5) x1) = x2) → P 0 M) ∧ (((M (q_lay x0 5) x1) = x2) → P 1 M))))) : q_v mX4_touches d (qPI P) M 0 [some (qR x0), some (qI x1), some (qI x2)] [] := by
  refine qr_aload_n 0 1 rfl (x := x0) rfl dX4_touches_0 ?_
  refine qr_getF 1 4 rfl ck4 4 (by decide) (b := (q_lay x0 4)) k0 rfl (by decide +kernel) rfl wm_74 rfl dX4_touches_1 ?_
  refine qr_iload_n 4 5 rfl (x := x1) rfl dX4_touches_4 ?_
  have hb1 := h.1
  have h := h.2
  refine qi_ld 5 6 rfl (N := 16) (lk4_4 _ k0) (ll4_4 _ k0) hb1.1 hb1.2 dX4_touches_5 ?_
  refine qr_iload_n 6 7 rfl (x := x2) rfl dX4_touches_6 ?_
  refine qr_icmp_eq 7 10 20 rfl (by decide) dX4_touches_7 (fun c7 => ?_) (fun c7 => ?_)
  · have h := h.1 c7
    refine qr_iconst 20 21 rfl (q_l32 _ rfl) dX4_touches_20 ?_
    refine qr_goto 21 25 (by decide) dX4_touches_21 ?_
    exact qe_z 25 rfl (by decide) dX4_touches_25 h
  · have h := h.2 c7
    refine qr_aload_n 10 11 rfl (x := x0) rfl dX4_touches_10 ?_
    refine qr_getF 11 14 rfl ck4 5 (by decide) (b := (q_lay x0 5)) k0 rfl (by decide +kernel) rfl wm_78 rfl dX4_touches_11 ?_
    refine qr_iload_n 14 15 rfl (x := x1) rfl dX4_touches_14 ?_
    have hb2 := h.1
    have h := h.2
    refine qi_ld 15 16 rfl (N := 16) (lk4_5 _ k0) (ll4_5 _ k0) hb2.1 hb2.2 dX4_touches_15 ?_
    refine qr_iload_n 16 17 rfl (x := x2) rfl dX4_touches_16 ?_
    refine qr_icmp_ne 17 20 24 rfl (by decide) dX4_touches_17 (fun c17 => ?_) (fun c17 => ?_)
    · have h := h.1 c17
      refine qr_iconst 24 25 rfl (q_l32 _ rfl) dX4_touches_24 ?_
      exact qe_z 25 rfl (by decide) dX4_touches_25 h
    · have h := h.2 c17
      refine qr_iconst 20 21 rfl (q_l32 _ rfl) dX4_touches_20 ?_
      refine qr_goto 21 25 (by decide) dX4_touches_21 ?_
      exact qe_z 25 rfl (by decide) dX4_touches_25 h
theorem dX4_liesFirst_0 : decode cX4_liesFirst 0 = .ok (.iconst 0, 1) := by decide +kernel
theorem dX4_liesFirst_1 : decode cX4_liesFirst 1 = .ok (.istore_n 3, 1) := by decide +kernel
theorem dX4_liesFirst_2 : decode cX4_liesFirst 2 = .ok (.iload_n 3, 1) := by decide +kernel
theorem dX4_liesFirst_3 : decode cX4_liesFirst 3 = .ok (.aload_n 0, 1) := by decide +kernel
theorem dX4_liesFirst_4 : decode cX4_liesFirst 4 = .ok (.getfield 27, 3) := by decide +kernel
theorem dX4_liesFirst_7 : decode cX4_liesFirst 7 = .ok (.iload_n 2, 1) := by decide +kernel
theorem dX4_liesFirst_8 : decode cX4_liesFirst 8 = .ok (.iaload, 1) := by decide +kernel
theorem dX4_liesFirst_9 : decode cX4_liesFirst 9 = .ok (.if_icmp .ge 26, 3) := by decide +kernel
theorem dX4_liesFirst_12 : decode cX4_liesFirst 12 = .ok (.aload_n 0, 1) := by decide +kernel
theorem dX4_liesFirst_13 : decode cX4_liesFirst 13 = .ok (.getfield 24, 3) := by decide +kernel
theorem dX4_liesFirst_16 : decode cX4_liesFirst 16 = .ok (.iload_n 2, 1) := by decide +kernel
theorem dX4_liesFirst_17 : decode cX4_liesFirst 17 = .ok (.bipush 16, 2) := by decide +kernel
theorem dX4_liesFirst_19 : decode cX4_liesFirst 19 = .ok (.imul, 1) := by decide +kernel
theorem dX4_liesFirst_20 : decode cX4_liesFirst 20 = .ok (.iload_n 3, 1) := by decide +kernel
theorem dX4_liesFirst_21 : decode cX4_liesFirst 21 = .ok (.iadd, 1) := by decide +kernel
theorem dX4_liesFirst_22 : decode cX4_liesFirst 22 = .ok (.iaload, 1) := by decide +kernel
theorem dX4_liesFirst_23 : decode cX4_liesFirst 23 = .ok (.iload_n 1, 1) := by decide +kernel
theorem dX4_liesFirst_24 : decode cX4_liesFirst 24 = .ok (.if_icmp .ne 5, 3) := by decide +kernel
theorem dX4_liesFirst_27 : decode cX4_liesFirst 27 = .ok (.iconst 1, 1) := by decide +kernel
theorem dX4_liesFirst_28 : decode cX4_liesFirst 28 = .ok (.ireturn, 1) := by decide +kernel
theorem dX4_liesFirst_29 : decode cX4_liesFirst 29 = .ok (.iinc 3 1, 3) := by decide +kernel
theorem dX4_liesFirst_32 : decode cX4_liesFirst 32 = .ok (.goto (-30), 3) := by decide +kernel
theorem dX4_liesFirst_35 : decode cX4_liesFirst 35 = .ok (.iconst 0, 1) := by decide +kernel
theorem dX4_liesFirst_36 : decode cX4_liesFirst 36 = .ok (.ireturn, 1) := by decide +kernel
theorem bX4_liesFirst_0 {d : Nat} {P : Int → q_Mem → Prop} {M : q_Mem} (x0 x1 x2 : Int) (k0 : q_kd x0 = 4) (h : q_v mX4_liesFirst d (qPI P) M 2 [some (qR x0), some (qI x1), some (qI x2), some (qI 0)] []) : q_v mX4_liesFirst d (qPI P) M 0 [some (qR x0), some (qI x1), some (qI x2), none] [] := by
  refine qr_iconst 0 1 rfl (q_l32 _ rfl) dX4_liesFirst_0 ?_
  refine qr_istore_n 1 2 rfl (by decide) rfl rfl dX4_liesFirst_1 ?_
  exact h
theorem bX4_liesFirst_2 {d : Nat} {P : Int → q_Mem → Prop} {M : q_Mem} (x0 x1 x2 x3 : Int) (k0 : q_kd x0 = 4) (h : (0 ≤ x2 ∧ x2 < (10 : Int)) ∧ ((((M (q_lay x0 9) x2) ≤ x3) → P 0 M) ∧ ((¬ ((M (q_lay x0 9) x2) ≤ x3)) → (0 ≤ (q_add (q_mul x2 16) x3) ∧ (q_add (q_mul x2 16) x3) < (160 : Int)) ∧ (((¬ (M (q_lay x0 8) (q_add (q_mul x2 16) x3)) = x1) → q_v mX4_liesFirst d (qPI P) M 2 [some (qR x0), some (qI x1), some (qI x2), some (qI (q_add x3 1))] []) ∧ (((M (q_lay x0 8) (q_add (q_mul x2 16) x3)) = x1) → P 1 M))))) : q_v mX4_liesFirst d (qPI P) M 2 [some (qR x0), some (qI x1), some (qI x2), some (qI x3)] [] := by
  refine qr_iload_n 2 3 rfl (x := x3) rfl dX4_liesFirst_2 ?_
  refine qr_aload_n 3 4 rfl (x := x0) rfl dX4_liesFirst_3 ?_
  refine qr_getF 4 7 rfl ck4 9 (by decide) (b := (q_lay x0 9)) k0 rfl (by decide +kernel) rfl wm_87 rfl dX4_liesFirst_4 ?_
  refine qr_iload_n 7 8 rfl (x := x2) rfl dX4_liesFirst_7 ?_
  have hb1 := h.1
  have h := h.2
  refine qi_ld 8 9 rfl (N := 10) (lk4_9 _ k0) (ll4_9 _ k0) hb1.1 hb1.2 dX4_liesFirst_8 ?_
  refine qr_icmp_ge 9 12 35 rfl (by decide) dX4_liesFirst_9 (fun c9 => ?_) (fun c9 => ?_)
  · have h := h.1 c9
    refine qr_iconst 35 36 rfl (q_l32 _ rfl) dX4_liesFirst_35 ?_
    exact qe_z 36 rfl (by decide) dX4_liesFirst_36 h
  · have h := h.2 c9
    refine qr_aload_n 12 13 rfl (x := x0) rfl dX4_liesFirst_12 ?_
    refine qr_getF 13 16 rfl ck4 8 (by decide) (b := (q_lay x0 8)) k0 rfl (by decide +kernel) rfl wm_86 rfl dX4_liesFirst_13 ?_
    refine qr_iload_n 16 17 rfl (x := x2) rfl dX4_liesFirst_16 ?_
    refine qr_bipush 17 19 rfl (q_l32 _ rfl) (by decide) dX4_liesFirst_17 ?_
    refine qr_imul 19 20 rfl dX4_liesFirst_19 ?_
    refine qr_iload_n 20 21 rfl (x := x3) rfl dX4_liesFirst_20 ?_
    refine qr_iadd 21 22 rfl dX4_liesFirst_21 ?_
    have hb2 := h.1
    have h := h.2
    refine qi_ld 22 23 rfl (N := 160) (lk4_8 _ k0) (ll4_8 _ k0) hb2.1 hb2.2 dX4_liesFirst_22 ?_
    refine qr_iload_n 23 24 rfl (x := x1) rfl dX4_liesFirst_23 ?_
    refine qr_icmp_ne 24 27 29 rfl (by decide) dX4_liesFirst_24 (fun c24 => ?_) (fun c24 => ?_)
    · have h := h.1 c24
      refine qr_iinc 29 32 rfl (by decide) (x := x3) rfl rfl rfl dX4_liesFirst_29 ?_
      refine qr_goto 32 2 (by decide) dX4_liesFirst_32 ?_
      exact h
    · have h := h.2 c24
      refine qr_iconst 27 28 rfl (q_l32 _ rfl) dX4_liesFirst_27 ?_
      exact qe_z 28 rfl (by decide) dX4_liesFirst_28 h
theorem dX4_addFirst_0 : decode cX4_addFirst 0 = .ok (.aload_n 0, 1) := by decide +kernel
theorem dX4_addFirst_1 : decode cX4_addFirst 1 = .ok (.getfield 27, 3) := by decide +kernel
theorem dX4_addFirst_4 : decode cX4_addFirst 4 = .ok (.iload_n 2, 1) := by decide +kernel
theorem dX4_addFirst_5 : decode cX4_addFirst 5 = .ok (.iaload, 1) := by decide +kernel
theorem dX4_addFirst_6 : decode cX4_addFirst 6 = .ok (.bipush 16, 2) := by decide +kernel
theorem dX4_addFirst_8 : decode cX4_addFirst 8 = .ok (.if_icmp .ge 30, 3) := by decide +kernel
theorem dX4_addFirst_11 : decode cX4_addFirst 11 = .ok (.aload_n 0, 1) := by decide +kernel
theorem dX4_addFirst_12 : decode cX4_addFirst 12 = .ok (.getfield 24, 3) := by decide +kernel
theorem dX4_addFirst_15 : decode cX4_addFirst 15 = .ok (.iload_n 2, 1) := by decide +kernel
theorem dX4_addFirst_16 : decode cX4_addFirst 16 = .ok (.bipush 16, 2) := by decide +kernel
theorem dX4_addFirst_18 : decode cX4_addFirst 18 = .ok (.imul, 1) := by decide +kernel
theorem dX4_addFirst_19 : decode cX4_addFirst 19 = .ok (.aload_n 0, 1) := by decide +kernel
theorem dX4_addFirst_20 : decode cX4_addFirst 20 = .ok (.getfield 27, 3) := by decide +kernel
theorem dX4_addFirst_23 : decode cX4_addFirst 23 = .ok (.iload_n 2, 1) := by decide +kernel
theorem dX4_addFirst_24 : decode cX4_addFirst 24 = .ok (.iaload, 1) := by decide +kernel
theorem dX4_addFirst_25 : decode cX4_addFirst 25 = .ok (.iadd, 1) := by decide +kernel
theorem dX4_addFirst_26 : decode cX4_addFirst 26 = .ok (.iload_n 1, 1) := by decide +kernel
theorem dX4_addFirst_27 : decode cX4_addFirst 27 = .ok (.iastore, 1) := by decide +kernel
theorem dX4_addFirst_28 : decode cX4_addFirst 28 = .ok (.aload_n 0, 1) := by decide +kernel
theorem dX4_addFirst_29 : decode cX4_addFirst 29 = .ok (.getfield 27, 3) := by decide +kernel
theorem dX4_addFirst_32 : decode cX4_addFirst 32 = .ok (.iload_n 2, 1) := by decide +kernel
theorem dX4_addFirst_33 : decode cX4_addFirst 33 = .ok (.dup2, 1) := by decide +kernel
theorem dX4_addFirst_34 : decode cX4_addFirst 34 = .ok (.iaload, 1) := by decide +kernel
theorem dX4_addFirst_35 : decode cX4_addFirst 35 = .ok (.iconst 1, 1) := by decide +kernel
theorem dX4_addFirst_36 : decode cX4_addFirst 36 = .ok (.iadd, 1) := by decide +kernel
theorem dX4_addFirst_37 : decode cX4_addFirst 37 = .ok (.iastore, 1) := by decide +kernel
theorem dX4_addFirst_38 : decode cX4_addFirst 38 = .ok (.return_, 1) := by decide +kernel
theorem bX4_addFirst_0 {d : Nat} {P : q_Mem → Prop} {M : q_Mem} (x0 x1 x2 : Int) (k0 : q_kd x0 = 4) (h : (0 ≤ x2 ∧ x2 < (10 : Int)) ∧ ((((16 : Int) ≤ (M (q_lay x0 9) x2)) → P M) ∧ ((¬ ((16 : Int) ≤ (M (q_lay x0 9) x2))) → (0 ≤ x2 ∧ x2 < (10 : Int)) ∧ ((0 ≤ (q_add (q_mul x2 16) (M (q_lay x0 9) x2)) ∧ (q_add (q_mul x2 16) (M (q_lay x0 9) x2)) < (160 : Int)) ∧ (∀ M4 : q_Mem, M4 = q_up M (q_lay x0 8) (q_add (q_mul x2 16) (M (q_lay x0 9) x2)) x1 → (0 ≤ x2 ∧ x2 < (10 : Int)) ∧ ((0 ≤ x2 ∧ x2 < (10 : Int)) ∧ (∀ M7 : q_Mem, M7 = q_up M4 (q_lay x0 9) x2 (q_add (M4 (q_lay x0 9) x2) 1) → P M7))))))) : q_v mX4_addFirst d (qPU P) M 0 [some (qR x0), some (qI x1), some (qI x2)] [] := by
  refine qr_aload_n 0 1 rfl (x := x0) rfl dX4_addFirst_0 ?_
  refine qr_getF 1 4 rfl ck4 9 (by decide) (b := (q_lay x0 9)) k0 rfl (by decide +kernel) rfl wm_87 rfl dX4_addFirst_1 ?_
  refine qr_iload_n 4 5 rfl (x := x2) rfl dX4_addFirst_4 ?_
  have hb1 := h.1
  have h := h.2
  refine qi_ld 5 6 rfl (N := 10) (lk4_9 _ k0) (ll4_9 _ k0) hb1.1 hb1.2 dX4_addFirst_5 ?_
  refine qr_bipush 6 8 rfl (q_l32 _ rfl) (by decide) dX4_addFirst_6 ?_
  refine qr_icmp_ge 8 11 38 rfl (by decide) dX4_addFirst_8 (fun c8 => ?_) (fun c8 => ?_)
  · have h := h.1 c8
    exact qe_u 38 rfl dX4_addFirst_38 h
  · have h := h.2 c8
    refine qr_aload_n 11 12 rfl (x := x0) rfl dX4_addFirst_11 ?_
    refine qr_getF 12 15 rfl ck4 8 (by decide) (b := (q_lay x0 8)) k0 rfl (by decide +kernel) rfl wm_86 rfl dX4_addFirst_12 ?_
    refine qr_iload_n 15 16 rfl (x := x2) rfl dX4_addFirst_15 ?_
    refine qr_bipush 16 18 rfl (q_l32 _ rfl) (by decide) dX4_addFirst_16 ?_
    refine qr_imul 18 19 rfl dX4_addFirst_18 ?_
    refine qr_aload_n 19 20 rfl (x := x0) rfl dX4_addFirst_19 ?_
    refine qr_getF 20 23 rfl ck4 9 (by decide) (b := (q_lay x0 9)) k0 rfl (by decide +kernel) rfl wm_87 rfl dX4_addFirst_20 ?_
    refine qr_iload_n 23 24 rfl (x := x2) rfl dX4_addFirst_23 ?_
    have hb2 := h.1
    have h := h.2
    refine qi_ld 24 25 rfl (N := 10) (lk4_9 _ k0) (ll4_9 _ k0) hb2.1 hb2.2 dX4_addFirst_24 ?_
    refine qr_iadd 25 26 rfl dX4_addFirst_25 ?_
    refine qr_iload_n 26 27 rfl (x := x1) rfl dX4_addFirst_26 ?_
    have hb3 := h.1
    have h := h.2
    refine qi_st 27 28 rfl (N := 160) (lk4_8 _ k0) (ll4_8 _ k0) hb3.1 hb3.2 dX4_addFirst_27 (fun M4 e_M4 => ?_)
    have h := h M4 e_M4
    refine qr_aload_n 28 29 rfl (x := x0) rfl dX4_addFirst_28 ?_
    refine qr_getF 29 32 rfl ck4 9 (by decide) (b := (q_lay x0 9)) k0 rfl (by decide +kernel) rfl wm_87 rfl dX4_addFirst_29 ?_
    refine qr_iload_n 32 33 rfl (x := x2) rfl dX4_addFirst_32 ?_
    refine qr_dup2 33 34 rfl rfl rfl dX4_addFirst_33 ?_
    have hb5 := h.1
    have h := h.2
    refine qi_ld 34 35 rfl (N := 10) (lk4_9 _ k0) (ll4_9 _ k0) hb5.1 hb5.2 dX4_addFirst_34 ?_
    refine qr_iconst 35 36 rfl (q_l32 _ rfl) dX4_addFirst_35 ?_
    refine qr_iadd 36 37 rfl dX4_addFirst_36 ?_
    have hb6 := h.1
    have h := h.2
    refine qi_st 37 38 rfl (N := 10) (lk4_9 _ k0) (ll4_9 _ k0) hb6.1 hb6.2 dX4_addFirst_37 (fun M7 e_M7 => ?_)
    have h := h M7 e_M7
    exact qe_u 38 rfl dX4_addFirst_38 h
theorem dX4_layOut_0 : decode cX4_layOut 0 = .ok (.aload_n 1, 1) := by decide +kernel
theorem dX4_layOut_1 : decode cX4_layOut 1 = .ok (.aload_n 0, 1) := by decide +kernel
theorem dX4_layOut_2 : decode cX4_layOut 2 = .ok (.getfield 50, 3) := by decide +kernel
theorem dX4_layOut_5 : decode cX4_layOut 5 = .ok (.putfield 72, 3) := by decide +kernel
theorem dX4_layOut_8 : decode cX4_layOut 8 = .ok (.aload_n 1, 1) := by decide +kernel
theorem dX4_layOut_9 : decode cX4_layOut 9 = .ok (.iconst 0, 1) := by decide +kernel
theorem dX4_layOut_10 : decode cX4_layOut 10 = .ok (.putfield 75, 3) := by decide +kernel
theorem dX4_layOut_13 : decode cX4_layOut 13 = .ok (.aload_n 0, 1) := by decide +kernel
theorem dX4_layOut_14 : decode cX4_layOut 14 = .ok (.getfield 18, 3) := by decide +kernel
theorem dX4_layOut_17 : decode cX4_layOut 17 = .ok (.iconst 0, 1) := by decide +kernel
theorem dX4_layOut_18 : decode cX4_layOut 18 = .ok (.aload_n 1, 1) := by decide +kernel
theorem dX4_layOut_19 : decode cX4_layOut 19 = .ok (.getfield 78, 3) := by decide +kernel
theorem dX4_layOut_22 : decode cX4_layOut 22 = .ok (.iconst 0, 1) := by decide +kernel
theorem dX4_layOut_23 : decode cX4_layOut 23 = .ok (.bipush 16, 2) := by decide +kernel
theorem dX4_layOut_25 : decode cX4_layOut 25 = .ok (.invokestatic 62, 3) := by decide +kernel
theorem dX4_layOut_28 : decode cX4_layOut 28 = .ok (.iconst 0, 1) := by decide +kernel
theorem dX4_layOut_29 : decode cX4_layOut 29 = .ok (.istore_n 2, 1) := by decide +kernel
theorem dX4_layOut_30 : decode cX4_layOut 30 = .ok (.iload_n 2, 1) := by decide +kernel
theorem dX4_layOut_31 : decode cX4_layOut 31 = .ok (.aload_n 0, 1) := by decide +kernel
theorem dX4_layOut_32 : decode cX4_layOut 32 = .ok (.getfield 40, 3) := by decide +kernel
theorem dX4_layOut_35 : decode cX4_layOut 35 = .ok (.if_icmp .ge 18, 3) := by decide +kernel
theorem dX4_layOut_38 : decode cX4_layOut 38 = .ok (.aload_n 0, 1) := by decide +kernel
theorem dX4_layOut_39 : decode cX4_layOut 39 = .ok (.iload_n 2, 1) := by decide +kernel
theorem dX4_layOut_40 : decode cX4_layOut 40 = .ok (.aload_n 1, 1) := by decide +kernel
theorem dX4_layOut_41 : decode cX4_layOut 41 = .ok (.getfield 81, 3) := by decide +kernel
theorem dX4_layOut_44 : decode cX4_layOut 44 = .ok (.invokevirtual 84, 3) := by decide +kernel
theorem dX4_layOut_47 : decode cX4_layOut 47 = .ok (.iinc 2 1, 3) := by decide +kernel
theorem dX4_layOut_50 : decode cX4_layOut 50 = .ok (.goto (-20), 3) := by decide +kernel
theorem dX4_layOut_53 : decode cX4_layOut 53 = .ok (.return_, 1) := by decide +kernel
theorem bX4_layOut_0 {d : Nat} {P : q_Mem → Prop} {M : q_Mem} (x0 x1 : Int) (k0 : q_kd x0 = 4) (k1 : q_kd x1 = 7) (h : (∀ M1 : q_Mem, M1 = q_up M x1 0 (M x0 3) → (∀ M2 : q_Mem, M2 = q_up M1 x1 1 0 → ((0 ≤ (0 : Int) ∧ 0 ≤ (0 : Int) ∧ 0 ≤ (16 : Int)) ∧ ((0 : Int) + 16 ≤ 16 ∧ (0 : Int) + 16 ≤ 16) ∧ 1 ≤ d) ∧ (∀ M4 : q_Mem, M4 = q_cp M2 (q_lay x0 6) 0 (q_lay x1 2) 0 16 → q_v mX4_layOut d (qPU P) M4 30 [some (qR x0), some (qR x1), some (qI 0)] [])))) : q_v mX4_layOut d (qPU P) M 0 [some (qR x0), some (qR x1), none] [] := by
  refine qr_aload_n 0 1 rfl (x := x1) rfl dX4_layOut_0 ?_
  refine qr_aload_n 1 2 rfl (x := x0) rfl dX4_layOut_1 ?_
  refine qg_i 2 5 rfl ck4 3 (kk := 3) (by decide) k0 (by decide +kernel) rfl wm_72 rfl dX4_layOut_2 ?_
  refine qp_i 5 8 rfl ck7 0 (kk := 0) (by decide) k1 (by decide) rfl rfl wm_166 rfl dX4_layOut_5 (fun M1 e_M1 => ?_)
  have h := h M1 e_M1
  refine qr_aload_n 8 9 rfl (x := x1) rfl dX4_layOut_8 ?_
  refine qr_iconst 9 10 rfl (q_l32 _ rfl) dX4_layOut_9 ?_
  refine qp_i 10 13 rfl ck7 1 (kk := 1) (by decide) k1 (by decide) rfl rfl wm_169 rfl dX4_layOut_10 (fun M2 e_M2 => ?_)
  have h := h M2 e_M2
  refine qr_aload_n 13 14 rfl (x := x0) rfl dX4_layOut_13 ?_
  refine qr_getF 14 17 rfl ck4 6 (by decide) (b := (q_lay x0 6)) k0 rfl (by decide +kernel) rfl wm_82 rfl dX4_layOut_14 ?_
  refine qr_iconst 17 18 rfl (q_l32 _ rfl) dX4_layOut_17 ?_
  refine qr_aload_n 18 19 rfl (x := x1) rfl dX4_layOut_18 ?_
  refine qr_getF 19 22 rfl ck7 2 (by decide) (b := (q_lay x1 2)) k1 rfl (by decide +kernel) rfl wm_172 rfl dX4_layOut_19 ?_
  refine qr_iconst 22 23 rfl (q_l32 _ rfl) dX4_layOut_22 ?_
  refine qr_bipush 23 25 rfl (q_l32 _ rfl) (by decide) dX4_layOut_23 ?_
  have hb3 := h.1
  have h := h.2
  refine qr_copy 25 28 rfl (N1 := 16) (N2 := 16) (lk4_6 _ k0) (lk7_2 _ k1) (ll4_6 _ k0) (ll7_2 _ k1) hb3.1.1 hb3.1.2.1 hb3.1.2.2 hb3.2.1.1 hb3.2.1.2 hb3.2.2 (Nat.le_of_ble_eq_true rfl) wm_728 dX4_layOut_25 (fun M4 e_M4 => ?_)
  have h := h M4 e_M4
  refine qr_iconst 28 29 rfl (q_l32 _ rfl) dX4_layOut_28 ?_
  refine qr_istore_n 29 30 rfl (by decide) rfl rfl dX4_layOut_29 ?_
  exact h
theorem bX4_layOut_30 {d : Nat} {P : q_Mem → Prop} {M : q_Mem} (x0 x1 x2 : Int) (k0 : q_kd x0 = 4) (k1 : q_kd x1 = 7) (h : (((M x0 0) ≤ x2) → P M) ∧ ((¬ ((M x0 0) ≤ x2)) → q_kU yX4_layRound mX4_layRound d [qR x0, qI x2, qR (q_lay x1 3)] M (fun M1 => q_v mX4_layOut d (qPU P) M1 30 [some (qR x0), some (qR x1), some (qI (q_add x2 1))] []))) : q_v mX4_layOut d (qPU P) M 30 [some (qR x0), some (qR x1), some (qI x2)] [] := by
  refine qr_iload_n 30 31 rfl (x := x2) rfl dX4_layOut_30 ?_
  refine qr_aload_n 31 32 rfl (x := x0) rfl dX4_layOut_31 ?_
  refine qg_i 32 35 rfl ck4 0 (kk := 0) (by decide) k0 (by decide +kernel) rfl wm_59 rfl dX4_layOut_32 ?_
  refine qr_icmp_ge 35 38 53 rfl (by decide) dX4_layOut_35 (fun c35 => ?_) (fun c35 => ?_)
  · have h := h.1 c35
    exact qe_u 53 rfl dX4_layOut_53 h
  · have h := h.2 c35
    refine qr_aload_n 38 39 rfl (x := x0) rfl dX4_layOut_38 ?_
    refine qr_iload_n 39 40 rfl (x := x2) rfl dX4_layOut_39 ?_
    refine qr_aload_n 40 41 rfl (x := x1) rfl dX4_layOut_40 ?_
    refine qr_getF 41 44 rfl ck7 3 (by decide) (b := (q_lay x1 3)) k1 rfl (by decide +kernel) rfl wm_176 rfl dX4_layOut_41 ?_
    refine qw_U 44 47 rfl (av := [qI x2, qR (q_lay x1 3)]) ca_X4_layRound wm_733 wp_27 wm_731 ck4 k0 rfl rfl (Nat.le_of_ble_eq_true rfl) dX4_layOut_44 h (fun M1 h => ?_)
    refine qr_iinc 47 50 rfl (by decide) (x := x2) rfl rfl rfl dX4_layOut_47 ?_
    refine qr_goto 50 30 (by decide) dX4_layOut_50 ?_
    exact h
theorem dX4_layRound_0 : decode cX4_layRound 0 = .ok (.iload_n 1, 1) := by decide +kernel
theorem dX4_layRound_1 : decode cX4_layRound 1 = .ok (.bipush 16, 2) := by decide +kernel
theorem dX4_layRound_3 : decode cX4_layRound 3 = .ok (.imul, 1) := by decide +kernel
theorem dX4_layRound_4 : decode cX4_layRound 4 = .ok (.istore_n 3, 1) := by decide +kernel
theorem dX4_layRound_5 : decode cX4_layRound 5 = .ok (.aload_n 0, 1) := by decide +kernel
theorem dX4_layRound_6 : decode cX4_layRound 6 = .ok (.getfield 24, 3) := by decide +kernel
theorem dX4_layRound_9 : decode cX4_layRound 9 = .ok (.iload_n 3, 1) := by decide +kernel
theorem dX4_layRound_10 : decode cX4_layRound 10 = .ok (.aload_n 2, 1) := by decide +kernel
theorem dX4_layRound_11 : decode cX4_layRound 11 = .ok (.iload_n 3, 1) := by decide +kernel
theorem dX4_layRound_12 : decode cX4_layRound 12 = .ok (.aload_n 0, 1) := by decide +kernel
theorem dX4_layRound_13 : decode cX4_layRound 13 = .ok (.getfield 27, 3) := by decide +kernel
theorem dX4_layRound_16 : decode cX4_layRound 16 = .ok (.iload_n 1, 1) := by decide +kernel
theorem dX4_layRound_17 : decode cX4_layRound 17 = .ok (.iaload, 1) := by decide +kernel
theorem dX4_layRound_18 : decode cX4_layRound 18 = .ok (.invokestatic 62, 3) := by decide +kernel
theorem dX4_layRound_21 : decode cX4_layRound 21 = .ok (.aload_n 0, 1) := by decide +kernel
theorem dX4_layRound_22 : decode cX4_layRound 22 = .ok (.getfield 27, 3) := by decide +kernel
theorem dX4_layRound_25 : decode cX4_layRound 25 = .ok (.iload_n 1, 1) := by decide +kernel
theorem dX4_layRound_26 : decode cX4_layRound 26 = .ok (.iaload, 1) := by decide +kernel
theorem dX4_layRound_27 : decode cX4_layRound 27 = .ok (.istore 4, 2) := by decide +kernel
theorem dX4_layRound_29 : decode cX4_layRound 29 = .ok (.iconst 0, 1) := by decide +kernel
theorem dX4_layRound_30 : decode cX4_layRound 30 = .ok (.istore 5, 2) := by decide +kernel
theorem dX4_layRound_32 : decode cX4_layRound 32 = .ok (.iload 5, 2) := by decide +kernel
theorem dX4_layRound_34 : decode cX4_layRound 34 = .ok (.aload_n 0, 1) := by decide +kernel
theorem dX4_layRound_35 : decode cX4_layRound 35 = .ok (.getfield 44, 3) := by decide +kernel
theorem dX4_layRound_38 : decode cX4_layRound 38 = .ok (.if_icmp .ge 47, 3) := by decide +kernel
theorem dX4_layRound_41 : decode cX4_layRound 41 = .ok (.iload 4, 2) := by decide +kernel
theorem dX4_layRound_43 : decode cX4_layRound 43 = .ok (.bipush 16, 2) := by decide +kernel
theorem dX4_layRound_45 : decode cX4_layRound 45 = .ok (.if_icmp .ge 40, 3) := by decide +kernel
theorem dX4_layRound_48 : decode cX4_layRound 48 = .ok (.aload_n 0, 1) := by decide +kernel
theorem dX4_layRound_49 : decode cX4_layRound 49 = .ok (.iload 5, 2) := by decide +kernel
theorem dX4_layRound_51 : decode cX4_layRound 51 = .ok (.iload_n 1, 1) := by decide +kernel
theorem dX4_layRound_52 : decode cX4_layRound 52 = .ok (.invokevirtual 88, 3) := by decide +kernel
theorem dX4_layRound_55 : decode cX4_layRound 55 = .ok (.ifCond .eq 24, 3) := by decide +kernel
theorem dX4_layRound_58 : decode cX4_layRound 58 = .ok (.aload_n 0, 1) := by decide +kernel
theorem dX4_layRound_59 : decode cX4_layRound 59 = .ok (.iload 5, 2) := by decide +kernel
theorem dX4_layRound_61 : decode cX4_layRound 61 = .ok (.iload_n 1, 1) := by decide +kernel
theorem dX4_layRound_62 : decode cX4_layRound 62 = .ok (.invokevirtual 92, 3) := by decide +kernel
theorem dX4_layRound_65 : decode cX4_layRound 65 = .ok (.ifCond .ne 14, 3) := by decide +kernel
theorem dX4_layRound_68 : decode cX4_layRound 68 = .ok (.aload_n 2, 1) := by decide +kernel
theorem dX4_layRound_69 : decode cX4_layRound 69 = .ok (.iload_n 3, 1) := by decide +kernel
theorem dX4_layRound_70 : decode cX4_layRound 70 = .ok (.iload 4, 2) := by decide +kernel
theorem dX4_layRound_72 : decode cX4_layRound 72 = .ok (.iadd, 1) := by decide +kernel
theorem dX4_layRound_73 : decode cX4_layRound 73 = .ok (.iload 5, 2) := by decide +kernel
theorem dX4_layRound_75 : decode cX4_layRound 75 = .ok (.iastore, 1) := by decide +kernel
theorem dX4_layRound_76 : decode cX4_layRound 76 = .ok (.iinc 4 1, 3) := by decide +kernel
theorem dX4_layRound_79 : decode cX4_layRound 79 = .ok (.iinc 5 1, 3) := by decide +kernel
theorem dX4_layRound_82 : decode cX4_layRound 82 = .ok (.goto (-50), 3) := by decide +kernel
theorem dX4_layRound_85 : decode cX4_layRound 85 = .ok (.return_, 1) := by decide +kernel
theorem bX4_layRound_0 {d : Nat} {P : q_Mem → Prop} {M : q_Mem} (x0 x1 x2 : Int) (k0 : q_kd x0 = 4) (k2 : q_kd x2 = 14) (h : ∀ x3_1 : Int, x3_1 = (q_mul x1 16) → (0 ≤ x1 ∧ x1 < (10 : Int)) ∧ (((0 ≤ x3_1 ∧ 0 ≤ x3_1 ∧ 0 ≤ (M (q_lay x0 9) x1)) ∧ (x3_1 + (M (q_lay x0 9) x1) ≤ 160 ∧ x3_1 + (M (q_lay x0 9) x1) ≤ (q_ln x2 : Int)) ∧ 1 ≤ d) ∧ (∀ M4 : q_Mem, M4 = q_cp M (q_lay x0 8) x3_1 x2 x3_1 (M (q_lay x0 9) x1) → (0 ≤ x1 ∧ x1 < (10 : Int)) ∧ (∀ x4_6 : Int, x4_6 = (M4 (q_lay x0 9) x1) → q_v mX4_layRound d (qPU P) M4 32 [some (qR x0), some (qI x1), some (qR x2), some (qI x3_1), some (qI x4_6), some (qI 0)] [])))) : q_v mX4_layRound d (qPU P) M 0 [some (qR x0), some (qI x1), some (qR x2), none, none, none] [] := by
  refine qr_iload_n 0 1 rfl (x := x1) rfl dX4_layRound_0 ?_
  refine qr_bipush 1 3 rfl (q_l32 _ rfl) (by decide) dX4_layRound_1 ?_
  refine qr_imul 3 4 rfl dX4_layRound_3 ?_
  refine qn_i 4 (fun x3_1 e_x3_1 => ?_)
  have h := h x3_1 e_x3_1
  refine qr_istore_n 4 5 rfl (by decide) rfl rfl dX4_layRound_4 ?_
  refine qr_aload_n 5 6 rfl (x := x0) rfl dX4_layRound_5 ?_
  refine qr_getF 6 9 rfl ck4 8 (by decide) (b := (q_lay x0 8)) k0 rfl (by decide +kernel) rfl wm_86 rfl dX4_layRound_6 ?_
  refine qr_iload_n 9 10 rfl (x := x3_1) rfl dX4_layRound_9 ?_
  refine qr_aload_n 10 11 rfl (x := x2) rfl dX4_layRound_10 ?_
  refine qr_iload_n 11 12 rfl (x := x3_1) rfl dX4_layRound_11 ?_
  refine qr_aload_n 12 13 rfl (x := x0) rfl dX4_layRound_12 ?_
  refine qr_getF 13 16 rfl ck4 9 (by decide) (b := (q_lay x0 9)) k0 rfl (by decide +kernel) rfl wm_87 rfl dX4_layRound_13 ?_
  refine qr_iload_n 16 17 rfl (x := x1) rfl dX4_layRound_16 ?_
  have hb2 := h.1
  have h := h.2
  refine qi_ld 17 18 rfl (N := 10) (lk4_9 _ k0) (ll4_9 _ k0) hb2.1 hb2.2 dX4_layRound_17 ?_
  have hb3 := h.1
  have h := h.2
  refine qr_copy 18 21 rfl (N1 := 160) (lk4_8 _ k0) k2 (ll4_8 _ k0) rfl hb3.1.1 hb3.1.2.1 hb3.1.2.2 hb3.2.1.1 hb3.2.1.2 hb3.2.2 (Nat.le_of_ble_eq_true rfl) wm_728 dX4_layRound_18 (fun M4 e_M4 => ?_)
  have h := h M4 e_M4
  refine qr_aload_n 21 22 rfl (x := x0) rfl dX4_layRound_21 ?_
  refine qr_getF 22 25 rfl ck4 9 (by decide) (b := (q_lay x0 9)) k0 rfl (by decide +kernel) rfl wm_87 rfl dX4_layRound_22 ?_
  refine qr_iload_n 25 26 rfl (x := x1) rfl dX4_layRound_25 ?_
  have hb5 := h.1
  have h := h.2
  refine qi_ld 26 27 rfl (N := 10) (lk4_9 _ k0) (ll4_9 _ k0) hb5.1 hb5.2 dX4_layRound_26 ?_
  refine qn_i 27 (fun x4_6 e_x4_6 => ?_)
  have h := h x4_6 e_x4_6
  refine qr_istore 27 29 rfl (by decide) rfl rfl dX4_layRound_27 ?_
  refine qr_iconst 29 30 rfl (q_l32 _ rfl) dX4_layRound_29 ?_
  refine qr_istore 30 32 rfl (by decide) rfl rfl dX4_layRound_30 ?_
  exact h
theorem bX4_layRound_32 {d : Nat} {P : q_Mem → Prop} {M : q_Mem} (x0 x1 x2 x3 x4 x5 : Int) (k0 : q_kd x0 = 4) (k2 : q_kd x2 = 14) (h : (((M x0 1) ≤ x5) → P M) ∧ ((¬ ((M x0 1) ≤ x5)) → (((16 : Int) ≤ x4) → P M) ∧ ((¬ ((16 : Int) ≤ x4)) → q_kI yX4_touches mX4_touches d [qR x0, qI x5, qI x1] M (fun v2 M1 => ((v2 = 0) → q_v mX4_layRound d (qPU P) M1 32 [some (qR x0), some (qI x1), some (qR x2), some (qI x3), some (qI x4), some (qI (q_add x5 1))] []) ∧ ((¬ (v2 = 0)) → q_kI yX4_liesFirst mX4_liesFirst d [qR x0, qI x5, qI x1] M1 (fun v4 M3 => ((¬ v4 = 0) → q_v mX4_layRound d (qPU P) M3 32 [some (qR x0), some (qI x1), some (qR x2), some (qI x3), some (qI x4), some (qI (q_add x5 1))] []) ∧ ((v4 = 0) → (0 ≤ (q_add x3 x4) ∧ (q_add x3 x4) < (q_ln x2 : Int)) ∧ (∀ M6 : q_Mem, M6 = q_up M3 x2 (q_add x3 x4) x5 → q_v mX4_layRound d (qPU P) M6 32 [some (qR x0), some (qI x1), some (qR x2), some (qI x3), some (qI (q_add x4 1)), some (qI (q_add x5 1))] [])))))))) : q_v mX4_layRound d (qPU P) M 32 [some (qR x0), some (qI x1), some (qR x2), some (qI x3), some (qI x4), some (qI x5)] [] := by
  refine qr_iload 32 34 rfl (x := x5) rfl dX4_layRound_32 ?_
  refine qr_aload_n 34 35 rfl (x := x0) rfl dX4_layRound_34 ?_
  refine qg_i 35 38 rfl ck4 1 (kk := 1) (by decide) k0 (by decide +kernel) rfl wm_64 rfl dX4_layRound_35 ?_
  refine qr_icmp_ge 38 41 85 rfl (by decide) dX4_layRound_38 (fun c38 => ?_) (fun c38 => ?_)
  · have h := h.1 c38
    exact qe_u 85 rfl dX4_layRound_85 h
  · have h := h.2 c38
    refine qr_iload 41 43 rfl (x := x4) rfl dX4_layRound_41 ?_
    refine qr_bipush 43 45 rfl (q_l32 _ rfl) (by decide) dX4_layRound_43 ?_
    refine qr_icmp_ge 45 48 85 rfl (by decide) dX4_layRound_45 (fun c45 => ?_) (fun c45 => ?_)
    · have h := h.1 c45
      exact qe_u 85 rfl dX4_layRound_85 h
    · have h := h.2 c45
      refine qr_aload_n 48 49 rfl (x := x0) rfl dX4_layRound_48 ?_
      refine qr_iload 49 51 rfl (x := x5) rfl dX4_layRound_49 ?_
      refine qr_iload_n 51 52 rfl (x := x1) rfl dX4_layRound_51 ?_
      refine qw_I 52 55 rfl (av := [qI x5, qI x1]) ca_X4_touches wm_652 wm_653 wm_735 ck4 k0 rfl rfl (Nat.le_of_ble_eq_true rfl) dX4_layRound_52 h (fun v2 M1 h => ?_)
      refine qr_if_eq 55 58 79 rfl (by decide) dX4_layRound_55 (fun c55 => ?_) (fun c55 => ?_)
      · have h := h.1 c55
        refine qr_iinc 79 82 rfl (by decide) (x := x5) rfl rfl rfl dX4_layRound_79 ?_
        refine qr_goto 82 32 (by decide) dX4_layRound_82 ?_
        exact h
      · have h := h.2 c55
        refine qr_aload_n 58 59 rfl (x := x0) rfl dX4_layRound_58 ?_
        refine qr_iload 59 61 rfl (x := x5) rfl dX4_layRound_59 ?_
        refine qr_iload_n 61 62 rfl (x := x1) rfl dX4_layRound_61 ?_
        refine qw_I 62 65 rfl (av := [qI x5, qI x1]) ca_X4_liesFirst wm_656 wm_657 wm_736 ck4 k0 rfl rfl (Nat.le_of_ble_eq_true rfl) dX4_layRound_62 h (fun v4 M3 h => ?_)
        refine qr_if_ne 65 68 79 rfl (by decide) dX4_layRound_65 (fun c65 => ?_) (fun c65 => ?_)
        · have h := h.1 c65
          refine qr_iinc 79 82 rfl (by decide) (x := x5) rfl rfl rfl dX4_layRound_79 ?_
          refine qr_goto 82 32 (by decide) dX4_layRound_82 ?_
          exact h
        · have h := h.2 c65
          refine qr_aload_n 68 69 rfl (x := x2) rfl dX4_layRound_68 ?_
          refine qr_iload_n 69 70 rfl (x := x3) rfl dX4_layRound_69 ?_
          refine qr_iload 70 72 rfl (x := x4) rfl dX4_layRound_70 ?_
          refine qr_iadd 72 73 rfl dX4_layRound_72 ?_
          refine qr_iload 73 75 rfl (x := x5) rfl dX4_layRound_73 ?_
          have hb5 := h.1
          have h := h.2
          refine qi_st 75 76 rfl k2 rfl hb5.1 hb5.2 dX4_layRound_75 (fun M6 e_M6 => ?_)
          have h := h M6 e_M6
          refine qr_iinc 76 79 rfl (by decide) (x := x4) rfl rfl rfl dX4_layRound_76 ?_
          refine qr_iinc 79 82 rfl (by decide) (x := x5) rfl rfl rfl dX4_layRound_79 ?_
          refine qr_goto 82 32 (by decide) dX4_layRound_82 ?_
          exact h
theorem dX4_weightOf_0 : decode cX4_weightOf 0 = .ok (.aload_n 0, 1) := by decide +kernel
theorem dX4_weightOf_1 : decode cX4_weightOf 1 = .ok (.getfield 37, 3) := by decide +kernel
theorem dX4_weightOf_4 : decode cX4_weightOf 4 = .ok (.getfield 95, 3) := by decide +kernel
theorem dX4_weightOf_7 : decode cX4_weightOf 7 = .ok (.ifCond .le 30, 3) := by decide +kernel
theorem dX4_weightOf_10 : decode cX4_weightOf 10 = .ok (.aload_n 0, 1) := by decide +kernel
theorem dX4_weightOf_11 : decode cX4_weightOf 11 = .ok (.getfield 37, 3) := by decide +kernel
theorem dX4_weightOf_14 : decode cX4_weightOf 14 = .ok (.iload_n 2, 1) := by decide +kernel
theorem dX4_weightOf_15 : decode cX4_weightOf 15 = .ok (.aload_n 0, 1) := by decide +kernel
theorem dX4_weightOf_16 : decode cX4_weightOf 16 = .ok (.getfield 9, 3) := by decide +kernel
theorem dX4_weightOf_19 : decode cX4_weightOf 19 = .ok (.iload_n 1, 1) := by decide +kernel
theorem dX4_weightOf_20 : decode cX4_weightOf 20 = .ok (.iaload, 1) := by decide +kernel
theorem dX4_weightOf_21 : decode cX4_weightOf 21 = .ok (.aload_n 0, 1) := by decide +kernel
theorem dX4_weightOf_22 : decode cX4_weightOf 22 = .ok (.getfield 15, 3) := by decide +kernel
theorem dX4_weightOf_25 : decode cX4_weightOf 25 = .ok (.iload_n 1, 1) := by decide +kernel
theorem dX4_weightOf_26 : decode cX4_weightOf 26 = .ok (.iaload, 1) := by decide +kernel
theorem dX4_weightOf_27 : decode cX4_weightOf 27 = .ok (.iload_n 1, 1) := by decide +kernel
theorem dX4_weightOf_28 : decode cX4_weightOf 28 = .ok (.iload_n 3, 1) := by decide +kernel
theorem dX4_weightOf_29 : decode cX4_weightOf 29 = .ok (.invokevirtual 98, 3) := by decide +kernel
theorem dX4_weightOf_32 : decode cX4_weightOf 32 = .ok (.ifCond .ne 5, 3) := by decide +kernel
theorem dX4_weightOf_35 : decode cX4_weightOf 35 = .ok (.iconst 0, 1) := by decide +kernel
theorem dX4_weightOf_36 : decode cX4_weightOf 36 = .ok (.ireturn, 1) := by decide +kernel
theorem dX4_weightOf_37 : decode cX4_weightOf 37 = .ok (.aload_n 0, 1) := by decide +kernel
theorem dX4_weightOf_38 : decode cX4_weightOf 38 = .ok (.getfield 33, 3) := by decide +kernel
theorem dX4_weightOf_41 : decode cX4_weightOf 41 = .ok (.getfield 95, 3) := by decide +kernel
theorem dX4_weightOf_44 : decode cX4_weightOf 44 = .ok (.ifCond .ne 5, 3) := by decide +kernel
theorem dX4_weightOf_47 : decode cX4_weightOf 47 = .ok (.iload_n 2, 1) := by decide +kernel
theorem dX4_weightOf_48 : decode cX4_weightOf 48 = .ok (.ireturn, 1) := by decide +kernel
theorem dX4_weightOf_49 : decode cX4_weightOf 49 = .ok (.aload_n 0, 1) := by decide +kernel
theorem dX4_weightOf_50 : decode cX4_weightOf 50 = .ok (.getfield 33, 3) := by decide +kernel
theorem dX4_weightOf_53 : decode cX4_weightOf 53 = .ok (.iload_n 2, 1) := by decide +kernel
theorem dX4_weightOf_54 : decode cX4_weightOf 54 = .ok (.aload_n 0, 1) := by decide +kernel
theorem dX4_weightOf_55 : decode cX4_weightOf 55 = .ok (.getfield 9, 3) := by decide +kernel
theorem dX4_weightOf_58 : decode cX4_weightOf 58 = .ok (.iload_n 1, 1) := by decide +kernel
theorem dX4_weightOf_59 : decode cX4_weightOf 59 = .ok (.iaload, 1) := by decide +kernel
theorem dX4_weightOf_60 : decode cX4_weightOf 60 = .ok (.aload_n 0, 1) := by decide +kernel
theorem dX4_weightOf_61 : decode cX4_weightOf 61 = .ok (.getfield 15, 3) := by decide +kernel
theorem dX4_weightOf_64 : decode cX4_weightOf 64 = .ok (.iload_n 1, 1) := by decide +kernel
theorem dX4_weightOf_65 : decode cX4_weightOf 65 = .ok (.iaload, 1) := by decide +kernel
theorem dX4_weightOf_66 : decode cX4_weightOf 66 = .ok (.iload_n 1, 1) := by decide +kernel
theorem dX4_weightOf_67 : decode cX4_weightOf 67 = .ok (.iload_n 3, 1) := by decide +kernel
theorem dX4_weightOf_68 : decode cX4_weightOf 68 = .ok (.invokevirtual 98, 3) := by decide +kernel
theorem dX4_weightOf_71 : decode cX4_weightOf 71 = .ok (.istore 4, 2) := by decide +kernel
theorem dX4_weightOf_73 : decode cX4_weightOf 73 = .ok (.bipush (-99), 2) := by decide +kernel
theorem dX4_weightOf_75 : decode cX4_weightOf 75 = .ok (.bipush 99, 2) := by decide +kernel
theorem dX4_weightOf_77 : decode cX4_weightOf 77 = .ok (.iload 4, 2) := by decide +kernel
theorem dX4_weightOf_79 : decode cX4_weightOf 79 = .ok (.invokestatic 102, 3) := by decide +kernel
theorem dX4_weightOf_82 : decode cX4_weightOf 82 = .ok (.invokestatic 108, 3) := by decide +kernel
theorem dX4_weightOf_85 : decode cX4_weightOf 85 = .ok (.ireturn, 1) := by decide +kernel
theorem bX4_weightOf_0 {d : Nat} {P : Int → q_Mem → Prop} {M : q_Mem} (x0 x1 x2 x3 : Int) (k0 : q_kd x0 = 4) (h : (((M (q_lay x0 11) 0) ≤ 0) → q_v mX4_weightOf d (qPI P) M 37 [some (qR x0), some (qI x1), some (qI x2), some (qI x3), none] []) ∧ ((¬ ((M (q_lay x0 11) 0) ≤ 0)) → (0 ≤ x1 ∧ x1 < (16 : Int)) ∧ ((0 ≤ x1 ∧ x1 < (16 : Int)) ∧ (q_kI yX2_value mX2_value d [qR (q_lay x0 11), qI x2, qI (M (q_lay x0 4) x1), qI (M (q_lay x0 5) x1), qI x1, qI x3] M (fun v4 M3 => ((¬ v4 = 0) → q_v mX4_weightOf d (qPI P) M3 37 [some (qR x0), some (qI x1), some (qI x2), some (qI x3), none] []) ∧ ((v4 = 0) → P 0 M3)))))) : q_v mX4_weightOf d (qPI P) M 0 [some (qR x0), some (qI x1), some (qI x2), some (qI x3), none] [] := by
  refine qr_aload_n 0 1 rfl (x := x0) rfl dX4_weightOf_0 ?_
  refine qr_getF 1 4 rfl ck4 11 (by decide) (b := (q_lay x0 11)) k0 rfl (by decide +kernel) rfl wm_91 rfl dX4_weightOf_1 ?_
  refine qg_i 4 7 rfl ck2 0 (kk := 0) (by decide) (lk4_11 _ k0) (by decide +kernel) rfl wm_44 rfl dX4_weightOf_4 ?_
  refine qr_if_le 7 10 37 rfl (by decide) dX4_weightOf_7 (fun c7 => ?_) (fun c7 => ?_)
  · have h := h.1 c7
    exact h
  · have h := h.2 c7
    refine qr_aload_n 10 11 rfl (x := x0) rfl dX4_weightOf_10 ?_
    refine qr_getF 11 14 rfl ck4 11 (by decide) (b := (q_lay x0 11)) k0 rfl (by decide +kernel) rfl wm_91 rfl dX4_weightOf_11 ?_
    refine qr_iload_n 14 15 rfl (x := x2) rfl dX4_weightOf_14 ?_
    refine qr_aload_n 15 16 rfl (x := x0) rfl dX4_weightOf_15 ?_
    refine qr_getF 16 19 rfl ck4 4 (by decide) (b := (q_lay x0 4)) k0 rfl (by decide +kernel) rfl wm_74 rfl dX4_weightOf_16 ?_
    refine qr_iload_n 19 20 rfl (x := x1) rfl dX4_weightOf_19 ?_
    have hb1 := h.1
    have h := h.2
    refine qi_ld 20 21 rfl (N := 16) (lk4_4 _ k0) (ll4_4 _ k0) hb1.1 hb1.2 dX4_weightOf_20 ?_
    refine qr_aload_n 21 22 rfl (x := x0) rfl dX4_weightOf_21 ?_
    refine qr_getF 22 25 rfl ck4 5 (by decide) (b := (q_lay x0 5)) k0 rfl (by decide +kernel) rfl wm_78 rfl dX4_weightOf_22 ?_
    refine qr_iload_n 25 26 rfl (x := x1) rfl dX4_weightOf_25 ?_
    have hb2 := h.1
    have h := h.2
    refine qi_ld 26 27 rfl (N := 16) (lk4_5 _ k0) (ll4_5 _ k0) hb2.1 hb2.2 dX4_weightOf_26 ?_
    refine qr_iload_n 27 28 rfl (x := x1) rfl dX4_weightOf_27 ?_
    refine qr_iload_n 28 29 rfl (x := x3) rfl dX4_weightOf_28 ?_
    refine qw_I 29 32 rfl (av := [qI x2, qI (M (q_lay x0 4) x1), qI (M (q_lay x0 5) x1), qI x1, qI x3]) ca_X2_value wm_802 wm_803 wm_801 ck2 (lk4_11 _ k0) rfl rfl (Nat.le_of_ble_eq_true rfl) dX4_weightOf_29 h (fun v4 M3 h => ?_)
    refine qr_if_ne 32 35 37 rfl (by decide) dX4_weightOf_32 (fun c32 => ?_) (fun c32 => ?_)
    · have h := h.1 c32
      exact h
    · have h := h.2 c32
      refine qr_iconst 35 36 rfl (q_l32 _ rfl) dX4_weightOf_35 ?_
      exact qe_i 36 rfl dX4_weightOf_36 h
theorem bX4_weightOf_37 {d : Nat} {P : Int → q_Mem → Prop} {M : q_Mem} (x0 x1 x2 x3 : Int) (k0 : q_kd x0 = 4) (h : ((¬ (M (q_lay x0 10) 0) = 0) → (0 ≤ x1 ∧ x1 < (16 : Int)) ∧ ((0 ≤ x1 ∧ x1 < (16 : Int)) ∧ (q_kI yX2_value mX2_value d [qR (q_lay x0 10), qI x2, qI (M (q_lay x0 4) x1), qI (M (q_lay x0 5) x1), qI x1, qI x3] M (fun v4 M3 => q_kI yJ9_min_7cf53 mJ9_min_7cf53 d [qI 99, qI v4] M3 (fun v6 M5 => q_kI yJ9_max_7cf53 mJ9_max_7cf53 d [qI (-99), qI v6] M5 (fun v8 M7 => P v8 M7)))))) ∧ (((M (q_lay x0 10) 0) = 0) → P x2 M)) : q_v mX4_weightOf d (qPI P) M 37 [some (qR x0), some (qI x1), some (qI x2), some (qI x3), none] [] := by
  refine qr_aload_n 37 38 rfl (x := x0) rfl dX4_weightOf_37 ?_
  refine qr_getF 38 41 rfl ck4 10 (by decide) (b := (q_lay x0 10)) k0 rfl (by decide +kernel) rfl wm_90 rfl dX4_weightOf_38 ?_
  refine qg_i 41 44 rfl ck2 0 (kk := 0) (by decide) (lk4_10 _ k0) (by decide +kernel) rfl wm_44 rfl dX4_weightOf_41 ?_
  refine qr_if_ne 44 47 49 rfl (by decide) dX4_weightOf_44 (fun c44 => ?_) (fun c44 => ?_)
  · have h := h.1 c44
    refine qr_aload_n 49 50 rfl (x := x0) rfl dX4_weightOf_49 ?_
    refine qr_getF 50 53 rfl ck4 10 (by decide) (b := (q_lay x0 10)) k0 rfl (by decide +kernel) rfl wm_90 rfl dX4_weightOf_50 ?_
    refine qr_iload_n 53 54 rfl (x := x2) rfl dX4_weightOf_53 ?_
    refine qr_aload_n 54 55 rfl (x := x0) rfl dX4_weightOf_54 ?_
    refine qr_getF 55 58 rfl ck4 4 (by decide) (b := (q_lay x0 4)) k0 rfl (by decide +kernel) rfl wm_74 rfl dX4_weightOf_55 ?_
    refine qr_iload_n 58 59 rfl (x := x1) rfl dX4_weightOf_58 ?_
    have hb1 := h.1
    have h := h.2
    refine qi_ld 59 60 rfl (N := 16) (lk4_4 _ k0) (ll4_4 _ k0) hb1.1 hb1.2 dX4_weightOf_59 ?_
    refine qr_aload_n 60 61 rfl (x := x0) rfl dX4_weightOf_60 ?_
    refine qr_getF 61 64 rfl ck4 5 (by decide) (b := (q_lay x0 5)) k0 rfl (by decide +kernel) rfl wm_78 rfl dX4_weightOf_61 ?_
    refine qr_iload_n 64 65 rfl (x := x1) rfl dX4_weightOf_64 ?_
    have hb2 := h.1
    have h := h.2
    refine qi_ld 65 66 rfl (N := 16) (lk4_5 _ k0) (ll4_5 _ k0) hb2.1 hb2.2 dX4_weightOf_65 ?_
    refine qr_iload_n 66 67 rfl (x := x1) rfl dX4_weightOf_66 ?_
    refine qr_iload_n 67 68 rfl (x := x3) rfl dX4_weightOf_67 ?_
    refine qw_I 68 71 rfl (av := [qI x2, qI (M (q_lay x0 4) x1), qI (M (q_lay x0 5) x1), qI x1, qI x3]) ca_X2_value wm_802 wm_803 wm_801 ck2 (lk4_10 _ k0) rfl rfl (Nat.le_of_ble_eq_true rfl) dX4_weightOf_68 h (fun v4 M3 h => ?_)
    refine qr_istore 71 73 rfl (by decide) rfl rfl dX4_weightOf_71 ?_
    refine qr_bipush 73 75 rfl (q_l32 _ rfl) (by decide) dX4_weightOf_73 ?_
    refine qr_bipush 75 77 rfl (q_l32 _ rfl) (by decide) dX4_weightOf_75 ?_
    refine qr_iload 77 79 rfl (x := v4) rfl dX4_weightOf_77 ?_
    refine qs_I 79 82 rfl (av := [qI 99, qI v4]) ca_J9_min_7cf53 wm_452 wm_820 rfl rfl (Nat.le_of_ble_eq_true rfl) dX4_weightOf_79 h (fun v6 M5 h => ?_)
    refine qs_I 82 85 rfl (av := [qI (-99), qI v6]) ca_J9_max_7cf53 wm_520 wm_821 rfl rfl (Nat.le_of_ble_eq_true rfl) dX4_weightOf_82 h (fun v8 M7 h => ?_)
    exact qe_i 85 rfl dX4_weightOf_85 h
  · have h := h.2 c44
    refine qr_iload_n 47 48 rfl (x := x2) rfl dX4_weightOf_47 ?_
    exact qe_i 48 rfl dX4_weightOf_48 h
theorem dX6_workOut_0 : decode cX6_workOut 0 = .ok (.iconst 0, 1) := by decide +kernel
theorem dX6_workOut_1 : decode cX6_workOut 1 = .ok (.istore_n 3, 1) := by decide +kernel
theorem dX6_workOut_2 : decode cX6_workOut 2 = .ok (.iconst 0, 1) := by decide +kernel
theorem dX6_workOut_3 : decode cX6_workOut 3 = .ok (.istore 4, 2) := by decide +kernel
theorem dX6_workOut_5 : decode cX6_workOut 5 = .ok (.iload 4, 2) := by decide +kernel
theorem dX6_workOut_7 : decode cX6_workOut 7 = .ok (.aload_n 1, 1) := by decide +kernel
theorem dX6_workOut_8 : decode cX6_workOut 8 = .ok (.getfield 30, 3) := by decide +kernel
theorem dX6_workOut_11 : decode cX6_workOut 11 = .ok (.if_icmp .ge 30, 3) := by decide +kernel
theorem dX6_workOut_14 : decode cX6_workOut 14 = .ok (.aload_n 0, 1) := by decide +kernel
theorem dX6_workOut_15 : decode cX6_workOut 15 = .ok (.aload_n 1, 1) := by decide +kernel
theorem dX6_workOut_16 : decode cX6_workOut 16 = .ok (.aload_n 2, 1) := by decide +kernel
theorem dX6_workOut_17 : decode cX6_workOut 17 = .ok (.iload 4, 2) := by decide +kernel
theorem dX6_workOut_19 : decode cX6_workOut 19 = .ok (.invokevirtual 36, 3) := by decide +kernel
theorem dX6_workOut_22 : decode cX6_workOut 22 = .ok (.aload_n 1, 1) := by decide +kernel
theorem dX6_workOut_23 : decode cX6_workOut 23 = .ok (.getfield 40, 3) := by decide +kernel
theorem dX6_workOut_26 : decode cX6_workOut 26 = .ok (.iload 4, 2) := by decide +kernel
theorem dX6_workOut_28 : decode cX6_workOut 28 = .ok (.iaload, 1) := by decide +kernel
theorem dX6_workOut_29 : decode cX6_workOut 29 = .ok (.ifCond .ne 6, 3) := by decide +kernel
theorem dX6_workOut_32 : decode cX6_workOut 32 = .ok (.iinc 3 1, 3) := by decide +kernel
theorem dX6_workOut_35 : decode cX6_workOut 35 = .ok (.iinc 4 1, 3) := by decide +kernel
theorem dX6_workOut_38 : decode cX6_workOut 38 = .ok (.goto (-33), 3) := by decide +kernel
theorem dX6_workOut_41 : decode cX6_workOut 41 = .ok (.aload_n 0, 1) := by decide +kernel
theorem dX6_workOut_42 : decode cX6_workOut 42 = .ok (.aload_n 1, 1) := by decide +kernel
theorem dX6_workOut_43 : decode cX6_workOut 43 = .ok (.invokevirtual 43, 3) := by decide +kernel
theorem dX6_workOut_46 : decode cX6_workOut 46 = .ok (.aload_n 0, 1) := by decide +kernel
theorem dX6_workOut_47 : decode cX6_workOut 47 = .ok (.aload_n 1, 1) := by decide +kernel
theorem dX6_workOut_48 : decode cX6_workOut 48 = .ok (.invokevirtual 47, 3) := by decide +kernel
theorem dX6_workOut_51 : decode cX6_workOut 51 = .ok (.aload_n 0, 1) := by decide +kernel
theorem dX6_workOut_52 : decode cX6_workOut 52 = .ok (.iconst 2, 1) := by decide +kernel
theorem dX6_workOut_53 : decode cX6_workOut 53 = .ok (.aload_n 0, 1) := by decide +kernel
theorem dX6_workOut_54 : decode cX6_workOut 54 = .ok (.getfield 50, 3) := by decide +kernel
theorem dX6_workOut_57 : decode cX6_workOut 57 = .ok (.imul, 1) := by decide +kernel
theorem dX6_workOut_58 : decode cX6_workOut 58 = .ok (.aload_n 1, 1) := by decide +kernel
theorem dX6_workOut_59 : decode cX6_workOut 59 = .ok (.getfield 30, 3) := by decide +kernel
theorem dX6_workOut_62 : decode cX6_workOut 62 = .ok (.isub, 1) := by decide +kernel
theorem dX6_workOut_63 : decode cX6_workOut 63 = .ok (.aload_n 1, 1) := by decide +kernel
theorem dX6_workOut_64 : decode cX6_workOut 64 = .ok (.getfield 53, 3) := by decide +kernel
theorem dX6_workOut_67 : decode cX6_workOut 67 = .ok (.iadd, 1) := by decide +kernel
theorem dX6_workOut_68 : decode cX6_workOut 68 = .ok (.aload_n 0, 1) := by decide +kernel
theorem dX6_workOut_69 : decode cX6_workOut 69 = .ok (.getfield 56, 3) := by decide +kernel
theorem dX6_workOut_72 : decode cX6_workOut 72 = .ok (.isub, 1) := by decide +kernel
theorem dX6_workOut_73 : decode cX6_workOut 73 = .ok (.iload_n 3, 1) := by decide +kernel
theorem dX6_workOut_74 : decode cX6_workOut 74 = .ok (.isub, 1) := by decide +kernel
theorem dX6_workOut_75 : decode cX6_workOut 75 = .ok (.iconst 2, 1) := by decide +kernel
theorem dX6_workOut_76 : decode cX6_workOut 76 = .ok (.idiv, 1) := by decide +kernel
theorem dX6_workOut_77 : decode cX6_workOut 77 = .ok (.putfield 59, 3) := by decide +kernel
theorem dX6_workOut_80 : decode cX6_workOut 80 = .ok (.return_, 1) := by decide +kernel
theorem bX6_workOut_0 {d : Nat} {P : q_Mem → Prop} {M : q_Mem} (x1 x2 : Int) (k1 : q_kd x1 = 4) (k2 : q_kd x2 = 14) (h : q_v mX6_workOut d (qPU P) M 5 [some (qR 91), some (qR x1), some (qR x2), some (qI 0), some (qI 0)] []) : q_v mX6_workOut d (qPU P) M 0 [some (qR 91), some (qR x1), some (qR x2), none, none] [] := by
  refine qr_iconst 0 1 rfl (q_l32 _ rfl) dX6_workOut_0 ?_
  refine qr_istore_n 1 2 rfl (by decide) rfl rfl dX6_workOut_1 ?_
  refine qr_iconst 2 3 rfl (q_l32 _ rfl) dX6_workOut_2 ?_
  refine qr_istore 3 5 rfl (by decide) rfl rfl dX6_workOut_3 ?_
  exact h
theorem bX6_workOut_5 {d : Nat} {P : q_Mem → Prop} {M : q_Mem} (x1 x2 x3 x4 : Int) (k1 : q_kd x1 = 4) (k2 : q_kd x2 = 14) (h : (((M x1 0) ≤ x4) → q_kU yX6_walkFaces mX6_walkFaces d [qR 91, qR x1] M (fun M1 => q_kU yX6_findParts mX6_findParts d [qR 91, qR x1] M1 (fun M2 => (∀ M3 : q_Mem, M3 = q_up M2 91 2 (q_div (q_sub (q_sub (q_add (q_sub (q_mul 2 (M2 91 1)) (M2 x1 0)) (M2 x1 1)) (M2 91 0)) x3) 2) → P M3)))) ∧ ((¬ ((M x1 0) ≤ x4)) → q_kU yX6_linkUp mX6_linkUp d [qR 91, qR x1, qR x2, qI x4] M (fun M4 => (0 ≤ x4 ∧ x4 < (10 : Int)) ∧ (((¬ (M4 (q_lay x1 7) x4) = 0) → q_v mX6_workOut d (qPU P) M4 5 [some (qR 91), some (qR x1), some (qR x2), some (qI x3), some (qI (q_add x4 1))] []) ∧ (((M4 (q_lay x1 7) x4) = 0) → q_v mX6_workOut d (qPU P) M4 5 [some (qR 91), some (qR x1), some (qR x2), some (qI (q_add x3 1)), some (qI (q_add x4 1))] []))))) : q_v mX6_workOut d (qPU P) M 5 [some (qR 91), some (qR x1), some (qR x2), some (qI x3), some (qI x4)] [] := by
  refine qr_iload 5 7 rfl (x := x4) rfl dX6_workOut_5 ?_
  refine qr_aload_n 7 8 rfl (x := x1) rfl dX6_workOut_7 ?_
  refine qg_i 8 11 rfl ck4 0 (kk := 0) (by decide) k1 (by decide +kernel) rfl wm_61 rfl dX6_workOut_8 ?_
  refine qr_icmp_ge 11 14 41 rfl (by decide) dX6_workOut_11 (fun c11 => ?_) (fun c11 => ?_)
  · have h := h.1 c11
    refine qr_aload_n 41 42 rfl (x := 91) rfl dX6_workOut_41 ?_
    refine qr_aload_n 42 43 rfl (x := x1) rfl dX6_workOut_42 ?_
    refine qw_U 43 46 rfl (av := [qR x1]) ca_X6_walkFaces wm_767 wp_31 wm_765 ck6 (by decide +kernel) rfl rfl (Nat.le_of_ble_eq_true rfl) dX6_workOut_43 h (fun M1 h => ?_)
    refine qr_aload_n 46 47 rfl (x := 91) rfl dX6_workOut_46 ?_
    refine qr_aload_n 47 48 rfl (x := x1) rfl dX6_workOut_47 ?_
    refine qw_U 48 51 rfl (av := [qR x1]) ca_X6_findParts wm_776 wp_33 wm_774 ck6 (by decide +kernel) rfl rfl (Nat.le_of_ble_eq_true rfl) dX6_workOut_48 h (fun M2 h => ?_)
    refine qr_aload_n 51 52 rfl (x := 91) rfl dX6_workOut_51 ?_
    refine qr_iconst 52 53 rfl (q_l32 _ rfl) dX6_workOut_52 ?_
    refine qr_aload_n 53 54 rfl (x := 91) rfl dX6_workOut_53 ?_
    refine qg_i 54 57 rfl ck6 1 (kk := 1) (by decide) (by decide +kernel) (by decide +kernel) rfl wm_219 rfl dX6_workOut_54 ?_
    refine qr_imul 57 58 rfl dX6_workOut_57 ?_
    refine qr_aload_n 58 59 rfl (x := x1) rfl dX6_workOut_58 ?_
    refine qg_i 59 62 rfl ck4 0 (kk := 0) (by decide) k1 (by decide +kernel) rfl wm_61 rfl dX6_workOut_59 ?_
    refine qr_isub 62 63 rfl dX6_workOut_62 ?_
    refine qr_aload_n 63 64 rfl (x := x1) rfl dX6_workOut_63 ?_
    refine qg_i 64 67 rfl ck4 1 (kk := 1) (by decide) k1 (by decide +kernel) rfl wm_66 rfl dX6_workOut_64 ?_
    refine qr_iadd 67 68 rfl dX6_workOut_67 ?_
    refine qr_aload_n 68 69 rfl (x := 91) rfl dX6_workOut_68 ?_
    refine qg_i 69 72 rfl ck6 0 (kk := 0) (by decide) (by decide +kernel) (by decide +kernel) rfl wm_217 rfl dX6_workOut_69 ?_
    refine qr_isub 72 73 rfl dX6_workOut_72 ?_
    refine qr_iload_n 73 74 rfl (x := x3) rfl dX6_workOut_73 ?_
    refine qr_isub 74 75 rfl dX6_workOut_74 ?_
    refine qr_iconst 75 76 rfl (q_l32 _ rfl) dX6_workOut_75 ?_
    refine qr_idiv 76 77 rfl (by decide) dX6_workOut_76 ?_
    refine qp_i 77 80 rfl ck6 2 (kk := 2) (by decide) (by decide +kernel) (by decide) rfl rfl wm_221 rfl dX6_workOut_77 (fun M3 e_M3 => ?_)
    have h := h M3 e_M3
    exact qe_u 80 rfl dX6_workOut_80 h
  · have h := h.2 c11
    refine qr_aload_n 14 15 rfl (x := 91) rfl dX6_workOut_14 ?_
    refine qr_aload_n 15 16 rfl (x := x1) rfl dX6_workOut_15 ?_
    refine qr_aload_n 16 17 rfl (x := x2) rfl dX6_workOut_16 ?_
    refine qr_iload 17 19 rfl (x := x4) rfl dX6_workOut_17 ?_
    refine qw_U 19 22 rfl (av := [qR x1, qR x2, qI x4]) ca_X6_linkUp wm_763 wp_30 wm_761 ck6 (by decide +kernel) rfl rfl (Nat.le_of_ble_eq_true rfl) dX6_workOut_19 h (fun M4 h => ?_)
    refine qr_aload_n 22 23 rfl (x := x1) rfl dX6_workOut_22 ?_
    refine qr_getF 23 26 rfl ck4 7 (by decide) (b := (q_lay x1 7)) k1 rfl (by decide +kernel) rfl wm_84 rfl dX6_workOut_23 ?_
    refine qr_iload 26 28 rfl (x := x4) rfl dX6_workOut_26 ?_
    have hb5 := h.1
    have h := h.2
    refine qi_ld 28 29 rfl (N := 10) (lk4_7 _ k1) (ll4_7 _ k1) hb5.1 hb5.2 dX6_workOut_28 ?_
    refine qr_if_ne 29 32 35 rfl (by decide) dX6_workOut_29 (fun c29 => ?_) (fun c29 => ?_)
    · have h := h.1 c29
      refine qr_iinc 35 38 rfl (by decide) (x := x4) rfl rfl rfl dX6_workOut_35 ?_
      refine qr_goto 38 5 (by decide) dX6_workOut_38 ?_
      exact h
    · have h := h.2 c29
      refine qr_iinc 32 35 rfl (by decide) (x := x3) rfl rfl rfl dX6_workOut_32 ?_
      refine qr_iinc 35 38 rfl (by decide) (x := x4) rfl rfl rfl dX6_workOut_35 ?_
      refine qr_goto 38 5 (by decide) dX6_workOut_38 ?_
      exact h
theorem dX6_linkUp_0 : decode cX6_linkUp 0 = .ok (.aload_n 1, 1) := by decide +kernel
theorem dX6_linkUp_1 : decode cX6_linkUp 1 = .ok (.getfield 40, 3) := by decide +kernel
theorem dX6_linkUp_4 : decode cX6_linkUp 4 = .ok (.iload_n 3, 1) := by decide +kernel
theorem dX6_linkUp_5 : decode cX6_linkUp 5 = .ok (.iaload, 1) := by decide +kernel
theorem dX6_linkUp_6 : decode cX6_linkUp 6 = .ok (.istore 4, 2) := by decide +kernel
theorem dX6_linkUp_8 : decode cX6_linkUp 8 = .ok (.iconst 0, 1) := by decide +kernel
theorem dX6_linkUp_9 : decode cX6_linkUp 9 = .ok (.istore 5, 2) := by decide +kernel
theorem dX6_linkUp_11 : decode cX6_linkUp 11 = .ok (.iload 5, 2) := by decide +kernel
theorem dX6_linkUp_13 : decode cX6_linkUp 13 = .ok (.iload 4, 2) := by decide +kernel
theorem dX6_linkUp_15 : decode cX6_linkUp 15 = .ok (.if_icmp .ge 103, 3) := by decide +kernel
theorem dX6_linkUp_18 : decode cX6_linkUp 18 = .ok (.aload_n 2, 1) := by decide +kernel
theorem dX6_linkUp_19 : decode cX6_linkUp 19 = .ok (.iload_n 3, 1) := by decide +kernel
theorem dX6_linkUp_20 : decode cX6_linkUp 20 = .ok (.bipush 16, 2) := by decide +kernel
theorem dX6_linkUp_22 : decode cX6_linkUp 22 = .ok (.imul, 1) := by decide +kernel
theorem dX6_linkUp_23 : decode cX6_linkUp 23 = .ok (.iload 5, 2) := by decide +kernel
theorem dX6_linkUp_25 : decode cX6_linkUp 25 = .ok (.iadd, 1) := by decide +kernel
theorem dX6_linkUp_26 : decode cX6_linkUp 26 = .ok (.iaload, 1) := by decide +kernel
theorem dX6_linkUp_27 : decode cX6_linkUp 27 = .ok (.istore 6, 2) := by decide +kernel
theorem dX6_linkUp_29 : decode cX6_linkUp 29 = .ok (.aload_n 2, 1) := by decide +kernel
theorem dX6_linkUp_30 : decode cX6_linkUp 30 = .ok (.iload_n 3, 1) := by decide +kernel
theorem dX6_linkUp_31 : decode cX6_linkUp 31 = .ok (.bipush 16, 2) := by decide +kernel
theorem dX6_linkUp_33 : decode cX6_linkUp 33 = .ok (.imul, 1) := by decide +kernel
theorem dX6_linkUp_34 : decode cX6_linkUp 34 = .ok (.iload 5, 2) := by decide +kernel
theorem dX6_linkUp_36 : decode cX6_linkUp 36 = .ok (.iconst 1, 1) := by decide +kernel
theorem dX6_linkUp_37 : decode cX6_linkUp 37 = .ok (.iadd, 1) := by decide +kernel
theorem dX6_linkUp_38 : decode cX6_linkUp 38 = .ok (.iload 4, 2) := by decide +kernel
theorem dX6_linkUp_40 : decode cX6_linkUp 40 = .ok (.if_icmp .ge 10, 3) := by decide +kernel
theorem dX6_linkUp_43 : decode cX6_linkUp 43 = .ok (.iload 5, 2) := by decide +kernel
theorem dX6_linkUp_45 : decode cX6_linkUp 45 = .ok (.iconst 1, 1) := by decide +kernel
theorem dX6_linkUp_46 : decode cX6_linkUp 46 = .ok (.iadd, 1) := by decide +kernel
theorem dX6_linkUp_47 : decode cX6_linkUp 47 = .ok (.goto 4, 3) := by decide +kernel
theorem dX6_linkUp_50 : decode cX6_linkUp 50 = .ok (.iconst 0, 1) := by decide +kernel
theorem dX6_linkUp_51 : decode cX6_linkUp 51 = .ok (.iadd, 1) := by decide +kernel
theorem dX6_linkUp_52 : decode cX6_linkUp 52 = .ok (.iaload, 1) := by decide +kernel
theorem dX6_linkUp_53 : decode cX6_linkUp 53 = .ok (.istore 7, 2) := by decide +kernel
theorem dX6_linkUp_55 : decode cX6_linkUp 55 = .ok (.aload_n 1, 1) := by decide +kernel
theorem dX6_linkUp_56 : decode cX6_linkUp 56 = .ok (.getfield 62, 3) := by decide +kernel
theorem dX6_linkUp_59 : decode cX6_linkUp 59 = .ok (.iload 6, 2) := by decide +kernel
theorem dX6_linkUp_61 : decode cX6_linkUp 61 = .ok (.iaload, 1) := by decide +kernel
theorem dX6_linkUp_62 : decode cX6_linkUp 62 = .ok (.iload_n 3, 1) := by decide +kernel
theorem dX6_linkUp_63 : decode cX6_linkUp 63 = .ok (.if_icmp .ne 10, 3) := by decide +kernel
theorem dX6_linkUp_66 : decode cX6_linkUp 66 = .ok (.iconst 2, 1) := by decide +kernel
theorem dX6_linkUp_67 : decode cX6_linkUp 67 = .ok (.iload 6, 2) := by decide +kernel
theorem dX6_linkUp_69 : decode cX6_linkUp 69 = .ok (.imul, 1) := by decide +kernel
theorem dX6_linkUp_70 : decode cX6_linkUp 70 = .ok (.goto 9, 3) := by decide +kernel
theorem dX6_linkUp_73 : decode cX6_linkUp 73 = .ok (.iconst 2, 1) := by decide +kernel
theorem dX6_linkUp_74 : decode cX6_linkUp 74 = .ok (.iload 6, 2) := by decide +kernel
theorem dX6_linkUp_76 : decode cX6_linkUp 76 = .ok (.imul, 1) := by decide +kernel
theorem dX6_linkUp_77 : decode cX6_linkUp 77 = .ok (.iconst 1, 1) := by decide +kernel
theorem dX6_linkUp_78 : decode cX6_linkUp 78 = .ok (.iadd, 1) := by decide +kernel
theorem dX6_linkUp_79 : decode cX6_linkUp 79 = .ok (.istore 8, 2) := by decide +kernel
theorem dX6_linkUp_81 : decode cX6_linkUp 81 = .ok (.aload_n 0, 1) := by decide +kernel
theorem dX6_linkUp_82 : decode cX6_linkUp 82 = .ok (.getfield 9, 3) := by decide +kernel
theorem dX6_linkUp_85 : decode cX6_linkUp 85 = .ok (.iload 8, 2) := by decide +kernel
theorem dX6_linkUp_87 : decode cX6_linkUp 87 = .ok (.aload_n 1, 1) := by decide +kernel
theorem dX6_linkUp_88 : decode cX6_linkUp 88 = .ok (.getfield 65, 3) := by decide +kernel
theorem dX6_linkUp_91 : decode cX6_linkUp 91 = .ok (.iload 7, 2) := by decide +kernel
theorem dX6_linkUp_93 : decode cX6_linkUp 93 = .ok (.iaload, 1) := by decide +kernel
theorem dX6_linkUp_94 : decode cX6_linkUp 94 = .ok (.iload_n 3, 1) := by decide +kernel
theorem dX6_linkUp_95 : decode cX6_linkUp 95 = .ok (.if_icmp .ne 10, 3) := by decide +kernel
theorem dX6_linkUp_98 : decode cX6_linkUp 98 = .ok (.iconst 2, 1) := by decide +kernel
theorem dX6_linkUp_99 : decode cX6_linkUp 99 = .ok (.iload 7, 2) := by decide +kernel
theorem dX6_linkUp_101 : decode cX6_linkUp 101 = .ok (.imul, 1) := by decide +kernel
theorem dX6_linkUp_102 : decode cX6_linkUp 102 = .ok (.goto 9, 3) := by decide +kernel
theorem dX6_linkUp_105 : decode cX6_linkUp 105 = .ok (.iconst 2, 1) := by decide +kernel
theorem dX6_linkUp_106 : decode cX6_linkUp 106 = .ok (.iload 7, 2) := by decide +kernel
theorem dX6_linkUp_108 : decode cX6_linkUp 108 = .ok (.imul, 1) := by decide +kernel
theorem dX6_linkUp_109 : decode cX6_linkUp 109 = .ok (.iconst 1, 1) := by decide +kernel
theorem dX6_linkUp_110 : decode cX6_linkUp 110 = .ok (.iadd, 1) := by decide +kernel
theorem dX6_linkUp_111 : decode cX6_linkUp 111 = .ok (.iastore, 1) := by decide +kernel
theorem dX6_linkUp_112 : decode cX6_linkUp 112 = .ok (.iinc 5 1, 3) := by decide +kernel
theorem dX6_linkUp_115 : decode cX6_linkUp 115 = .ok (.goto (-104), 3) := by decide +kernel
theorem dX6_linkUp_118 : decode cX6_linkUp 118 = .ok (.return_, 1) := by decide +kernel
theorem bX6_linkUp_0 {d : Nat} {P : q_Mem → Prop} {M : q_Mem} (x1 x2 x3 : Int) (k1 : q_kd x1 = 4) (k2 : q_kd x2 = 14) (h : (0 ≤ x3 ∧ x3 < (10 : Int)) ∧ (∀ x4_2 : Int, x4_2 = (M (q_lay x1 7) x3) → q_v mX6_linkUp d (qPU P) M 11 [some (qR 91), some (qR x1), some (qR x2), some (qI x3), some (qI x4_2), some (qI 0), none, none, none] [])) : q_v mX6_linkUp d (qPU P) M 0 [some (qR 91), some (qR x1), some (qR x2), some (qI x3), none, none, none, none, none] [] := by
  refine qr_aload_n 0 1 rfl (x := x1) rfl dX6_linkUp_0 ?_
  refine qr_getF 1 4 rfl ck4 7 (by decide) (b := (q_lay x1 7)) k1 rfl (by decide +kernel) rfl wm_84 rfl dX6_linkUp_1 ?_
  refine qr_iload_n 4 5 rfl (x := x3) rfl dX6_linkUp_4 ?_
  have hb1 := h.1
  have h := h.2
  refine qi_ld 5 6 rfl (N := 10) (lk4_7 _ k1) (ll4_7 _ k1) hb1.1 hb1.2 dX6_linkUp_5 ?_
  refine qn_i 6 (fun x4_2 e_x4_2 => ?_)
  have h := h x4_2 e_x4_2
  refine qr_istore 6 8 rfl (by decide) rfl rfl dX6_linkUp_6 ?_
  refine qr_iconst 8 9 rfl (q_l32 _ rfl) dX6_linkUp_8 ?_
  refine qr_istore 9 11 rfl (by decide) rfl rfl dX6_linkUp_9 ?_
  exact h
theorem bX6_linkUp_11 {d : Nat} {P : q_Mem → Prop} {M : q_Mem} (x1 x2 x3 x4 x5 : Int) (k1 : q_kd x1 = 4) (k2 : q_kd x2 = 14) (h : ((x4 ≤ x5) → P M) ∧ ((¬ (x4 ≤ x5)) → (0 ≤ (q_add (q_mul x3 16) x5) ∧ (q_add (q_mul x3 16) x5) < (q_ln x2 : Int)) ∧ (∀ x6_2 : Int, x6_2 = (M x2 (q_add (q_mul x3 16) x5)) → ((x4 ≤ (q_add x5 1)) → q_v mX6_linkUp d (qPU P) M 51 [some (qR 91), some (qR x1), some (qR x2), some (qI x3), some (qI x4), some (qI x5), some (qI x6_2), none, none] [qI 0, qI (q_mul x3 16), qR x2]) ∧ ((¬ (x4 ≤ (q_add x5 1))) → q_v mX6_linkUp d (qPU P) M 51 [some (qR 91), some (qR x1), some (qR x2), some (qI x3), some (qI x4), some (qI x5), some (qI x6_2), none, none] [qI (q_add x5 1), qI (q_mul x3 16), qR x2])))) : q_v mX6_linkUp d (qPU P) M 11 [some (qR 91), some (qR x1), some (qR x2), some (qI x3), some (qI x4), some (qI x5), none, none, none] [] := by
  refine qr_iload 11 13 rfl (x := x5) rfl dX6_linkUp_11 ?_
  refine qr_iload 13 15 rfl (x := x4) rfl dX6_linkUp_13 ?_
  refine qr_icmp_ge 15 18 118 rfl (by decide) dX6_linkUp_15 (fun c15 => ?_) (fun c15 => ?_)
  · have h := h.1 c15
    exact qe_u 118 rfl dX6_linkUp_118 h
  · have h := h.2 c15
    refine qr_aload_n 18 19 rfl (x := x2) rfl dX6_linkUp_18 ?_
    refine qr_iload_n 19 20 rfl (x := x3) rfl dX6_linkUp_19 ?_
    refine qr_bipush 20 22 rfl (q_l32 _ rfl) (by decide) dX6_linkUp_20 ?_
    refine qr_imul 22 23 rfl dX6_linkUp_22 ?_
    refine qr_iload 23 25 rfl (x := x5) rfl dX6_linkUp_23 ?_
    refine qr_iadd 25 26 rfl dX6_linkUp_25 ?_
    have hb1 := h.1
    have h := h.2
    refine qi_ld 26 27 rfl k2 rfl hb1.1 hb1.2 dX6_linkUp_26 ?_
    refine qn_i 27 (fun x6_2 e_x6_2 => ?_)
    have h := h x6_2 e_x6_2
    refine qr_istore 27 29 rfl (by decide) rfl rfl dX6_linkUp_27 ?_
    refine qr_aload_n 29 30 rfl (x := x2) rfl dX6_linkUp_29 ?_
    refine qr_iload_n 30 31 rfl (x := x3) rfl dX6_linkUp_30 ?_
    refine qr_bipush 31 33 rfl (q_l32 _ rfl) (by decide) dX6_linkUp_31 ?_
    refine qr_imul 33 34 rfl dX6_linkUp_33 ?_
    refine qr_iload 34 36 rfl (x := x5) rfl dX6_linkUp_34 ?_
    refine qr_iconst 36 37 rfl (q_l32 _ rfl) dX6_linkUp_36 ?_
    refine qr_iadd 37 38 rfl dX6_linkUp_37 ?_
    refine qr_iload 38 40 rfl (x := x4) rfl dX6_linkUp_38 ?_
    refine qr_icmp_ge 40 43 50 rfl (by decide) dX6_linkUp_40 (fun c40 => ?_) (fun c40 => ?_)
    · have h := h.1 c40
      refine qr_iconst 50 51 rfl (q_l32 _ rfl) dX6_linkUp_50 ?_
      exact h
    · have h := h.2 c40
      refine qr_iload 43 45 rfl (x := x5) rfl dX6_linkUp_43 ?_
      refine qr_iconst 45 46 rfl (q_l32 _ rfl) dX6_linkUp_45 ?_
      refine qr_iadd 46 47 rfl dX6_linkUp_46 ?_
      refine qr_goto 47 51 (by decide) dX6_linkUp_47 ?_
      exact h
theorem bX6_linkUp_51 {d : Nat} {P : q_Mem → Prop} {M : q_Mem} (x1 x2 x3 x4 x5 x6 y0 y1 y2 : Int) (k1 : q_kd x1 = 4) (k2 : q_kd x2 = 14) (l0 : q_kd y0 = 14) (h : (0 ≤ (q_add y1 y2) ∧ (q_add y1 y2) < (q_ln y0 : Int)) ∧ (∀ x7_2 : Int, x7_2 = (M y0 (q_add y1 y2)) → (0 ≤ x6 ∧ x6 < (16 : Int)) ∧ (((¬ (M (q_lay x1 5) x6) = x3) → q_v mX6_linkUp d (qPU P) M 79 [some (qR 91), some (qR x1), some (qR x2), some (qI x3), some (qI x4), some (qI x5), none, some (qI x7_2), none] [qI (q_add (q_mul 2 x6) 1)]) ∧ (((M (q_lay x1 5) x6) = x3) → q_v mX6_linkUp d (qPU P) M 79 [some (qR 91), some (qR x1), some (qR x2), some (qI x3), some (qI x4), some (qI x5), none, some (qI x7_2), none] [qI (q_mul 2 x6)])))) : q_v mX6_linkUp d (qPU P) M 51 [some (qR 91), some (qR x1), some (qR x2), some (qI x3), some (qI x4), some (qI x5), some (qI x6), none, none] [qI y2, qI y1, qR y0] := by
  refine qr_iadd 51 52 rfl dX6_linkUp_51 ?_
  have hb1 := h.1
  have h := h.2
  refine qi_ld 52 53 rfl l0 rfl hb1.1 hb1.2 dX6_linkUp_52 ?_
  refine qn_i 53 (fun x7_2 e_x7_2 => ?_)
  have h := h x7_2 e_x7_2
  refine qr_istore 53 55 rfl (by decide) rfl rfl dX6_linkUp_53 ?_
  refine qr_aload_n 55 56 rfl (x := x1) rfl dX6_linkUp_55 ?_
  refine qr_getF 56 59 rfl ck4 5 (by decide) (b := (q_lay x1 5)) k1 rfl (by decide +kernel) rfl wm_80 rfl dX6_linkUp_56 ?_
  refine qr_iload 59 61 rfl (x := x6) rfl dX6_linkUp_59 ?_
  have hb3 := h.1
  have h := h.2
  refine qi_ld 61 62 rfl (N := 16) (lk4_5 _ k1) (ll4_5 _ k1) hb3.1 hb3.2 dX6_linkUp_61 ?_
  refine qr_iload_n 62 63 rfl (x := x3) rfl dX6_linkUp_62 ?_
  refine qr_icmp_ne 63 66 73 rfl (by decide) dX6_linkUp_63 (fun c63 => ?_) (fun c63 => ?_)
  · have h := h.1 c63
    refine qr_iconst 73 74 rfl (q_l32 _ rfl) dX6_linkUp_73 ?_
    refine qr_iload 74 76 rfl (x := x6) rfl dX6_linkUp_74 ?_
    refine qr_imul 76 77 rfl dX6_linkUp_76 ?_
    refine qr_iconst 77 78 rfl (q_l32 _ rfl) dX6_linkUp_77 ?_
    refine qr_iadd 78 79 rfl dX6_linkUp_78 ?_
    exact qr_cut 79 (ls' := [some (qR 91), some (qR x1), some (qR x2), some (qI x3), some (qI x4), some (qI x5), none, some (qI x7_2), none]) (And.intro rfl (And.intro rfl (And.intro rfl (And.intro rfl (And.intro rfl (And.intro rfl (And.intro rfl trivial))))))) h
  · have h := h.2 c63
    refine qr_iconst 66 67 rfl (q_l32 _ rfl) dX6_linkUp_66 ?_
    refine qr_iload 67 69 rfl (x := x6) rfl dX6_linkUp_67 ?_
    refine qr_imul 69 70 rfl dX6_linkUp_69 ?_
    refine qr_goto 70 79 (by decide) dX6_linkUp_70 ?_
    exact qr_cut 79 (ls' := [some (qR 91), some (qR x1), some (qR x2), some (qI x3), some (qI x4), some (qI x5), none, some (qI x7_2), none]) (And.intro rfl (And.intro rfl (And.intro rfl (And.intro rfl (And.intro rfl (And.intro rfl (And.intro rfl trivial))))))) h
theorem bX6_linkUp_79 {d : Nat} {P : q_Mem → Prop} {M : q_Mem} (x1 x2 x3 x4 x5 x7 y0 : Int) (k1 : q_kd x1 = 4) (k2 : q_kd x2 = 14) (h : (0 ≤ x7 ∧ x7 < (16 : Int)) ∧ (((¬ (M (q_lay x1 4) x7) = x3) → (0 ≤ y0 ∧ y0 < (32 : Int)) ∧ (∀ M3 : q_Mem, M3 = q_up M 92 y0 (q_add (q_mul 2 x7) 1) → q_v mX6_linkUp d (qPU P) M3 11 [some (qR 91), some (qR x1), some (qR x2), some (qI x3), some (qI x4), some (qI (q_add x5 1)), none, none, none] [])) ∧ (((M (q_lay x1 4) x7) = x3) → (0 ≤ y0 ∧ y0 < (32 : Int)) ∧ (∀ M5 : q_Mem, M5 = q_up M 92 y0 (q_mul 2 x7) → q_v mX6_linkUp d (qPU P) M5 11 [some (qR 91), some (qR x1), some (qR x2), some (qI x3), some (qI x4), some (qI (q_add x5 1)), none, none, none] [])))) : q_v mX6_linkUp d (qPU P) M 79 [some (qR 91), some (qR x1), some (qR x2), some (qI x3), some (qI x4), some (qI x5), none, some (qI x7), none] [qI y0] := by
  refine qr_istore 79 81 rfl (by decide) rfl rfl dX6_linkUp_79 ?_
  refine qr_aload_n 81 82 rfl (x := 91) rfl dX6_linkUp_81 ?_
  refine qr_getF 82 85 rfl ck6 3 (by decide) (b := 92) (by decide +kernel) rfl (by decide +kernel) (by decide +kernel) wm_223 rfl dX6_linkUp_82 ?_
  refine qr_iload 85 87 rfl (x := y0) rfl dX6_linkUp_85 ?_
  refine qr_aload_n 87 88 rfl (x := x1) rfl dX6_linkUp_87 ?_
  refine qr_getF 88 91 rfl ck4 4 (by decide) (b := (q_lay x1 4)) k1 rfl (by decide +kernel) rfl wm_76 rfl dX6_linkUp_88 ?_
  refine qr_iload 91 93 rfl (x := x7) rfl dX6_linkUp_91 ?_
  have hb1 := h.1
  have h := h.2
  refine qi_ld 93 94 rfl (N := 16) (lk4_4 _ k1) (ll4_4 _ k1) hb1.1 hb1.2 dX6_linkUp_93 ?_
  refine qr_iload_n 94 95 rfl (x := x3) rfl dX6_linkUp_94 ?_
  refine qr_icmp_ne 95 98 105 rfl (by decide) dX6_linkUp_95 (fun c95 => ?_) (fun c95 => ?_)
  · have h := h.1 c95
    refine qr_iconst 105 106 rfl (q_l32 _ rfl) dX6_linkUp_105 ?_
    refine qr_iload 106 108 rfl (x := x7) rfl dX6_linkUp_106 ?_
    refine qr_imul 108 109 rfl dX6_linkUp_108 ?_
    refine qr_iconst 109 110 rfl (q_l32 _ rfl) dX6_linkUp_109 ?_
    refine qr_iadd 110 111 rfl dX6_linkUp_110 ?_
    have hb2 := h.1
    have h := h.2
    refine qi_st 111 112 rfl (N := 32) (by decide +kernel) (by decide +kernel) hb2.1 hb2.2 dX6_linkUp_111 (fun M3 e_M3 => ?_)
    have h := h M3 e_M3
    refine qr_iinc 112 115 rfl (by decide) (x := x5) rfl rfl rfl dX6_linkUp_112 ?_
    refine qr_goto 115 11 (by decide) dX6_linkUp_115 ?_
    exact qr_cut 11 (ls' := [some (qR 91), some (qR x1), some (qR x2), some (qI x3), some (qI x4), some (qI (q_add x5 1)), none, none, none]) (And.intro rfl (And.intro rfl (And.intro rfl (And.intro rfl (And.intro rfl (And.intro rfl trivial)))))) h
  · have h := h.2 c95
    refine qr_iconst 98 99 rfl (q_l32 _ rfl) dX6_linkUp_98 ?_
    refine qr_iload 99 101 rfl (x := x7) rfl dX6_linkUp_99 ?_
    refine qr_imul 101 102 rfl dX6_linkUp_101 ?_
    refine qr_goto 102 111 (by decide) dX6_linkUp_102 ?_
    have hb4 := h.1
    have h := h.2
    refine qi_st 111 112 rfl (N := 32) (by decide +kernel) (by decide +kernel) hb4.1 hb4.2 dX6_linkUp_111 (fun M5 e_M5 => ?_)
    have h := h M5 e_M5
    refine qr_iinc 112 115 rfl (by decide) (x := x5) rfl rfl rfl dX6_linkUp_112 ?_
    refine qr_goto 115 11 (by decide) dX6_linkUp_115 ?_
    exact qr_cut 11 (ls' := [some (qR 91), some (qR x1), some (qR x2), some (qI x3), some (qI x4), some (qI (q_add x5 1)), none, none, none]) (And.intro rfl (And.intro rfl (And.intro rfl (And.intro rfl (And.intro rfl (And.intro rfl trivial)))))) h
theorem dX6_walkFaces_0 : decode cX6_walkFaces 0 = .ok (.iconst 2, 1) := by decide +kernel
theorem dX6_walkFaces_1 : decode cX6_walkFaces 1 = .ok (.aload_n 1, 1) := by decide +kernel
theorem dX6_walkFaces_2 : decode cX6_walkFaces 2 = .ok (.getfield 53, 3) := by decide +kernel
theorem dX6_walkFaces_5 : decode cX6_walkFaces 5 = .ok (.imul, 1) := by decide +kernel
theorem dX6_walkFaces_6 : decode cX6_walkFaces 6 = .ok (.istore_n 2, 1) := by decide +kernel
theorem dX6_walkFaces_7 : decode cX6_walkFaces 7 = .ok (.aload_n 0, 1) := by decide +kernel
theorem dX6_walkFaces_8 : decode cX6_walkFaces 8 = .ok (.getfield 15, 3) := by decide +kernel
theorem dX6_walkFaces_11 : decode cX6_walkFaces 11 = .ok (.iconst (-1), 1) := by decide +kernel
theorem dX6_walkFaces_12 : decode cX6_walkFaces 12 = .ok (.invokestatic 68, 3) := by decide +kernel
theorem dX6_walkFaces_15 : decode cX6_walkFaces 15 = .ok (.aload_n 0, 1) := by decide +kernel
theorem dX6_walkFaces_16 : decode cX6_walkFaces 16 = .ok (.iconst 0, 1) := by decide +kernel
theorem dX6_walkFaces_17 : decode cX6_walkFaces 17 = .ok (.putfield 56, 3) := by decide +kernel
theorem dX6_walkFaces_20 : decode cX6_walkFaces 20 = .ok (.iconst 0, 1) := by decide +kernel
theorem dX6_walkFaces_21 : decode cX6_walkFaces 21 = .ok (.istore_n 3, 1) := by decide +kernel
theorem dX6_walkFaces_22 : decode cX6_walkFaces 22 = .ok (.iload_n 3, 1) := by decide +kernel
theorem dX6_walkFaces_23 : decode cX6_walkFaces 23 = .ok (.iload_n 2, 1) := by decide +kernel
theorem dX6_walkFaces_24 : decode cX6_walkFaces 24 = .ok (.if_icmp .ge 44, 3) := by decide +kernel
theorem dX6_walkFaces_27 : decode cX6_walkFaces 27 = .ok (.aload_n 0, 1) := by decide +kernel
theorem dX6_walkFaces_28 : decode cX6_walkFaces 28 = .ok (.getfield 15, 3) := by decide +kernel
theorem dX6_walkFaces_31 : decode cX6_walkFaces 31 = .ok (.iload_n 3, 1) := by decide +kernel
theorem dX6_walkFaces_32 : decode cX6_walkFaces 32 = .ok (.iaload, 1) := by decide +kernel
theorem dX6_walkFaces_33 : decode cX6_walkFaces 33 = .ok (.iconst (-1), 1) := by decide +kernel
theorem dX6_walkFaces_34 : decode cX6_walkFaces 34 = .ok (.if_icmp .ne 28, 3) := by decide +kernel
theorem dX6_walkFaces_37 : decode cX6_walkFaces 37 = .ok (.aload_n 0, 1) := by decide +kernel
theorem dX6_walkFaces_38 : decode cX6_walkFaces 38 = .ok (.getfield 56, 3) := by decide +kernel
theorem dX6_walkFaces_41 : decode cX6_walkFaces 41 = .ok (.bipush 16, 2) := by decide +kernel
theorem dX6_walkFaces_43 : decode cX6_walkFaces 43 = .ok (.if_icmp .ge 19, 3) := by decide +kernel
theorem dX6_walkFaces_46 : decode cX6_walkFaces 46 = .ok (.aload_n 0, 1) := by decide +kernel
theorem dX6_walkFaces_47 : decode cX6_walkFaces 47 = .ok (.aload_n 1, 1) := by decide +kernel
theorem dX6_walkFaces_48 : decode cX6_walkFaces 48 = .ok (.iload_n 3, 1) := by decide +kernel
theorem dX6_walkFaces_49 : decode cX6_walkFaces 49 = .ok (.invokevirtual 74, 3) := by decide +kernel
theorem dX6_walkFaces_52 : decode cX6_walkFaces 52 = .ok (.aload_n 0, 1) := by decide +kernel
theorem dX6_walkFaces_53 : decode cX6_walkFaces 53 = .ok (.dup, 1) := by decide +kernel
theorem dX6_walkFaces_54 : decode cX6_walkFaces 54 = .ok (.getfield 56, 3) := by decide +kernel
theorem dX6_walkFaces_57 : decode cX6_walkFaces 57 = .ok (.iconst 1, 1) := by decide +kernel
theorem dX6_walkFaces_58 : decode cX6_walkFaces 58 = .ok (.iadd, 1) := by decide +kernel
theorem dX6_walkFaces_59 : decode cX6_walkFaces 59 = .ok (.putfield 56, 3) := by decide +kernel
theorem dX6_walkFaces_62 : decode cX6_walkFaces 62 = .ok (.iinc 3 1, 3) := by decide +kernel
theorem dX6_walkFaces_65 : decode cX6_walkFaces 65 = .ok (.goto (-43), 3) := by decide +kernel
theorem dX6_walkFaces_68 : decode cX6_walkFaces 68 = .ok (.return_, 1) := by decide +kernel
theorem bX6_walkFaces_0 {d : Nat} {P : q_Mem → Prop} {M : q_Mem} (x1 : Int) (k1 : q_kd x1 = 4) (h : ∀ x2_1 : Int, x2_1 = (q_mul 2 (M x1 1)) → q_kU yJ7_fill_53178 mJ7_fill_53178 d [qR 93, qI (-1)] M (fun M2 => (∀ M3 : q_Mem, M3 = q_up M2 91 0 0 → q_v mX6_walkFaces d (qPU P) M3 22 [some (qR 91), some (qR x1), some (qI x2_1), some (qI 0)] []))) : q_v mX6_walkFaces d (qPU P) M 0 [some (qR 91), some (qR x1), none, none] [] := by
  refine qr_iconst 0 1 rfl (q_l32 _ rfl) dX6_walkFaces_0 ?_
  refine qr_aload_n 1 2 rfl (x := x1) rfl dX6_walkFaces_1 ?_
  refine qg_i 2 5 rfl ck4 1 (kk := 1) (by decide) k1 (by decide +kernel) rfl wm_66 rfl dX6_walkFaces_2 ?_
  refine qr_imul 5 6 rfl dX6_walkFaces_5 ?_
  refine qn_i 6 (fun x2_1 e_x2_1 => ?_)
  have h := h x2_1 e_x2_1
  refine qr_istore_n 6 7 rfl (by decide) rfl rfl dX6_walkFaces_6 ?_
  refine qr_aload_n 7 8 rfl (x := 91) rfl dX6_walkFaces_7 ?_
  refine qr_getF 8 11 rfl ck6 4 (by decide) (b := 93) (by decide +kernel) rfl (by decide +kernel) (by decide +kernel) wm_225 rfl dX6_walkFaces_8 ?_
  refine qr_iconst 11 12 rfl (q_l32 _ rfl) dX6_walkFaces_11 ?_
  refine qs_U 12 15 rfl (av := [qR 93, qI (-1)]) ca_J7_fill_53178 wm_459 wm_769 rfl rfl (Nat.le_of_ble_eq_true rfl) dX6_walkFaces_12 h (fun M2 h => ?_)
  refine qr_aload_n 15 16 rfl (x := 91) rfl dX6_walkFaces_15 ?_
  refine qr_iconst 16 17 rfl (q_l32 _ rfl) dX6_walkFaces_16 ?_
  refine qp_i 17 20 rfl ck6 0 (kk := 0) (by decide) (by decide +kernel) (by decide) rfl rfl wm_217 rfl dX6_walkFaces_17 (fun M3 e_M3 => ?_)
  have h := h M3 e_M3
  refine qr_iconst 20 21 rfl (q_l32 _ rfl) dX6_walkFaces_20 ?_
  refine qr_istore_n 21 22 rfl (by decide) rfl rfl dX6_walkFaces_21 ?_
  exact h
theorem bX6_walkFaces_22 {d : Nat} {P : q_Mem → Prop} {M : q_Mem} (x1 x2 x3 : Int) (k1 : q_kd x1 = 4) (h : ((x2 ≤ x3) → P M) ∧ ((¬ (x2 ≤ x3)) → (0 ≤ x3 ∧ x3 < (32 : Int)) ∧ (((¬ (M 93 x3) = ((-1) : Int)) → q_v mX6_walkFaces d (qPU P) M 22 [some (qR 91), some (qR x1), some (qI x2), some (qI (q_add x3 1))] []) ∧ (((M 93 x3) = ((-1) : Int)) → (((16 : Int) ≤ (M 91 0)) → q_v mX6_walkFaces d (qPU P) M 22 [some (qR 91), some (qR x1), some (qI x2), some (qI (q_add x3 1))] []) ∧ ((¬ ((16 : Int) ≤ (M 91 0))) → q_kU yX6_walkFace mX6_walkFace d [qR 91, qR x1, qI x3] M (fun M2 => (∀ M3 : q_Mem, M3 = q_up M2 91 0 (q_add (M2 91 0) 1) → q_v mX6_walkFaces d (qPU P) M3 22 [some (qR 91), some (qR x1), some (qI x2), some (qI (q_add x3 1))] []))))))) : q_v mX6_walkFaces d (qPU P) M 22 [some (qR 91), some (qR x1), some (qI x2), some (qI x3)] [] := by
  refine qr_iload_n 22 23 rfl (x := x3) rfl dX6_walkFaces_22 ?_
  refine qr_iload_n 23 24 rfl (x := x2) rfl dX6_walkFaces_23 ?_
  refine qr_icmp_ge 24 27 68 rfl (by decide) dX6_walkFaces_24 (fun c24 => ?_) (fun c24 => ?_)
  · have h := h.1 c24
    exact qe_u 68 rfl dX6_walkFaces_68 h
  · have h := h.2 c24
    refine qr_aload_n 27 28 rfl (x := 91) rfl dX6_walkFaces_27 ?_
    refine qr_getF 28 31 rfl ck6 4 (by decide) (b := 93) (by decide +kernel) rfl (by decide +kernel) (by decide +kernel) wm_225 rfl dX6_walkFaces_28 ?_
    refine qr_iload_n 31 32 rfl (x := x3) rfl dX6_walkFaces_31 ?_
    have hb1 := h.1
    have h := h.2
    refine qi_ld 32 33 rfl (N := 32) (by decide +kernel) (by decide +kernel) hb1.1 hb1.2 dX6_walkFaces_32 ?_
    refine qr_iconst 33 34 rfl (q_l32 _ rfl) dX6_walkFaces_33 ?_
    refine qr_icmp_ne 34 37 62 rfl (by decide) dX6_walkFaces_34 (fun c34 => ?_) (fun c34 => ?_)
    · have h := h.1 c34
      refine qr_iinc 62 65 rfl (by decide) (x := x3) rfl rfl rfl dX6_walkFaces_62 ?_
      refine qr_goto 65 22 (by decide) dX6_walkFaces_65 ?_
      exact h
    · have h := h.2 c34
      refine qr_aload_n 37 38 rfl (x := 91) rfl dX6_walkFaces_37 ?_
      refine qg_i 38 41 rfl ck6 0 (kk := 0) (by decide) (by decide +kernel) (by decide +kernel) rfl wm_217 rfl dX6_walkFaces_38 ?_
      refine qr_bipush 41 43 rfl (q_l32 _ rfl) (by decide) dX6_walkFaces_41 ?_
      refine qr_icmp_ge 43 46 62 rfl (by decide) dX6_walkFaces_43 (fun c43 => ?_) (fun c43 => ?_)
      · have h := h.1 c43
        refine qr_iinc 62 65 rfl (by decide) (x := x3) rfl rfl rfl dX6_walkFaces_62 ?_
        refine qr_goto 65 22 (by decide) dX6_walkFaces_65 ?_
        exact h
      · have h := h.2 c43
        refine qr_aload_n 46 47 rfl (x := 91) rfl dX6_walkFaces_46 ?_
        refine qr_aload_n 47 48 rfl (x := x1) rfl dX6_walkFaces_47 ?_
        refine qr_iload_n 48 49 rfl (x := x3) rfl dX6_walkFaces_48 ?_
        refine qw_U 49 52 rfl (av := [qR x1, qI x3]) ca_X6_walkFace wm_772 wp_32 wm_770 ck6 (by decide +kernel) rfl rfl (Nat.le_of_ble_eq_true rfl) dX6_walkFaces_49 h (fun M2 h => ?_)
        refine qr_aload_n 52 53 rfl (x := 91) rfl dX6_walkFaces_52 ?_
        refine qr_dup 53 54 rfl rfl dX6_walkFaces_53 ?_
        refine qg_i 54 57 rfl ck6 0 (kk := 0) (by decide) (by decide +kernel) (by decide +kernel) rfl wm_217 rfl dX6_walkFaces_54 ?_
        refine qr_iconst 57 58 rfl (q_l32 _ rfl) dX6_walkFaces_57 ?_
        refine qr_iadd 58 59 rfl dX6_walkFaces_58 ?_
        refine qp_i 59 62 rfl ck6 0 (kk := 0) (by decide) (by decide +kernel) (by decide) rfl rfl wm_217 rfl dX6_walkFaces_59 (fun M3 e_M3 => ?_)
        have h := h M3 e_M3
        refine qr_iinc 62 65 rfl (by decide) (x := x3) rfl rfl rfl dX6_walkFaces_62 ?_
        refine qr_goto 65 22 (by decide) dX6_walkFaces_65 ?_
        exact h
theorem dX6_walkFace_0 : decode cX6_walkFace 0 = .ok (.iload_n 2, 1) := by decide +kernel
theorem dX6_walkFace_1 : decode cX6_walkFace 1 = .ok (.istore_n 3, 1) := by decide +kernel
theorem dX6_walkFace_2 : decode cX6_walkFace 2 = .ok (.iconst 0, 1) := by decide +kernel
theorem dX6_walkFace_3 : decode cX6_walkFace 3 = .ok (.istore 4, 2) := by decide +kernel
theorem dX6_walkFace_5 : decode cX6_walkFace 5 = .ok (.iconst 0, 1) := by decide +kernel
theorem dX6_walkFace_6 : decode cX6_walkFace 6 = .ok (.istore 5, 2) := by decide +kernel
theorem dX6_walkFace_8 : decode cX6_walkFace 8 = .ok (.iconst 0, 1) := by decide +kernel
theorem dX6_walkFace_9 : decode cX6_walkFace 9 = .ok (.istore 6, 2) := by decide +kernel
theorem dX6_walkFace_11 : decode cX6_walkFace 11 = .ok (.iload 6, 2) := by decide +kernel
theorem dX6_walkFace_13 : decode cX6_walkFace 13 = .ok (.bipush 32, 2) := by decide +kernel
theorem dX6_walkFace_15 : decode cX6_walkFace 15 = .ok (.if_icmp .ge 71, 3) := by decide +kernel
theorem dX6_walkFace_18 : decode cX6_walkFace 18 = .ok (.aload_n 0, 1) := by decide +kernel
theorem dX6_walkFace_19 : decode cX6_walkFace 19 = .ok (.getfield 15, 3) := by decide +kernel
theorem dX6_walkFace_22 : decode cX6_walkFace 22 = .ok (.iload_n 3, 1) := by decide +kernel
theorem dX6_walkFace_23 : decode cX6_walkFace 23 = .ok (.iaload, 1) := by decide +kernel
theorem dX6_walkFace_24 : decode cX6_walkFace 24 = .ok (.iconst (-1), 1) := by decide +kernel
theorem dX6_walkFace_25 : decode cX6_walkFace 25 = .ok (.if_icmp .ne 61, 3) := by decide +kernel
theorem dX6_walkFace_28 : decode cX6_walkFace 28 = .ok (.aload_n 0, 1) := by decide +kernel
theorem dX6_walkFace_29 : decode cX6_walkFace 29 = .ok (.getfield 15, 3) := by decide +kernel
theorem dX6_walkFace_32 : decode cX6_walkFace 32 = .ok (.iload_n 3, 1) := by decide +kernel
theorem dX6_walkFace_33 : decode cX6_walkFace 33 = .ok (.aload_n 0, 1) := by decide +kernel
theorem dX6_walkFace_34 : decode cX6_walkFace 34 = .ok (.getfield 56, 3) := by decide +kernel
theorem dX6_walkFace_37 : decode cX6_walkFace 37 = .ok (.iastore, 1) := by decide +kernel
theorem dX6_walkFace_38 : decode cX6_walkFace 38 = .ok (.iload 5, 2) := by decide +kernel
theorem dX6_walkFace_40 : decode cX6_walkFace 40 = .ok (.iconst 1, 1) := by decide +kernel
theorem dX6_walkFace_41 : decode cX6_walkFace 41 = .ok (.iload_n 3, 1) := by decide +kernel
theorem dX6_walkFace_42 : decode cX6_walkFace 42 = .ok (.iconst 2, 1) := by decide +kernel
theorem dX6_walkFace_43 : decode cX6_walkFace 43 = .ok (.irem, 1) := by decide +kernel
theorem dX6_walkFace_44 : decode cX6_walkFace 44 = .ok (.ifCond .ne 14, 3) := by decide +kernel
theorem dX6_walkFace_47 : decode cX6_walkFace 47 = .ok (.aload_n 1, 1) := by decide +kernel
theorem dX6_walkFace_48 : decode cX6_walkFace 48 = .ok (.getfield 65, 3) := by decide +kernel
theorem dX6_walkFace_51 : decode cX6_walkFace 51 = .ok (.iload_n 3, 1) := by decide +kernel
theorem dX6_walkFace_52 : decode cX6_walkFace 52 = .ok (.iconst 2, 1) := by decide +kernel
theorem dX6_walkFace_53 : decode cX6_walkFace 53 = .ok (.idiv, 1) := by decide +kernel
theorem dX6_walkFace_54 : decode cX6_walkFace 54 = .ok (.iaload, 1) := by decide +kernel
theorem dX6_walkFace_55 : decode cX6_walkFace 55 = .ok (.goto 11, 3) := by decide +kernel
theorem dX6_walkFace_58 : decode cX6_walkFace 58 = .ok (.aload_n 1, 1) := by decide +kernel
theorem dX6_walkFace_59 : decode cX6_walkFace 59 = .ok (.getfield 62, 3) := by decide +kernel
theorem dX6_walkFace_62 : decode cX6_walkFace 62 = .ok (.iload_n 3, 1) := by decide +kernel
theorem dX6_walkFace_63 : decode cX6_walkFace 63 = .ok (.iconst 2, 1) := by decide +kernel
theorem dX6_walkFace_64 : decode cX6_walkFace 64 = .ok (.idiv, 1) := by decide +kernel
theorem dX6_walkFace_65 : decode cX6_walkFace 65 = .ok (.iaload, 1) := by decide +kernel
theorem dX6_walkFace_66 : decode cX6_walkFace 66 = .ok (.ishl, 1) := by decide +kernel
theorem dX6_walkFace_67 : decode cX6_walkFace 67 = .ok (.ior, 1) := by decide +kernel
theorem dX6_walkFace_68 : decode cX6_walkFace 68 = .ok (.istore 5, 2) := by decide +kernel
theorem dX6_walkFace_70 : decode cX6_walkFace 70 = .ok (.iinc 4 1, 3) := by decide +kernel
theorem dX6_walkFace_73 : decode cX6_walkFace 73 = .ok (.aload_n 0, 1) := by decide +kernel
theorem dX6_walkFace_74 : decode cX6_walkFace 74 = .ok (.getfield 9, 3) := by decide +kernel
theorem dX6_walkFace_77 : decode cX6_walkFace 77 = .ok (.iload_n 3, 1) := by decide +kernel
theorem dX6_walkFace_78 : decode cX6_walkFace 78 = .ok (.iaload, 1) := by decide +kernel
theorem dX6_walkFace_79 : decode cX6_walkFace 79 = .ok (.istore_n 3, 1) := by decide +kernel
theorem dX6_walkFace_80 : decode cX6_walkFace 80 = .ok (.iinc 6 1, 3) := by decide +kernel
theorem dX6_walkFace_83 : decode cX6_walkFace 83 = .ok (.goto (-72), 3) := by decide +kernel
theorem dX6_walkFace_86 : decode cX6_walkFace 86 = .ok (.aload_n 0, 1) := by decide +kernel
theorem dX6_walkFace_87 : decode cX6_walkFace 87 = .ok (.getfield 18, 3) := by decide +kernel
theorem dX6_walkFace_90 : decode cX6_walkFace 90 = .ok (.aload_n 0, 1) := by decide +kernel
theorem dX6_walkFace_91 : decode cX6_walkFace 91 = .ok (.getfield 56, 3) := by decide +kernel
theorem dX6_walkFace_94 : decode cX6_walkFace 94 = .ok (.iload_n 2, 1) := by decide +kernel
theorem dX6_walkFace_95 : decode cX6_walkFace 95 = .ok (.iastore, 1) := by decide +kernel
theorem dX6_walkFace_96 : decode cX6_walkFace 96 = .ok (.aload_n 0, 1) := by decide +kernel
theorem dX6_walkFace_97 : decode cX6_walkFace 97 = .ok (.getfield 21, 3) := by decide +kernel
theorem dX6_walkFace_100 : decode cX6_walkFace 100 = .ok (.aload_n 0, 1) := by decide +kernel
theorem dX6_walkFace_101 : decode cX6_walkFace 101 = .ok (.getfield 56, 3) := by decide +kernel
theorem dX6_walkFace_104 : decode cX6_walkFace 104 = .ok (.iload 4, 2) := by decide +kernel
theorem dX6_walkFace_106 : decode cX6_walkFace 106 = .ok (.iastore, 1) := by decide +kernel
theorem dX6_walkFace_107 : decode cX6_walkFace 107 = .ok (.aload_n 0, 1) := by decide +kernel
theorem dX6_walkFace_108 : decode cX6_walkFace 108 = .ok (.getfield 24, 3) := by decide +kernel
theorem dX6_walkFace_111 : decode cX6_walkFace 111 = .ok (.aload_n 0, 1) := by decide +kernel
theorem dX6_walkFace_112 : decode cX6_walkFace 112 = .ok (.getfield 56, 3) := by decide +kernel
theorem dX6_walkFace_115 : decode cX6_walkFace 115 = .ok (.iload 5, 2) := by decide +kernel
theorem dX6_walkFace_117 : decode cX6_walkFace 117 = .ok (.iastore, 1) := by decide +kernel
theorem dX6_walkFace_118 : decode cX6_walkFace 118 = .ok (.return_, 1) := by decide +kernel
theorem bX6_walkFace_0 {d : Nat} {P : q_Mem → Prop} {M : q_Mem} (x1 x2 : Int) (k1 : q_kd x1 = 4) (h : q_v mX6_walkFace d (qPU P) M 11 [some (qR 91), some (qR x1), some (qI x2), some (qI x2), some (qI 0), some (qI 0), some (qI 0)] []) : q_v mX6_walkFace d (qPU P) M 0 [some (qR 91), some (qR x1), some (qI x2), none, none, none, none] [] := by
  refine qr_iload_n 0 1 rfl (x := x2) rfl dX6_walkFace_0 ?_
  refine qr_istore_n 1 2 rfl (by decide) rfl rfl dX6_walkFace_1 ?_
  refine qr_iconst 2 3 rfl (q_l32 _ rfl) dX6_walkFace_2 ?_
  refine qr_istore 3 5 rfl (by decide) rfl rfl dX6_walkFace_3 ?_
  refine qr_iconst 5 6 rfl (q_l32 _ rfl) dX6_walkFace_5 ?_
  refine qr_istore 6 8 rfl (by decide) rfl rfl dX6_walkFace_6 ?_
  refine qr_iconst 8 9 rfl (q_l32 _ rfl) dX6_walkFace_8 ?_
  refine qr_istore 9 11 rfl (by decide) rfl rfl dX6_walkFace_9 ?_
  exact h
theorem bX6_walkFace_11 {d : Nat} {P : q_Mem → Prop} {M : q_Mem} (x1 x2 x3 x4 x5 x6 : Int) (k1 : q_kd x1 = 4) (h : (((32 : Int) ≤ x6) → q_v mX6_walkFace d (qPU P) M 86 [some (qR 91), none, some (qI x2), none, some (qI x4), some (qI x5), none] []) ∧ ((¬ ((32 : Int) ≤ x6)) → (0 ≤ x3 ∧ x3 < (32 : Int)) ∧ (((¬ (M 93 x3) = ((-1) : Int)) → q_v mX6_walkFace d (qPU P) M 86 [some (qR 91), none, some (qI x2), none, some (qI x4), some (qI x5), none] []) ∧ (((M 93 x3) = ((-1) : Int)) → (0 ≤ x3 ∧ x3 < (32 : Int)) ∧ (∀ M3 : q_Mem, M3 = q_up M 93 x3 (M 91 0) → ((¬ (q_rem x3 2) = 0) → (0 ≤ (q_div x3 2) ∧ (q_div x3 2) < (16 : Int)) ∧ (∀ x5_5 : Int, x5_5 = (q_or x5 (q_shl 1 (M3 (q_lay x1 5) (q_div x3 2)))) → (0 ≤ x3 ∧ x3 < (32 : Int)) ∧ (∀ x3_7 : Int, x3_7 = (M3 92 x3) → q_v mX6_walkFace d (qPU P) M3 11 [some (qR 91), some (qR x1), some (qI x2), some (qI x3_7), some (qI (q_add x4 1)), some (qI x5_5), some (qI (q_add x6 1))] []))) ∧ (((q_rem x3 2) = 0) → (0 ≤ (q_div x3 2) ∧ (q_div x3 2) < (16 : Int)) ∧ (∀ x5_9 : Int, x5_9 = (q_or x5 (q_shl 1 (M3 (q_lay x1 4) (q_div x3 2)))) → (0 ≤ x3 ∧ x3 < (32 : Int)) ∧ (∀ x3_11 : Int, x3_11 = (M3 92 x3) → q_v mX6_walkFace d (qPU P) M3 11 [some (qR 91), some (qR x1), some (qI x2), some (qI x3_11), some (qI (q_add x4 1)), some (qI x5_9), some (qI (q_add x6 1))] [])))))))) : q_v mX6_walkFace d (qPU P) M 11 [some (qR 91), some (qR x1), some (qI x2), some (qI x3), some (qI x4), some (qI x5), some (qI x6)] [] := by
  refine qr_iload 11 13 rfl (x := x6) rfl dX6_walkFace_11 ?_
  refine qr_bipush 13 15 rfl (q_l32 _ rfl) (by decide) dX6_walkFace_13 ?_
  refine qr_icmp_ge 15 18 86 rfl (by decide) dX6_walkFace_15 (fun c15 => ?_) (fun c15 => ?_)
  · have h := h.1 c15
    exact qr_cut 86 (ls' := [some (qR 91), none, some (qI x2), none, some (qI x4), some (qI x5), none]) (And.intro rfl (And.intro rfl (And.intro rfl (And.intro rfl trivial)))) h
  · have h := h.2 c15
    refine qr_aload_n 18 19 rfl (x := 91) rfl dX6_walkFace_18 ?_
    refine qr_getF 19 22 rfl ck6 4 (by decide) (b := 93) (by decide +kernel) rfl (by decide +kernel) (by decide +kernel) wm_225 rfl dX6_walkFace_19 ?_
    refine qr_iload_n 22 23 rfl (x := x3) rfl dX6_walkFace_22 ?_
    have hb1 := h.1
    have h := h.2
    refine qi_ld 23 24 rfl (N := 32) (by decide +kernel) (by decide +kernel) hb1.1 hb1.2 dX6_walkFace_23 ?_
    refine qr_iconst 24 25 rfl (q_l32 _ rfl) dX6_walkFace_24 ?_
    refine qr_icmp_ne 25 28 86 rfl (by decide) dX6_walkFace_25 (fun c25 => ?_) (fun c25 => ?_)
    · have h := h.1 c25
      exact qr_cut 86 (ls' := [some (qR 91), none, some (qI x2), none, some (qI x4), some (qI x5), none]) (And.intro rfl (And.intro rfl (And.intro rfl (And.intro rfl trivial)))) h
    · have h := h.2 c25
      refine qr_aload_n 28 29 rfl (x := 91) rfl dX6_walkFace_28 ?_
      refine qr_getF 29 32 rfl ck6 4 (by decide) (b := 93) (by decide +kernel) rfl (by decide +kernel) (by decide +kernel) wm_225 rfl dX6_walkFace_29 ?_
      refine qr_iload_n 32 33 rfl (x := x3) rfl dX6_walkFace_32 ?_
      refine qr_aload_n 33 34 rfl (x := 91) rfl dX6_walkFace_33 ?_
      refine qg_i 34 37 rfl ck6 0 (kk := 0) (by decide) (by decide +kernel) (by decide +kernel) rfl wm_217 rfl dX6_walkFace_34 ?_
      have hb2 := h.1
      have h := h.2
      refine qi_st 37 38 rfl (N := 32) (by decide +kernel) (by decide +kernel) hb2.1 hb2.2 dX6_walkFace_37 (fun M3 e_M3 => ?_)
      have h := h M3 e_M3
      refine qr_iload 38 40 rfl (x := x5) rfl dX6_walkFace_38 ?_
      refine qr_iconst 40 41 rfl (q_l32 _ rfl) dX6_walkFace_40 ?_
      refine qr_iload_n 41 42 rfl (x := x3) rfl dX6_walkFace_41 ?_
      refine qr_iconst 42 43 rfl (q_l32 _ rfl) dX6_walkFace_42 ?_
      refine qr_irem 43 44 rfl (by decide) dX6_walkFace_43 ?_
      refine qr_if_ne 44 47 58 rfl (by decide) dX6_walkFace_44 (fun c44 => ?_) (fun c44 => ?_)
      · have h := h.1 c44
        refine qr_aload_n 58 59 rfl (x := x1) rfl dX6_walkFace_58 ?_
        refine qr_getF 59 62 rfl ck4 5 (by decide) (b := (q_lay x1 5)) k1 rfl (by decide +kernel) rfl wm_80 rfl dX6_walkFace_59 ?_
        refine qr_iload_n 62 63 rfl (x := x3) rfl dX6_walkFace_62 ?_
        refine qr_iconst 63 64 rfl (q_l32 _ rfl) dX6_walkFace_63 ?_
        refine qr_idiv 64 65 rfl (by decide) dX6_walkFace_64 ?_
        have hb4 := h.1
        have h := h.2
        refine qi_ld 65 66 rfl (N := 16) (lk4_5 _ k1) (ll4_5 _ k1) hb4.1 hb4.2 dX6_walkFace_65 ?_
        refine qr_ishl 66 67 rfl dX6_walkFace_66 ?_
        refine qr_ior 67 68 rfl dX6_walkFace_67 ?_
        refine qn_i 68 (fun x5_5 e_x5_5 => ?_)
        have h := h x5_5 e_x5_5
        refine qr_istore 68 70 rfl (by decide) rfl rfl dX6_walkFace_68 ?_
        refine qr_iinc 70 73 rfl (by decide) (x := x4) rfl rfl rfl dX6_walkFace_70 ?_
        refine qr_aload_n 73 74 rfl (x := 91) rfl dX6_walkFace_73 ?_
        refine qr_getF 74 77 rfl ck6 3 (by decide) (b := 92) (by decide +kernel) rfl (by decide +kernel) (by decide +kernel) wm_223 rfl dX6_walkFace_74 ?_
        refine qr_iload_n 77 78 rfl (x := x3) rfl dX6_walkFace_77 ?_
        have hb6 := h.1
        have h := h.2
        refine qi_ld 78 79 rfl (N := 32) (by decide +kernel) (by decide +kernel) hb6.1 hb6.2 dX6_walkFace_78 ?_
        refine qn_i 79 (fun x3_7 e_x3_7 => ?_)
        have h := h x3_7 e_x3_7
        refine qr_istore_n 79 80 rfl (by decide) rfl rfl dX6_walkFace_79 ?_
        refine qr_iinc 80 83 rfl (by decide) (x := x6) rfl rfl rfl dX6_walkFace_80 ?_
        refine qr_goto 83 11 (by decide) dX6_walkFace_83 ?_
        exact h
      · have h := h.2 c44
        refine qr_aload_n 47 48 rfl (x := x1) rfl dX6_walkFace_47 ?_
        refine qr_getF 48 51 rfl ck4 4 (by decide) (b := (q_lay x1 4)) k1 rfl (by decide +kernel) rfl wm_76 rfl dX6_walkFace_48 ?_
        refine qr_iload_n 51 52 rfl (x := x3) rfl dX6_walkFace_51 ?_
        refine qr_iconst 52 53 rfl (q_l32 _ rfl) dX6_walkFace_52 ?_
        refine qr_idiv 53 54 rfl (by decide) dX6_walkFace_53 ?_
        have hb8 := h.1
        have h := h.2
        refine qi_ld 54 55 rfl (N := 16) (lk4_4 _ k1) (ll4_4 _ k1) hb8.1 hb8.2 dX6_walkFace_54 ?_
        refine qr_goto 55 66 (by decide) dX6_walkFace_55 ?_
        refine qr_ishl 66 67 rfl dX6_walkFace_66 ?_
        refine qr_ior 67 68 rfl dX6_walkFace_67 ?_
        refine qn_i 68 (fun x5_9 e_x5_9 => ?_)
        have h := h x5_9 e_x5_9
        refine qr_istore 68 70 rfl (by decide) rfl rfl dX6_walkFace_68 ?_
        refine qr_iinc 70 73 rfl (by decide) (x := x4) rfl rfl rfl dX6_walkFace_70 ?_
        refine qr_aload_n 73 74 rfl (x := 91) rfl dX6_walkFace_73 ?_
        refine qr_getF 74 77 rfl ck6 3 (by decide) (b := 92) (by decide +kernel) rfl (by decide +kernel) (by decide +kernel) wm_223 rfl dX6_walkFace_74 ?_
        refine qr_iload_n 77 78 rfl (x := x3) rfl dX6_walkFace_77 ?_
        have hb10 := h.1
        have h := h.2
        refine qi_ld 78 79 rfl (N := 32) (by decide +kernel) (by decide +kernel) hb10.1 hb10.2 dX6_walkFace_78 ?_
        refine qn_i 79 (fun x3_11 e_x3_11 => ?_)
        have h := h x3_11 e_x3_11
        refine qr_istore_n 79 80 rfl (by decide) rfl rfl dX6_walkFace_79 ?_
        refine qr_iinc 80 83 rfl (by decide) (x := x6) rfl rfl rfl dX6_walkFace_80 ?_
        refine qr_goto 83 11 (by decide) dX6_walkFace_83 ?_
        exact h
theorem bX6_walkFace_86 {d : Nat} {P : q_Mem → Prop} {M : q_Mem} (x2 x4 x5 : Int) (h : (0 ≤ (M 91 0) ∧ (M 91 0) < (16 : Int)) ∧ (∀ M2 : q_Mem, M2 = q_up M 94 (M 91 0) x2 → (0 ≤ (M2 91 0) ∧ (M2 91 0) < (16 : Int)) ∧ (∀ M4 : q_Mem, M4 = q_up M2 95 (M2 91 0) x4 → (0 ≤ (M4 91 0) ∧ (M4 91 0) < (16 : Int)) ∧ (∀ M6 : q_Mem, M6 = q_up M4 96 (M4 91 0) x5 → P M6)))) : q_v mX6_walkFace d (qPU P) M 86 [some (qR 91), none, some (qI x2), none, some (qI x4), some (qI x5), none] [] := by
  refine qr_aload_n 86 87 rfl (x := 91) rfl dX6_walkFace_86 ?_
  refine qr_getF 87 90 rfl ck6 5 (by decide) (b := 94) (by decide +kernel) rfl (by decide +kernel) (by decide +kernel) wm_228 rfl dX6_walkFace_87 ?_
  refine qr_aload_n 90 91 rfl (x := 91) rfl dX6_walkFace_90 ?_
  refine qg_i 91 94 rfl ck6 0 (kk := 0) (by decide) (by decide +kernel) (by decide +kernel) rfl wm_217 rfl dX6_walkFace_91 ?_
  refine qr_iload_n 94 95 rfl (x := x2) rfl dX6_walkFace_94 ?_
  have hb1 := h.1
  have h := h.2
  refine qi_st 95 96 rfl (N := 16) (by decide +kernel) (by decide +kernel) hb1.1 hb1.2 dX6_walkFace_95 (fun M2 e_M2 => ?_)
  have h := h M2 e_M2
  refine qr_aload_n 96 97 rfl (x := 91) rfl dX6_walkFace_96 ?_
  refine qr_getF 97 100 rfl ck6 6 (by decide) (b := 95) (by decide +kernel) rfl (by decide +kernel) (by decide +kernel) wm_230 rfl dX6_walkFace_97 ?_
  refine qr_aload_n 100 101 rfl (x := 91) rfl dX6_walkFace_100 ?_
  refine qg_i 101 104 rfl ck6 0 (kk := 0) (by decide) (by decide +kernel) (by decide +kernel) rfl wm_217 rfl dX6_walkFace_101 ?_
  refine qr_iload 104 106 rfl (x := x4) rfl dX6_walkFace_104 ?_
  have hb3 := h.1
  have h := h.2
  refine qi_st 106 107 rfl (N := 16) (by decide +kernel) (by decide +kernel) hb3.1 hb3.2 dX6_walkFace_106 (fun M4 e_M4 => ?_)
  have h := h M4 e_M4
  refine qr_aload_n 107 108 rfl (x := 91) rfl dX6_walkFace_107 ?_
  refine qr_getF 108 111 rfl ck6 7 (by decide) (b := 96) (by decide +kernel) rfl (by decide +kernel) (by decide +kernel) wm_232 rfl dX6_walkFace_108 ?_
  refine qr_aload_n 111 112 rfl (x := 91) rfl dX6_walkFace_111 ?_
  refine qg_i 112 115 rfl ck6 0 (kk := 0) (by decide) (by decide +kernel) (by decide +kernel) rfl wm_217 rfl dX6_walkFace_112 ?_
  refine qr_iload 115 117 rfl (x := x5) rfl dX6_walkFace_115 ?_
  have hb5 := h.1
  have h := h.2
  refine qi_st 117 118 rfl (N := 16) (by decide +kernel) (by decide +kernel) hb5.1 hb5.2 dX6_walkFace_117 (fun M6 e_M6 => ?_)
  have h := h M6 e_M6
  exact qe_u 118 rfl dX6_walkFace_118 h
theorem dX6_findParts_0 : decode cX6_findParts 0 = .ok (.iconst 0, 1) := by decide +kernel
theorem dX6_findParts_1 : decode cX6_findParts 1 = .ok (.istore_n 2, 1) := by decide +kernel
theorem dX6_findParts_2 : decode cX6_findParts 2 = .ok (.iload_n 2, 1) := by decide +kernel
theorem dX6_findParts_3 : decode cX6_findParts 3 = .ok (.aload_n 1, 1) := by decide +kernel
theorem dX6_findParts_4 : decode cX6_findParts 4 = .ok (.getfield 30, 3) := by decide +kernel
theorem dX6_findParts_7 : decode cX6_findParts 7 = .ok (.if_icmp .ge 16, 3) := by decide +kernel
theorem dX6_findParts_10 : decode cX6_findParts 10 = .ok (.aload_n 0, 1) := by decide +kernel
theorem dX6_findParts_11 : decode cX6_findParts 11 = .ok (.getfield 27, 3) := by decide +kernel
theorem dX6_findParts_14 : decode cX6_findParts 14 = .ok (.iload_n 2, 1) := by decide +kernel
theorem dX6_findParts_15 : decode cX6_findParts 15 = .ok (.iload_n 2, 1) := by decide +kernel
theorem dX6_findParts_16 : decode cX6_findParts 16 = .ok (.iastore, 1) := by decide +kernel
theorem dX6_findParts_17 : decode cX6_findParts 17 = .ok (.iinc 2 1, 3) := by decide +kernel
theorem dX6_findParts_20 : decode cX6_findParts 20 = .ok (.goto (-18), 3) := by decide +kernel
theorem dX6_findParts_23 : decode cX6_findParts 23 = .ok (.aload_n 0, 1) := by decide +kernel
theorem dX6_findParts_24 : decode cX6_findParts 24 = .ok (.aload_n 1, 1) := by decide +kernel
theorem dX6_findParts_25 : decode cX6_findParts 25 = .ok (.getfield 30, 3) := by decide +kernel
theorem dX6_findParts_28 : decode cX6_findParts 28 = .ok (.putfield 50, 3) := by decide +kernel
theorem dX6_findParts_31 : decode cX6_findParts 31 = .ok (.iconst 0, 1) := by decide +kernel
theorem dX6_findParts_32 : decode cX6_findParts 32 = .ok (.istore_n 2, 1) := by decide +kernel
theorem dX6_findParts_33 : decode cX6_findParts 33 = .ok (.iload_n 2, 1) := by decide +kernel
theorem dX6_findParts_34 : decode cX6_findParts 34 = .ok (.aload_n 1, 1) := by decide +kernel
theorem dX6_findParts_35 : decode cX6_findParts 35 = .ok (.getfield 53, 3) := by decide +kernel
theorem dX6_findParts_38 : decode cX6_findParts 38 = .ok (.if_icmp .ge 70, 3) := by decide +kernel
theorem dX6_findParts_41 : decode cX6_findParts 41 = .ok (.aload_n 0, 1) := by decide +kernel
theorem dX6_findParts_42 : decode cX6_findParts 42 = .ok (.getfield 27, 3) := by decide +kernel
theorem dX6_findParts_45 : decode cX6_findParts 45 = .ok (.aload_n 1, 1) := by decide +kernel
theorem dX6_findParts_46 : decode cX6_findParts 46 = .ok (.getfield 65, 3) := by decide +kernel
theorem dX6_findParts_49 : decode cX6_findParts 49 = .ok (.iload_n 2, 1) := by decide +kernel
theorem dX6_findParts_50 : decode cX6_findParts 50 = .ok (.iaload, 1) := by decide +kernel
theorem dX6_findParts_51 : decode cX6_findParts 51 = .ok (.iaload, 1) := by decide +kernel
theorem dX6_findParts_52 : decode cX6_findParts 52 = .ok (.istore_n 3, 1) := by decide +kernel
theorem dX6_findParts_53 : decode cX6_findParts 53 = .ok (.aload_n 0, 1) := by decide +kernel
theorem dX6_findParts_54 : decode cX6_findParts 54 = .ok (.getfield 27, 3) := by decide +kernel
theorem dX6_findParts_57 : decode cX6_findParts 57 = .ok (.aload_n 1, 1) := by decide +kernel
theorem dX6_findParts_58 : decode cX6_findParts 58 = .ok (.getfield 62, 3) := by decide +kernel
theorem dX6_findParts_61 : decode cX6_findParts 61 = .ok (.iload_n 2, 1) := by decide +kernel
theorem dX6_findParts_62 : decode cX6_findParts 62 = .ok (.iaload, 1) := by decide +kernel
theorem dX6_findParts_63 : decode cX6_findParts 63 = .ok (.iaload, 1) := by decide +kernel
theorem dX6_findParts_64 : decode cX6_findParts 64 = .ok (.istore 4, 2) := by decide +kernel
theorem dX6_findParts_66 : decode cX6_findParts 66 = .ok (.iload_n 3, 1) := by decide +kernel
theorem dX6_findParts_67 : decode cX6_findParts 67 = .ok (.iload 4, 2) := by decide +kernel
theorem dX6_findParts_69 : decode cX6_findParts 69 = .ok (.if_icmp .eq 33, 3) := by decide +kernel
theorem dX6_findParts_72 : decode cX6_findParts 72 = .ok (.aload_n 0, 1) := by decide +kernel
theorem dX6_findParts_73 : decode cX6_findParts 73 = .ok (.dup, 1) := by decide +kernel
theorem dX6_findParts_74 : decode cX6_findParts 74 = .ok (.getfield 50, 3) := by decide +kernel
theorem dX6_findParts_77 : decode cX6_findParts 77 = .ok (.iconst 1, 1) := by decide +kernel
theorem dX6_findParts_78 : decode cX6_findParts 78 = .ok (.isub, 1) := by decide +kernel
theorem dX6_findParts_79 : decode cX6_findParts 79 = .ok (.putfield 50, 3) := by decide +kernel
theorem dX6_findParts_82 : decode cX6_findParts 82 = .ok (.aload_n 0, 1) := by decide +kernel
theorem dX6_findParts_83 : decode cX6_findParts 83 = .ok (.iload_n 3, 1) := by decide +kernel
theorem dX6_findParts_84 : decode cX6_findParts 84 = .ok (.iload 4, 2) := by decide +kernel
theorem dX6_findParts_86 : decode cX6_findParts 86 = .ok (.invokestatic 78, 3) := by decide +kernel
theorem dX6_findParts_89 : decode cX6_findParts 89 = .ok (.iload_n 3, 1) := by decide +kernel
theorem dX6_findParts_90 : decode cX6_findParts 90 = .ok (.iload 4, 2) := by decide +kernel
theorem dX6_findParts_92 : decode cX6_findParts 92 = .ok (.invokestatic 84, 3) := by decide +kernel
theorem dX6_findParts_95 : decode cX6_findParts 95 = .ok (.aload_n 1, 1) := by decide +kernel
theorem dX6_findParts_96 : decode cX6_findParts 96 = .ok (.getfield 30, 3) := by decide +kernel
theorem dX6_findParts_99 : decode cX6_findParts 99 = .ok (.invokevirtual 87, 3) := by decide +kernel
theorem dX6_findParts_102 : decode cX6_findParts 102 = .ok (.iinc 2 1, 3) := by decide +kernel
theorem dX6_findParts_105 : decode cX6_findParts 105 = .ok (.goto (-72), 3) := by decide +kernel
theorem dX6_findParts_108 : decode cX6_findParts 108 = .ok (.return_, 1) := by decide +kernel
theorem bX6_findParts_0 {d : Nat} {P : q_Mem → Prop} {M : q_Mem} (x1 : Int) (k1 : q_kd x1 = 4) (h : q_v mX6_findParts d (qPU P) M 2 [some (qR 91), some (qR x1), some (qI 0), none, none] []) : q_v mX6_findParts d (qPU P) M 0 [some (qR 91), some (qR x1), none, none, none] [] := by
  refine qr_iconst 0 1 rfl (q_l32 _ rfl) dX6_findParts_0 ?_
  refine qr_istore_n 1 2 rfl (by decide) rfl rfl dX6_findParts_1 ?_
  exact h
theorem bX6_findParts_2 {d : Nat} {P : q_Mem → Prop} {M : q_Mem} (x1 x2 : Int) (k1 : q_kd x1 = 4) (h : (((M x1 0) ≤ x2) → (∀ M1 : q_Mem, M1 = q_up M 91 1 (M x1 0) → q_v mX6_findParts d (qPU P) M1 33 [some (qR 91), some (qR x1), some (qI 0), none, none] [])) ∧ ((¬ ((M x1 0) ≤ x2)) → (0 ≤ x2 ∧ x2 < (10 : Int)) ∧ (∀ M3 : q_Mem, M3 = q_up M 97 x2 x2 → q_v mX6_findParts d (qPU P) M3 2 [some (qR 91), some (qR x1), some (qI (q_add x2 1)), none, none] []))) : q_v mX6_findParts d (qPU P) M 2 [some (qR 91), some (qR x1), some (qI x2), none, none] [] := by
  refine qr_iload_n 2 3 rfl (x := x2) rfl dX6_findParts_2 ?_
  refine qr_aload_n 3 4 rfl (x := x1) rfl dX6_findParts_3 ?_
  refine qg_i 4 7 rfl ck4 0 (kk := 0) (by decide) k1 (by decide +kernel) rfl wm_61 rfl dX6_findParts_4 ?_
  refine qr_icmp_ge 7 10 23 rfl (by decide) dX6_findParts_7 (fun c7 => ?_) (fun c7 => ?_)
  · have h := h.1 c7
    refine qr_aload_n 23 24 rfl (x := 91) rfl dX6_findParts_23 ?_
    refine qr_aload_n 24 25 rfl (x := x1) rfl dX6_findParts_24 ?_
    refine qg_i 25 28 rfl ck4 0 (kk := 0) (by decide) k1 (by decide +kernel) rfl wm_61 rfl dX6_findParts_25 ?_
    refine qp_i 28 31 rfl ck6 1 (kk := 1) (by decide) (by decide +kernel) (by decide) rfl rfl wm_219 rfl dX6_findParts_28 (fun M1 e_M1 => ?_)
    have h := h M1 e_M1
    refine qr_iconst 31 32 rfl (q_l32 _ rfl) dX6_findParts_31 ?_
    refine qr_istore_n 32 33 rfl (by decide) rfl rfl dX6_findParts_32 ?_
    exact h
  · have h := h.2 c7
    refine qr_aload_n 10 11 rfl (x := 91) rfl dX6_findParts_10 ?_
    refine qr_getF 11 14 rfl ck6 8 (by decide) (b := 97) (by decide +kernel) rfl (by decide +kernel) (by decide +kernel) wm_234 rfl dX6_findParts_11 ?_
    refine qr_iload_n 14 15 rfl (x := x2) rfl dX6_findParts_14 ?_
    refine qr_iload_n 15 16 rfl (x := x2) rfl dX6_findParts_15 ?_
    have hb2 := h.1
    have h := h.2
    refine qi_st 16 17 rfl (N := 10) (by decide +kernel) (by decide +kernel) hb2.1 hb2.2 dX6_findParts_16 (fun M3 e_M3 => ?_)
    have h := h M3 e_M3
    refine qr_iinc 17 20 rfl (by decide) (x := x2) rfl rfl rfl dX6_findParts_17 ?_
    refine qr_goto 20 2 (by decide) dX6_findParts_20 ?_
    exact h
theorem bX6_findParts_33 {d : Nat} {P : q_Mem → Prop} {M : q_Mem} (x1 x2 : Int) (k1 : q_kd x1 = 4) (h : (((M x1 1) ≤ x2) → P M) ∧ ((¬ ((M x1 1) ≤ x2)) → (0 ≤ x2 ∧ x2 < (16 : Int)) ∧ ((0 ≤ (M (q_lay x1 4) x2) ∧ (M (q_lay x1 4) x2) < (10 : Int)) ∧ (∀ x3_3 : Int, x3_3 = (M 97 (M (q_lay x1 4) x2)) → (0 ≤ x2 ∧ x2 < (16 : Int)) ∧ ((0 ≤ (M (q_lay x1 5) x2) ∧ (M (q_lay x1 5) x2) < (10 : Int)) ∧ (∀ x4_6 : Int, x4_6 = (M 97 (M (q_lay x1 5) x2)) → ((x3_3 = x4_6) → q_v mX6_findParts d (qPU P) M 33 [some (qR 91), some (qR x1), some (qI (q_add x2 1)), none, none] []) ∧ ((¬ (x3_3 = x4_6)) → (∀ M7 : q_Mem, M7 = q_up M 91 1 (q_sub (M 91 1) 1) → q_kI yJ9_max_7cf53 mJ9_max_7cf53 d [qI x3_3, qI x4_6] M7 (fun v9 M8 => q_kI yJ9_min_7cf53 mJ9_min_7cf53 d [qI x3_3, qI x4_6] M8 (fun v11 M10 => q_kU yX6_rename mX6_rename d [qR 91, qI v9, qI v11, qI (M10 x1 0)] M10 (fun M12 => q_v mX6_findParts d (qPU P) M12 33 [some (qR 91), some (qR x1), some (qI (q_add x2 1)), none, none] []))))))))))) : q_v mX6_findParts d (qPU P) M 33 [some (qR 91), some (qR x1), some (qI x2), none, none] [] := by
  refine qr_iload_n 33 34 rfl (x := x2) rfl dX6_findParts_33 ?_
  refine qr_aload_n 34 35 rfl (x := x1) rfl dX6_findParts_34 ?_
  refine qg_i 35 38 rfl ck4 1 (kk := 1) (by decide) k1 (by decide +kernel) rfl wm_66 rfl dX6_findParts_35 ?_
  refine qr_icmp_ge 38 41 108 rfl (by decide) dX6_findParts_38 (fun c38 => ?_) (fun c38 => ?_)
  · have h := h.1 c38
    exact qe_u 108 rfl dX6_findParts_108 h
  · have h := h.2 c38
    refine qr_aload_n 41 42 rfl (x := 91) rfl dX6_findParts_41 ?_
    refine qr_getF 42 45 rfl ck6 8 (by decide) (b := 97) (by decide +kernel) rfl (by decide +kernel) (by decide +kernel) wm_234 rfl dX6_findParts_42 ?_
    refine qr_aload_n 45 46 rfl (x := x1) rfl dX6_findParts_45 ?_
    refine qr_getF 46 49 rfl ck4 4 (by decide) (b := (q_lay x1 4)) k1 rfl (by decide +kernel) rfl wm_76 rfl dX6_findParts_46 ?_
    refine qr_iload_n 49 50 rfl (x := x2) rfl dX6_findParts_49 ?_
    have hb1 := h.1
    have h := h.2
    refine qi_ld 50 51 rfl (N := 16) (lk4_4 _ k1) (ll4_4 _ k1) hb1.1 hb1.2 dX6_findParts_50 ?_
    have hb2 := h.1
    have h := h.2
    refine qi_ld 51 52 rfl (N := 10) (by decide +kernel) (by decide +kernel) hb2.1 hb2.2 dX6_findParts_51 ?_
    refine qn_i 52 (fun x3_3 e_x3_3 => ?_)
    have h := h x3_3 e_x3_3
    refine qr_istore_n 52 53 rfl (by decide) rfl rfl dX6_findParts_52 ?_
    refine qr_aload_n 53 54 rfl (x := 91) rfl dX6_findParts_53 ?_
    refine qr_getF 54 57 rfl ck6 8 (by decide) (b := 97) (by decide +kernel) rfl (by decide +kernel) (by decide +kernel) wm_234 rfl dX6_findParts_54 ?_
    refine qr_aload_n 57 58 rfl (x := x1) rfl dX6_findParts_57 ?_
    refine qr_getF 58 61 rfl ck4 5 (by decide) (b := (q_lay x1 5)) k1 rfl (by decide +kernel) rfl wm_80 rfl dX6_findParts_58 ?_
    refine qr_iload_n 61 62 rfl (x := x2) rfl dX6_findParts_61 ?_
    have hb4 := h.1
    have h := h.2
    refine qi_ld 62 63 rfl (N := 16) (lk4_5 _ k1) (ll4_5 _ k1) hb4.1 hb4.2 dX6_findParts_62 ?_
    have hb5 := h.1
    have h := h.2
    refine qi_ld 63 64 rfl (N := 10) (by decide +kernel) (by decide +kernel) hb5.1 hb5.2 dX6_findParts_63 ?_
    refine qn_i 64 (fun x4_6 e_x4_6 => ?_)
    have h := h x4_6 e_x4_6
    refine qr_istore 64 66 rfl (by decide) rfl rfl dX6_findParts_64 ?_
    refine qr_iload_n 66 67 rfl (x := x3_3) rfl dX6_findParts_66 ?_
    refine qr_iload 67 69 rfl (x := x4_6) rfl dX6_findParts_67 ?_
    refine qr_icmp_eq 69 72 102 rfl (by decide) dX6_findParts_69 (fun c69 => ?_) (fun c69 => ?_)
    · have h := h.1 c69
      refine qr_iinc 102 105 rfl (by decide) (x := x2) rfl rfl rfl dX6_findParts_102 ?_
      refine qr_goto 105 33 (by decide) dX6_findParts_105 ?_
      exact qr_cut 33 (ls' := [some (qR 91), some (qR x1), some (qI (q_add x2 1)), none, none]) (And.intro rfl (And.intro rfl (And.intro rfl trivial))) h
    · have h := h.2 c69
      refine qr_aload_n 72 73 rfl (x := 91) rfl dX6_findParts_72 ?_
      refine qr_dup 73 74 rfl rfl dX6_findParts_73 ?_
      refine qg_i 74 77 rfl ck6 1 (kk := 1) (by decide) (by decide +kernel) (by decide +kernel) rfl wm_219 rfl dX6_findParts_74 ?_
      refine qr_iconst 77 78 rfl (q_l32 _ rfl) dX6_findParts_77 ?_
      refine qr_isub 78 79 rfl dX6_findParts_78 ?_
      refine qp_i 79 82 rfl ck6 1 (kk := 1) (by decide) (by decide +kernel) (by decide) rfl rfl wm_219 rfl dX6_findParts_79 (fun M7 e_M7 => ?_)
      have h := h M7 e_M7
      refine qr_aload_n 82 83 rfl (x := 91) rfl dX6_findParts_82 ?_
      refine qr_iload_n 83 84 rfl (x := x3_3) rfl dX6_findParts_83 ?_
      refine qr_iload 84 86 rfl (x := x4_6) rfl dX6_findParts_84 ?_
      refine qs_I 86 89 rfl (av := [qI x3_3, qI x4_6]) ca_J9_max_7cf53 wm_520 wm_778 rfl rfl (Nat.le_of_ble_eq_true rfl) dX6_findParts_86 h (fun v9 M8 h => ?_)
      refine qr_iload_n 89 90 rfl (x := x3_3) rfl dX6_findParts_89 ?_
      refine qr_iload 90 92 rfl (x := x4_6) rfl dX6_findParts_90 ?_
      refine qs_I 92 95 rfl (av := [qI x3_3, qI x4_6]) ca_J9_min_7cf53 wm_452 wm_779 rfl rfl (Nat.le_of_ble_eq_true rfl) dX6_findParts_92 h (fun v11 M10 h => ?_)
      refine qr_aload_n 95 96 rfl (x := x1) rfl dX6_findParts_95 ?_
      refine qg_i 96 99 rfl ck4 0 (kk := 0) (by decide) k1 (by decide +kernel) rfl wm_61 rfl dX6_findParts_96 ?_
      refine qw_U 99 102 rfl (av := [qI v9, qI v11, qI (M10 x1 0)]) ca_X6_rename wm_782 wp_34 wm_780 ck6 (by decide +kernel) rfl rfl (Nat.le_of_ble_eq_true rfl) dX6_findParts_99 h (fun M12 h => ?_)
      refine qr_iinc 102 105 rfl (by decide) (x := x2) rfl rfl rfl dX6_findParts_102 ?_
      refine qr_goto 105 33 (by decide) dX6_findParts_105 ?_
      exact qr_cut 33 (ls' := [some (qR 91), some (qR x1), some (qI (q_add x2 1)), none, none]) (And.intro rfl (And.intro rfl (And.intro rfl trivial))) h
theorem dX6_rename_0 : decode cX6_rename 0 = .ok (.iconst 0, 1) := by decide +kernel
theorem dX6_rename_1 : decode cX6_rename 1 = .ok (.istore 4, 2) := by decide +kernel
theorem dX6_rename_3 : decode cX6_rename 3 = .ok (.iload 4, 2) := by decide +kernel
theorem dX6_rename_5 : decode cX6_rename 5 = .ok (.iload_n 3, 1) := by decide +kernel
theorem dX6_rename_6 : decode cX6_rename 6 = .ok (.if_icmp .ge 28, 3) := by decide +kernel
theorem dX6_rename_9 : decode cX6_rename 9 = .ok (.aload_n 0, 1) := by decide +kernel
theorem dX6_rename_10 : decode cX6_rename 10 = .ok (.getfield 27, 3) := by decide +kernel
theorem dX6_rename_13 : decode cX6_rename 13 = .ok (.iload 4, 2) := by decide +kernel
theorem dX6_rename_15 : decode cX6_rename 15 = .ok (.iaload, 1) := by decide +kernel
theorem dX6_rename_16 : decode cX6_rename 16 = .ok (.iload_n 1, 1) := by decide +kernel
theorem dX6_rename_17 : decode cX6_rename 17 = .ok (.if_icmp .ne 11, 3) := by decide +kernel
theorem dX6_rename_20 : decode cX6_rename 20 = .ok (.aload_n 0, 1) := by decide +kernel
theorem dX6_rename_21 : decode cX6_rename 21 = .ok (.getfield 27, 3) := by decide +kernel
theorem dX6_rename_24 : decode cX6_rename 24 = .ok (.iload 4, 2) := by decide +kernel
theorem dX6_rename_26 : decode cX6_rename 26 = .ok (.iload_n 2, 1) := by decide +kernel
theorem dX6_rename_27 : decode cX6_rename 27 = .ok (.iastore, 1) := by decide +kernel
theorem dX6_rename_28 : decode cX6_rename 28 = .ok (.iinc 4 1, 3) := by decide +kernel
theorem dX6_rename_31 : decode cX6_rename 31 = .ok (.goto (-28), 3) := by decide +kernel
theorem dX6_rename_34 : decode cX6_rename 34 = .ok (.return_, 1) := by decide +kernel
theorem bX6_rename_0 {d : Nat} {P : q_Mem → Prop} {M : q_Mem} (x1 x2 x3 : Int) (h : q_v mX6_rename d (qPU P) M 3 [some (qR 91), some (qI x1), some (qI x2), some (qI x3), some (qI 0)] []) : q_v mX6_rename d (qPU P) M 0 [some (qR 91), some (qI x1), some (qI x2), some (qI x3), none] [] := by
  refine qr_iconst 0 1 rfl (q_l32 _ rfl) dX6_rename_0 ?_
  refine qr_istore 1 3 rfl (by decide) rfl rfl dX6_rename_1 ?_
  exact h
theorem bX6_rename_3 {d : Nat} {P : q_Mem → Prop} {M : q_Mem} (x1 x2 x3 x4 : Int) (h : ((x3 ≤ x4) → P M) ∧ ((¬ (x3 ≤ x4)) → (0 ≤ x4 ∧ x4 < (10 : Int)) ∧ (((¬ (M 97 x4) = x1) → q_v mX6_rename d (qPU P) M 3 [some (qR 91), some (qI x1), some (qI x2), some (qI x3), some (qI (q_add x4 1))] []) ∧ (((M 97 x4) = x1) → (0 ≤ x4 ∧ x4 < (10 : Int)) ∧ (∀ M3 : q_Mem, M3 = q_up M 97 x4 x2 → q_v mX6_rename d (qPU P) M3 3 [some (qR 91), some (qI x1), some (qI x2), some (qI x3), some (qI (q_add x4 1))] []))))) : q_v mX6_rename d (qPU P) M 3 [some (qR 91), some (qI x1), some (qI x2), some (qI x3), some (qI x4)] [] := by
  refine qr_iload 3 5 rfl (x := x4) rfl dX6_rename_3 ?_
  refine qr_iload_n 5 6 rfl (x := x3) rfl dX6_rename_5 ?_
  refine qr_icmp_ge 6 9 34 rfl (by decide) dX6_rename_6 (fun c6 => ?_) (fun c6 => ?_)
  · have h := h.1 c6
    exact qe_u 34 rfl dX6_rename_34 h
  · have h := h.2 c6
    refine qr_aload_n 9 10 rfl (x := 91) rfl dX6_rename_9 ?_
    refine qr_getF 10 13 rfl ck6 8 (by decide) (b := 97) (by decide +kernel) rfl (by decide +kernel) (by decide +kernel) wm_234 rfl dX6_rename_10 ?_
    refine qr_iload 13 15 rfl (x := x4) rfl dX6_rename_13 ?_
    have hb1 := h.1
    have h := h.2
    refine qi_ld 15 16 rfl (N := 10) (by decide +kernel) (by decide +kernel) hb1.1 hb1.2 dX6_rename_15 ?_
    refine qr_iload_n 16 17 rfl (x := x1) rfl dX6_rename_16 ?_
    refine qr_icmp_ne 17 20 28 rfl (by decide) dX6_rename_17 (fun c17 => ?_) (fun c17 => ?_)
    · have h := h.1 c17
      refine qr_iinc 28 31 rfl (by decide) (x := x4) rfl rfl rfl dX6_rename_28 ?_
      refine qr_goto 31 3 (by decide) dX6_rename_31 ?_
      exact h
    · have h := h.2 c17
      refine qr_aload_n 20 21 rfl (x := 91) rfl dX6_rename_20 ?_
      refine qr_getF 21 24 rfl ck6 8 (by decide) (b := 97) (by decide +kernel) rfl (by decide +kernel) (by decide +kernel) wm_234 rfl dX6_rename_21 ?_
      refine qr_iload 24 26 rfl (x := x4) rfl dX6_rename_24 ?_
      refine qr_iload_n 26 27 rfl (x := x2) rfl dX6_rename_26 ?_
      have hb2 := h.1
      have h := h.2
      refine qi_st 27 28 rfl (N := 10) (by decide +kernel) (by decide +kernel) hb2.1 hb2.2 dX6_rename_27 (fun M3 e_M3 => ?_)
      have h := h M3 e_M3
      refine qr_iinc 28 31 rfl (by decide) (x := x4) rfl rfl rfl dX6_rename_28 ?_
      refine qr_goto 31 3 (by decide) dX6_rename_31 ?_
      exact h
theorem dX6_dartAt_0 : decode cX6_dartAt 0 = .ok (.iload_n 2, 1) := by decide +kernel
theorem dX6_dartAt_1 : decode cX6_dartAt 1 = .ok (.aload_n 0, 1) := by decide +kernel
theorem dX6_dartAt_2 : decode cX6_dartAt 2 = .ok (.getfield 21, 3) := by decide +kernel
theorem dX6_dartAt_5 : decode cX6_dartAt 5 = .ok (.iload_n 1, 1) := by decide +kernel
theorem dX6_dartAt_6 : decode cX6_dartAt 6 = .ok (.iaload, 1) := by decide +kernel
theorem dX6_dartAt_7 : decode cX6_dartAt 7 = .ok (.if_icmp .lt 5, 3) := by decide +kernel
theorem dX6_dartAt_10 : decode cX6_dartAt 10 = .ok (.iconst (-1), 1) := by decide +kernel
theorem dX6_dartAt_11 : decode cX6_dartAt 11 = .ok (.ireturn, 1) := by decide +kernel
theorem dX6_dartAt_12 : decode cX6_dartAt 12 = .ok (.aload_n 0, 1) := by decide +kernel
theorem dX6_dartAt_13 : decode cX6_dartAt 13 = .ok (.getfield 18, 3) := by decide +kernel
theorem dX6_dartAt_16 : decode cX6_dartAt 16 = .ok (.iload_n 1, 1) := by decide +kernel
theorem dX6_dartAt_17 : decode cX6_dartAt 17 = .ok (.iaload, 1) := by decide +kernel
theorem dX6_dartAt_18 : decode cX6_dartAt 18 = .ok (.istore_n 3, 1) := by decide +kernel
theorem dX6_dartAt_19 : decode cX6_dartAt 19 = .ok (.iconst 0, 1) := by decide +kernel
theorem dX6_dartAt_20 : decode cX6_dartAt 20 = .ok (.istore 4, 2) := by decide +kernel
theorem dX6_dartAt_22 : decode cX6_dartAt 22 = .ok (.iload 4, 2) := by decide +kernel
theorem dX6_dartAt_24 : decode cX6_dartAt 24 = .ok (.iload_n 2, 1) := by decide +kernel
theorem dX6_dartAt_25 : decode cX6_dartAt 25 = .ok (.if_icmp .ge 16, 3) := by decide +kernel
theorem dX6_dartAt_28 : decode cX6_dartAt 28 = .ok (.aload_n 0, 1) := by decide +kernel
theorem dX6_dartAt_29 : decode cX6_dartAt 29 = .ok (.getfield 9, 3) := by decide +kernel
theorem dX6_dartAt_32 : decode cX6_dartAt 32 = .ok (.iload_n 3, 1) := by decide +kernel
theorem dX6_dartAt_33 : decode cX6_dartAt 33 = .ok (.iaload, 1) := by decide +kernel
theorem dX6_dartAt_34 : decode cX6_dartAt 34 = .ok (.istore_n 3, 1) := by decide +kernel
theorem dX6_dartAt_35 : decode cX6_dartAt 35 = .ok (.iinc 4 1, 3) := by decide +kernel
theorem dX6_dartAt_38 : decode cX6_dartAt 38 = .ok (.goto (-16), 3) := by decide +kernel
theorem dX6_dartAt_41 : decode cX6_dartAt 41 = .ok (.iload_n 3, 1) := by decide +kernel
theorem dX6_dartAt_42 : decode cX6_dartAt 42 = .ok (.ireturn, 1) := by decide +kernel
theorem bX6_dartAt_0 {d : Nat} {P : Int → q_Mem → Prop} {M : q_Mem} (x1 x2 : Int) (h : (0 ≤ x1 ∧ x1 < (16 : Int)) ∧ (((x2 < (M 95 x1)) → (0 ≤ x1 ∧ x1 < (16 : Int)) ∧ (∀ x3_3 : Int, x3_3 = (M 94 x1) → q_v mX6_dartAt d (qPI P) M 22 [some (qR 91), none, some (qI x2), some (qI x3_3), some (qI 0)] [])) ∧ ((¬ (x2 < (M 95 x1))) → P (-1) M))) : q_v mX6_dartAt d (qPI P) M 0 [some (qR 91), some (qI x1), some (qI x2), none, none] [] := by
  refine qr_iload_n 0 1 rfl (x := x2) rfl dX6_dartAt_0 ?_
  refine qr_aload_n 1 2 rfl (x := 91) rfl dX6_dartAt_1 ?_
  refine qr_getF 2 5 rfl ck6 6 (by decide) (b := 95) (by decide +kernel) rfl (by decide +kernel) (by decide +kernel) wm_230 rfl dX6_dartAt_2 ?_
  refine qr_iload_n 5 6 rfl (x := x1) rfl dX6_dartAt_5 ?_
  have hb1 := h.1
  have h := h.2
  refine qi_ld 6 7 rfl (N := 16) (by decide +kernel) (by decide +kernel) hb1.1 hb1.2 dX6_dartAt_6 ?_
  refine qr_icmp_lt 7 10 12 rfl (by decide) dX6_dartAt_7 (fun c7 => ?_) (fun c7 => ?_)
  · have h := h.1 c7
    refine qr_aload_n 12 13 rfl (x := 91) rfl dX6_dartAt_12 ?_
    refine qr_getF 13 16 rfl ck6 5 (by decide) (b := 94) (by decide +kernel) rfl (by decide +kernel) (by decide +kernel) wm_228 rfl dX6_dartAt_13 ?_
    refine qr_iload_n 16 17 rfl (x := x1) rfl dX6_dartAt_16 ?_
    have hb2 := h.1
    have h := h.2
    refine qi_ld 17 18 rfl (N := 16) (by decide +kernel) (by decide +kernel) hb2.1 hb2.2 dX6_dartAt_17 ?_
    refine qn_i 18 (fun x3_3 e_x3_3 => ?_)
    have h := h x3_3 e_x3_3
    refine qr_istore_n 18 19 rfl (by decide) rfl rfl dX6_dartAt_18 ?_
    refine qr_iconst 19 20 rfl (q_l32 _ rfl) dX6_dartAt_19 ?_
    refine qr_istore 20 22 rfl (by decide) rfl rfl dX6_dartAt_20 ?_
    exact qr_cut 22 (ls' := [some (qR 91), none, some (qI x2), some (qI x3_3), some (qI 0)]) (And.intro rfl (And.intro rfl (And.intro rfl (And.intro rfl trivial)))) h
  · have h := h.2 c7
    refine qr_iconst 10 11 rfl (q_l32 _ rfl) dX6_dartAt_10 ?_
    exact qe_i 11 rfl dX6_dartAt_11 h
theorem bX6_dartAt_22 {d : Nat} {P : Int → q_Mem → Prop} {M : q_Mem} (x2 x3 x4 : Int) (h : ((x2 ≤ x4) → P x3 M) ∧ ((¬ (x2 ≤ x4)) → (0 ≤ x3 ∧ x3 < (32 : Int)) ∧ (∀ x3_2 : Int, x3_2 = (M 92 x3) → q_v mX6_dartAt d (qPI P) M 22 [some (qR 91), none, some (qI x2), some (qI x3_2), some (qI (q_add x4 1))] []))) : q_v mX6_dartAt d (qPI P) M 22 [some (qR 91), none, some (qI x2), some (qI x3), some (qI x4)] [] := by
  refine qr_iload 22 24 rfl (x := x4) rfl dX6_dartAt_22 ?_
  refine qr_iload_n 24 25 rfl (x := x2) rfl dX6_dartAt_24 ?_
  refine qr_icmp_ge 25 28 41 rfl (by decide) dX6_dartAt_25 (fun c25 => ?_) (fun c25 => ?_)
  · have h := h.1 c25
    refine qr_iload_n 41 42 rfl (x := x3) rfl dX6_dartAt_41 ?_
    exact qe_i 42 rfl dX6_dartAt_42 h
  · have h := h.2 c25
    refine qr_aload_n 28 29 rfl (x := 91) rfl dX6_dartAt_28 ?_
    refine qr_getF 29 32 rfl ck6 3 (by decide) (b := 92) (by decide +kernel) rfl (by decide +kernel) (by decide +kernel) wm_223 rfl dX6_dartAt_29 ?_
    refine qr_iload_n 32 33 rfl (x := x3) rfl dX6_dartAt_32 ?_
    have hb1 := h.1
    have h := h.2
    refine qi_ld 33 34 rfl (N := 32) (by decide +kernel) (by decide +kernel) hb1.1 hb1.2 dX6_dartAt_33 ?_
    refine qn_i 34 (fun x3_2 e_x3_2 => ?_)
    have h := h x3_2 e_x3_2
    refine qr_istore_n 34 35 rfl (by decide) rfl rfl dX6_dartAt_34 ?_
    refine qr_iinc 35 38 rfl (by decide) (x := x4) rfl rfl rfl dX6_dartAt_35 ?_
    refine qr_goto 38 22 (by decide) dX6_dartAt_38 ?_
    exact h
theorem dX6_oddFaces_0 : decode cX6_oddFaces 0 = .ok (.iconst 0, 1) := by decide +kernel
theorem dX6_oddFaces_1 : decode cX6_oddFaces 1 = .ok (.istore_n 2, 1) := by decide +kernel
theorem dX6_oddFaces_2 : decode cX6_oddFaces 2 = .ok (.iconst 0, 1) := by decide +kernel
theorem dX6_oddFaces_3 : decode cX6_oddFaces 3 = .ok (.istore_n 3, 1) := by decide +kernel
theorem dX6_oddFaces_4 : decode cX6_oddFaces 4 = .ok (.iload_n 3, 1) := by decide +kernel
theorem dX6_oddFaces_5 : decode cX6_oddFaces 5 = .ok (.bipush 16, 2) := by decide +kernel
theorem dX6_oddFaces_7 : decode cX6_oddFaces 7 = .ok (.if_icmp .ge 43, 3) := by decide +kernel
theorem dX6_oddFaces_10 : decode cX6_oddFaces 10 = .ok (.iload_n 1, 1) := by decide +kernel
theorem dX6_oddFaces_11 : decode cX6_oddFaces 11 = .ok (.iload_n 3, 1) := by decide +kernel
theorem dX6_oddFaces_12 : decode cX6_oddFaces 12 = .ok (.ishr, 1) := by decide +kernel
theorem dX6_oddFaces_13 : decode cX6_oddFaces 13 = .ok (.iconst 1, 1) := by decide +kernel
theorem dX6_oddFaces_14 : decode cX6_oddFaces 14 = .ok (.iand, 1) := by decide +kernel
theorem dX6_oddFaces_15 : decode cX6_oddFaces 15 = .ok (.ifCond .eq 29, 3) := by decide +kernel
theorem dX6_oddFaces_18 : decode cX6_oddFaces 18 = .ok (.iload_n 2, 1) := by decide +kernel
theorem dX6_oddFaces_19 : decode cX6_oddFaces 19 = .ok (.iconst 1, 1) := by decide +kernel
theorem dX6_oddFaces_20 : decode cX6_oddFaces 20 = .ok (.aload_n 0, 1) := by decide +kernel
theorem dX6_oddFaces_21 : decode cX6_oddFaces 21 = .ok (.getfield 15, 3) := by decide +kernel
theorem dX6_oddFaces_24 : decode cX6_oddFaces 24 = .ok (.iconst 2, 1) := by decide +kernel
theorem dX6_oddFaces_25 : decode cX6_oddFaces 25 = .ok (.iload_n 3, 1) := by decide +kernel
theorem dX6_oddFaces_26 : decode cX6_oddFaces 26 = .ok (.imul, 1) := by decide +kernel
theorem dX6_oddFaces_27 : decode cX6_oddFaces 27 = .ok (.iaload, 1) := by decide +kernel
theorem dX6_oddFaces_28 : decode cX6_oddFaces 28 = .ok (.ishl, 1) := by decide +kernel
theorem dX6_oddFaces_29 : decode cX6_oddFaces 29 = .ok (.iconst 1, 1) := by decide +kernel
theorem dX6_oddFaces_30 : decode cX6_oddFaces 30 = .ok (.aload_n 0, 1) := by decide +kernel
theorem dX6_oddFaces_31 : decode cX6_oddFaces 31 = .ok (.getfield 15, 3) := by decide +kernel
theorem dX6_oddFaces_34 : decode cX6_oddFaces 34 = .ok (.iconst 2, 1) := by decide +kernel
theorem dX6_oddFaces_35 : decode cX6_oddFaces 35 = .ok (.iload_n 3, 1) := by decide +kernel
theorem dX6_oddFaces_36 : decode cX6_oddFaces 36 = .ok (.imul, 1) := by decide +kernel
theorem dX6_oddFaces_37 : decode cX6_oddFaces 37 = .ok (.iconst 1, 1) := by decide +kernel
theorem dX6_oddFaces_38 : decode cX6_oddFaces 38 = .ok (.iadd, 1) := by decide +kernel
theorem dX6_oddFaces_39 : decode cX6_oddFaces 39 = .ok (.iaload, 1) := by decide +kernel
theorem dX6_oddFaces_40 : decode cX6_oddFaces 40 = .ok (.ishl, 1) := by decide +kernel
theorem dX6_oddFaces_41 : decode cX6_oddFaces 41 = .ok (.ixor, 1) := by decide +kernel
theorem dX6_oddFaces_42 : decode cX6_oddFaces 42 = .ok (.ixor, 1) := by decide +kernel
theorem dX6_oddFaces_43 : decode cX6_oddFaces 43 = .ok (.istore_n 2, 1) := by decide +kernel
theorem dX6_oddFaces_44 : decode cX6_oddFaces 44 = .ok (.iinc 3 1, 3) := by decide +kernel
theorem dX6_oddFaces_47 : decode cX6_oddFaces 47 = .ok (.goto (-43), 3) := by decide +kernel
theorem dX6_oddFaces_50 : decode cX6_oddFaces 50 = .ok (.iload_n 2, 1) := by decide +kernel
theorem dX6_oddFaces_51 : decode cX6_oddFaces 51 = .ok (.ireturn, 1) := by decide +kernel
theorem bX6_oddFaces_0 {d : Nat} {P : Int → q_Mem → Prop} {M : q_Mem} (x1 : Int) (h : q_v mX6_oddFaces d (qPI P) M 4 [some (qR 91), some (qI x1), some (qI 0), some (qI 0)] []) : q_v mX6_oddFaces d (qPI P) M 0 [some (qR 91), some (qI x1), none, none] [] := by
  refine qr_iconst 0 1 rfl (q_l32 _ rfl) dX6_oddFaces_0 ?_
  refine qr_istore_n 1 2 rfl (by decide) rfl rfl dX6_oddFaces_1 ?_
  refine qr_iconst 2 3 rfl (q_l32 _ rfl) dX6_oddFaces_2 ?_
  refine qr_istore_n 3 4 rfl (by decide) rfl rfl dX6_oddFaces_3 ?_
  exact h
theorem bX6_oddFaces_4 {d : Nat} {P : Int → q_Mem → Prop} {M : q_Mem} (x1 x2 x3 : Int) (h : (((16 : Int) ≤ x3) → P x2 M) ∧ ((¬ ((16 : Int) ≤ x3)) → (((q_and (q_shr x1 x3) 1) = 0) → q_v mX6_oddFaces d (qPI P) M 4 [some (qR 91), some (qI x1), some (qI x2), some (qI (q_add x3 1))] []) ∧ ((¬ ((q_and (q_shr x1 x3) 1) = 0)) → (0 ≤ (q_mul 2 x3) ∧ (q_mul 2 x3) < (32 : Int)) ∧ ((0 ≤ (q_add (q_mul 2 x3) 1) ∧ (q_add (q_mul 2 x3) 1) < (32 : Int)) ∧ (∀ x2_3 : Int, x2_3 = (q_xor x2 (q_xor (q_shl 1 (M 93 (q_mul 2 x3))) (q_shl 1 (M 93 (q_add (q_mul 2 x3) 1))))) → q_v mX6_oddFaces d (qPI P) M 4 [some (qR 91), some (qI x1), some (qI x2_3), some (qI (q_add x3 1))] []))))) : q_v mX6_oddFaces d (qPI P) M 4 [some (qR 91), some (qI x1), some (qI x2), some (qI x3)] [] := by
  refine qr_iload_n 4 5 rfl (x := x3) rfl dX6_oddFaces_4 ?_
  refine qr_bipush 5 7 rfl (q_l32 _ rfl) (by decide) dX6_oddFaces_5 ?_
  refine qr_icmp_ge 7 10 50 rfl (by decide) dX6_oddFaces_7 (fun c7 => ?_) (fun c7 => ?_)
  · have h := h.1 c7
    refine qr_iload_n 50 51 rfl (x := x2) rfl dX6_oddFaces_50 ?_
    exact qe_i 51 rfl dX6_oddFaces_51 h
  · have h := h.2 c7
    refine qr_iload_n 10 11 rfl (x := x1) rfl dX6_oddFaces_10 ?_
    refine qr_iload_n 11 12 rfl (x := x3) rfl dX6_oddFaces_11 ?_
    refine qr_ishr 12 13 rfl dX6_oddFaces_12 ?_
    refine qr_iconst 13 14 rfl (q_l32 _ rfl) dX6_oddFaces_13 ?_
    refine qr_iand 14 15 rfl dX6_oddFaces_14 ?_
    refine qr_if_eq 15 18 44 rfl (by decide) dX6_oddFaces_15 (fun c15 => ?_) (fun c15 => ?_)
    · have h := h.1 c15
      refine qr_iinc 44 47 rfl (by decide) (x := x3) rfl rfl rfl dX6_oddFaces_44 ?_
      refine qr_goto 47 4 (by decide) dX6_oddFaces_47 ?_
      exact h
    · have h := h.2 c15
      refine qr_iload_n 18 19 rfl (x := x2) rfl dX6_oddFaces_18 ?_
      refine qr_iconst 19 20 rfl (q_l32 _ rfl) dX6_oddFaces_19 ?_
      refine qr_aload_n 20 21 rfl (x := 91) rfl dX6_oddFaces_20 ?_
      refine qr_getF 21 24 rfl ck6 4 (by decide) (b := 93) (by decide +kernel) rfl (by decide +kernel) (by decide +kernel) wm_225 rfl dX6_oddFaces_21 ?_
      refine qr_iconst 24 25 rfl (q_l32 _ rfl) dX6_oddFaces_24 ?_
      refine qr_iload_n 25 26 rfl (x := x3) rfl dX6_oddFaces_25 ?_
      refine qr_imul 26 27 rfl dX6_oddFaces_26 ?_
      have hb1 := h.1
      have h := h.2
      refine qi_ld 27 28 rfl (N := 32) (by decide +kernel) (by decide +kernel) hb1.1 hb1.2 dX6_oddFaces_27 ?_
      refine qr_ishl 28 29 rfl dX6_oddFaces_28 ?_
      refine qr_iconst 29 30 rfl (q_l32 _ rfl) dX6_oddFaces_29 ?_
      refine qr_aload_n 30 31 rfl (x := 91) rfl dX6_oddFaces_30 ?_
      refine qr_getF 31 34 rfl ck6 4 (by decide) (b := 93) (by decide +kernel) rfl (by decide +kernel) (by decide +kernel) wm_225 rfl dX6_oddFaces_31 ?_
      refine qr_iconst 34 35 rfl (q_l32 _ rfl) dX6_oddFaces_34 ?_
      refine qr_iload_n 35 36 rfl (x := x3) rfl dX6_oddFaces_35 ?_
      refine qr_imul 36 37 rfl dX6_oddFaces_36 ?_
      refine qr_iconst 37 38 rfl (q_l32 _ rfl) dX6_oddFaces_37 ?_
      refine qr_iadd 38 39 rfl dX6_oddFaces_38 ?_
      have hb2 := h.1
      have h := h.2
      refine qi_ld 39 40 rfl (N := 32) (by decide +kernel) (by decide +kernel) hb2.1 hb2.2 dX6_oddFaces_39 ?_
      refine qr_ishl 40 41 rfl dX6_oddFaces_40 ?_
      refine qr_ixor 41 42 rfl dX6_oddFaces_41 ?_
      refine qr_ixor 42 43 rfl dX6_oddFaces_42 ?_
      refine qn_i 43 (fun x2_3 e_x2_3 => ?_)
      have h := h x2_3 e_x2_3
      refine qr_istore_n 43 44 rfl (by decide) rfl rfl dX6_oddFaces_43 ?_
      refine qr_iinc 44 47 rfl (by decide) (x := x3) rfl rfl rfl dX6_oddFaces_44 ?_
      refine qr_goto 47 4 (by decide) dX6_oddFaces_47 ?_
      exact h
theorem dX6_beyond_0 : decode cX6_beyond 0 = .ok (.aload_n 0, 1) := by decide +kernel
theorem dX6_beyond_1 : decode cX6_beyond 1 = .ok (.getfield 15, 3) := by decide +kernel
theorem dX6_beyond_4 : decode cX6_beyond 4 = .ok (.iconst 2, 1) := by decide +kernel
theorem dX6_beyond_5 : decode cX6_beyond 5 = .ok (.iload_n 1, 1) := by decide +kernel
theorem dX6_beyond_6 : decode cX6_beyond 6 = .ok (.imul, 1) := by decide +kernel
theorem dX6_beyond_7 : decode cX6_beyond 7 = .ok (.iaload, 1) := by decide +kernel
theorem dX6_beyond_8 : decode cX6_beyond 8 = .ok (.istore_n 3, 1) := by decide +kernel
theorem dX6_beyond_9 : decode cX6_beyond 9 = .ok (.aload_n 0, 1) := by decide +kernel
theorem dX6_beyond_10 : decode cX6_beyond 10 = .ok (.getfield 15, 3) := by decide +kernel
theorem dX6_beyond_13 : decode cX6_beyond 13 = .ok (.iconst 2, 1) := by decide +kernel
theorem dX6_beyond_14 : decode cX6_beyond 14 = .ok (.iload_n 1, 1) := by decide +kernel
theorem dX6_beyond_15 : decode cX6_beyond 15 = .ok (.imul, 1) := by decide +kernel
theorem dX6_beyond_16 : decode cX6_beyond 16 = .ok (.iconst 1, 1) := by decide +kernel
theorem dX6_beyond_17 : decode cX6_beyond 17 = .ok (.iadd, 1) := by decide +kernel
theorem dX6_beyond_18 : decode cX6_beyond 18 = .ok (.iaload, 1) := by decide +kernel
theorem dX6_beyond_19 : decode cX6_beyond 19 = .ok (.istore 4, 2) := by decide +kernel
theorem dX6_beyond_21 : decode cX6_beyond 21 = .ok (.iload_n 3, 1) := by decide +kernel
theorem dX6_beyond_22 : decode cX6_beyond 22 = .ok (.iload 4, 2) := by decide +kernel
theorem dX6_beyond_24 : decode cX6_beyond 24 = .ok (.if_icmp .ne 5, 3) := by decide +kernel
theorem dX6_beyond_27 : decode cX6_beyond 27 = .ok (.iconst (-1), 1) := by decide +kernel
theorem dX6_beyond_28 : decode cX6_beyond 28 = .ok (.ireturn, 1) := by decide +kernel
theorem dX6_beyond_29 : decode cX6_beyond 29 = .ok (.iload_n 3, 1) := by decide +kernel
theorem dX6_beyond_30 : decode cX6_beyond 30 = .ok (.iload_n 2, 1) := by decide +kernel
theorem dX6_beyond_31 : decode cX6_beyond 31 = .ok (.if_icmp .ne 6, 3) := by decide +kernel
theorem dX6_beyond_34 : decode cX6_beyond 34 = .ok (.iload 4, 2) := by decide +kernel
theorem dX6_beyond_36 : decode cX6_beyond 36 = .ok (.ireturn, 1) := by decide +kernel
theorem dX6_beyond_37 : decode cX6_beyond 37 = .ok (.iload 4, 2) := by decide +kernel
theorem dX6_beyond_39 : decode cX6_beyond 39 = .ok (.iload_n 2, 1) := by decide +kernel
theorem dX6_beyond_40 : decode cX6_beyond 40 = .ok (.if_icmp .ne 7, 3) := by decide +kernel
theorem dX6_beyond_43 : decode cX6_beyond 43 = .ok (.iload_n 3, 1) := by decide +kernel
theorem dX6_beyond_44 : decode cX6_beyond 44 = .ok (.goto 4, 3) := by decide +kernel
theorem dX6_beyond_47 : decode cX6_beyond 47 = .ok (.iconst (-1), 1) := by decide +kernel
theorem dX6_beyond_48 : decode cX6_beyond 48 = .ok (.ireturn, 1) := by decide +kernel
theorem bX6_beyond_0 {d : Nat} {P : Int → q_Mem → Prop} {M : q_Mem} (x1 x2 : Int) (h : (0 ≤ (q_mul 2 x1) ∧ (q_mul 2 x1) < (32 : Int)) ∧ (∀ x3_2 : Int, x3_2 = (M 93 (q_mul 2 x1)) → (0 ≤ (q_add (q_mul 2 x1) 1) ∧ (q_add (q_mul 2 x1) 1) < (32 : Int)) ∧ (∀ x4_4 : Int, x4_4 = (M 93 (q_add (q_mul 2 x1) 1)) → ((¬ x3_2 = x4_4) → ((¬ x3_2 = x2) → ((¬ x4_4 = x2) → P (-1) M) ∧ ((x4_4 = x2) → P x3_2 M)) ∧ ((x3_2 = x2) → P x4_4 M)) ∧ ((x3_2 = x4_4) → P (-1) M)))) : q_v mX6_beyond d (qPI P) M 0 [some (qR 91), some (qI x1), some (qI x2), none, none] [] := by
  refine qr_aload_n 0 1 rfl (x := 91) rfl dX6_beyond_0 ?_
  refine qr_getF 1 4 rfl ck6 4 (by decide) (b := 93) (by decide +kernel) rfl (by decide +kernel) (by decide +kernel) wm_225 rfl dX6_beyond_1 ?_
  refine qr_iconst 4 5 rfl (q_l32 _ rfl) dX6_beyond_4 ?_
  refine qr_iload_n 5 6 rfl (x := x1) rfl dX6_beyond_5 ?_
  refine qr_imul 6 7 rfl dX6_beyond_6 ?_
  have hb1 := h.1
  have h := h.2
  refine qi_ld 7 8 rfl (N := 32) (by decide +kernel) (by decide +kernel) hb1.1 hb1.2 dX6_beyond_7 ?_
  refine qn_i 8 (fun x3_2 e_x3_2 => ?_)
  have h := h x3_2 e_x3_2
  refine qr_istore_n 8 9 rfl (by decide) rfl rfl dX6_beyond_8 ?_
  refine qr_aload_n 9 10 rfl (x := 91) rfl dX6_beyond_9 ?_
  refine qr_getF 10 13 rfl ck6 4 (by decide) (b := 93) (by decide +kernel) rfl (by decide +kernel) (by decide +kernel) wm_225 rfl dX6_beyond_10 ?_
  refine qr_iconst 13 14 rfl (q_l32 _ rfl) dX6_beyond_13 ?_
  refine qr_iload_n 14 15 rfl (x := x1) rfl dX6_beyond_14 ?_
  refine qr_imul 15 16 rfl dX6_beyond_15 ?_
  refine qr_iconst 16 17 rfl (q_l32 _ rfl) dX6_beyond_16 ?_
  refine qr_iadd 17 18 rfl dX6_beyond_17 ?_
  have hb3 := h.1
  have h := h.2
  refine qi_ld 18 19 rfl (N := 32) (by decide +kernel) (by decide +kernel) hb3.1 hb3.2 dX6_beyond_18 ?_
  refine qn_i 19 (fun x4_4 e_x4_4 => ?_)
  have h := h x4_4 e_x4_4
  refine qr_istore 19 21 rfl (by decide) rfl rfl dX6_beyond_19 ?_
  refine qr_iload_n 21 22 rfl (x := x3_2) rfl dX6_beyond_21 ?_
  refine qr_iload 22 24 rfl (x := x4_4) rfl dX6_beyond_22 ?_
  refine qr_icmp_ne 24 27 29 rfl (by decide) dX6_beyond_24 (fun c24 => ?_) (fun c24 => ?_)
  · have h := h.1 c24
    refine qr_iload_n 29 30 rfl (x := x3_2) rfl dX6_beyond_29 ?_
    refine qr_iload_n 30 31 rfl (x := x2) rfl dX6_beyond_30 ?_
    refine qr_icmp_ne 31 34 37 rfl (by decide) dX6_beyond_31 (fun c31 => ?_) (fun c31 => ?_)
    · have h := h.1 c31
      refine qr_iload 37 39 rfl (x := x4_4) rfl dX6_beyond_37 ?_
      refine qr_iload_n 39 40 rfl (x := x2) rfl dX6_beyond_39 ?_
      refine qr_icmp_ne 40 43 47 rfl (by decide) dX6_beyond_40 (fun c40 => ?_) (fun c40 => ?_)
      · have h := h.1 c40
        refine qr_iconst 47 48 rfl (q_l32 _ rfl) dX6_beyond_47 ?_
        exact qe_i 48 rfl dX6_beyond_48 h
      · have h := h.2 c40
        refine qr_iload_n 43 44 rfl (x := x3_2) rfl dX6_beyond_43 ?_
        refine qr_goto 44 48 (by decide) dX6_beyond_44 ?_
        exact qe_i 48 rfl dX6_beyond_48 h
    · have h := h.2 c31
      refine qr_iload 34 36 rfl (x := x4_4) rfl dX6_beyond_34 ?_
      exact qe_i 36 rfl dX6_beyond_36 h
  · have h := h.2 c24
    refine qr_iconst 27 28 rfl (q_l32 _ rfl) dX6_beyond_27 ?_
    exact qe_i 28 rfl dX6_beyond_28 h
theorem dX6_sidesOf_0 : decode cX6_sidesOf 0 = .ok (.iconst 0, 1) := by decide +kernel
theorem dX6_sidesOf_1 : decode cX6_sidesOf 1 = .ok (.istore_n 3, 1) := by decide +kernel
theorem dX6_sidesOf_2 : decode cX6_sidesOf 2 = .ok (.iconst 0, 1) := by decide +kernel
theorem dX6_sidesOf_3 : decode cX6_sidesOf 3 = .ok (.istore 4, 2) := by decide +kernel
theorem dX6_sidesOf_5 : decode cX6_sidesOf 5 = .ok (.iload 4, 2) := by decide +kernel
theorem dX6_sidesOf_7 : decode cX6_sidesOf 7 = .ok (.aload_n 1, 1) := by decide +kernel
theorem dX6_sidesOf_8 : decode cX6_sidesOf 8 = .ok (.getfield 30, 3) := by decide +kernel
theorem dX6_sidesOf_11 : decode cX6_sidesOf 11 = .ok (.if_icmp .ge 28, 3) := by decide +kernel
theorem dX6_sidesOf_14 : decode cX6_sidesOf 14 = .ok (.aload_n 0, 1) := by decide +kernel
theorem dX6_sidesOf_15 : decode cX6_sidesOf 15 = .ok (.getfield 27, 3) := by decide +kernel
theorem dX6_sidesOf_18 : decode cX6_sidesOf 18 = .ok (.iload 4, 2) := by decide +kernel
theorem dX6_sidesOf_20 : decode cX6_sidesOf 20 = .ok (.iaload, 1) := by decide +kernel
theorem dX6_sidesOf_21 : decode cX6_sidesOf 21 = .ok (.iload 4, 2) := by decide +kernel
theorem dX6_sidesOf_23 : decode cX6_sidesOf 23 = .ok (.if_icmp .ne 10, 3) := by decide +kernel
theorem dX6_sidesOf_26 : decode cX6_sidesOf 26 = .ok (.iload_n 3, 1) := by decide +kernel
theorem dX6_sidesOf_27 : decode cX6_sidesOf 27 = .ok (.iconst 1, 1) := by decide +kernel
theorem dX6_sidesOf_28 : decode cX6_sidesOf 28 = .ok (.iload 4, 2) := by decide +kernel
theorem dX6_sidesOf_30 : decode cX6_sidesOf 30 = .ok (.ishl, 1) := by decide +kernel
theorem dX6_sidesOf_31 : decode cX6_sidesOf 31 = .ok (.ior, 1) := by decide +kernel
theorem dX6_sidesOf_32 : decode cX6_sidesOf 32 = .ok (.istore_n 3, 1) := by decide +kernel
theorem dX6_sidesOf_33 : decode cX6_sidesOf 33 = .ok (.iinc 4 1, 3) := by decide +kernel
theorem dX6_sidesOf_36 : decode cX6_sidesOf 36 = .ok (.goto (-31), 3) := by decide +kernel
theorem dX6_sidesOf_39 : decode cX6_sidesOf 39 = .ok (.iconst 0, 1) := by decide +kernel
theorem dX6_sidesOf_40 : decode cX6_sidesOf 40 = .ok (.istore 4, 2) := by decide +kernel
theorem dX6_sidesOf_42 : decode cX6_sidesOf 42 = .ok (.iconst 0, 1) := by decide +kernel
theorem dX6_sidesOf_43 : decode cX6_sidesOf 43 = .ok (.istore 5, 2) := by decide +kernel
theorem dX6_sidesOf_45 : decode cX6_sidesOf 45 = .ok (.iload 5, 2) := by decide +kernel
theorem dX6_sidesOf_47 : decode cX6_sidesOf 47 = .ok (.aload_n 1, 1) := by decide +kernel
theorem dX6_sidesOf_48 : decode cX6_sidesOf 48 = .ok (.getfield 30, 3) := by decide +kernel
theorem dX6_sidesOf_51 : decode cX6_sidesOf 51 = .ok (.if_icmp .ge 142, 3) := by decide +kernel
theorem dX6_sidesOf_54 : decode cX6_sidesOf 54 = .ok (.iconst 0, 1) := by decide +kernel
theorem dX6_sidesOf_55 : decode cX6_sidesOf 55 = .ok (.istore 6, 2) := by decide +kernel
theorem dX6_sidesOf_57 : decode cX6_sidesOf 57 = .ok (.iload 6, 2) := by decide +kernel
theorem dX6_sidesOf_59 : decode cX6_sidesOf 59 = .ok (.aload_n 1, 1) := by decide +kernel
theorem dX6_sidesOf_60 : decode cX6_sidesOf 60 = .ok (.getfield 53, 3) := by decide +kernel
theorem dX6_sidesOf_63 : decode cX6_sidesOf 63 = .ok (.if_icmp .ge 124, 3) := by decide +kernel
theorem dX6_sidesOf_66 : decode cX6_sidesOf 66 = .ok (.aload_n 1, 1) := by decide +kernel
theorem dX6_sidesOf_67 : decode cX6_sidesOf 67 = .ok (.getfield 65, 3) := by decide +kernel
theorem dX6_sidesOf_70 : decode cX6_sidesOf 70 = .ok (.iload 6, 2) := by decide +kernel
theorem dX6_sidesOf_72 : decode cX6_sidesOf 72 = .ok (.iaload, 1) := by decide +kernel
theorem dX6_sidesOf_73 : decode cX6_sidesOf 73 = .ok (.istore 7, 2) := by decide +kernel
theorem dX6_sidesOf_75 : decode cX6_sidesOf 75 = .ok (.aload_n 1, 1) := by decide +kernel
theorem dX6_sidesOf_76 : decode cX6_sidesOf 76 = .ok (.getfield 62, 3) := by decide +kernel
theorem dX6_sidesOf_79 : decode cX6_sidesOf 79 = .ok (.iload 6, 2) := by decide +kernel
theorem dX6_sidesOf_81 : decode cX6_sidesOf 81 = .ok (.iaload, 1) := by decide +kernel
theorem dX6_sidesOf_82 : decode cX6_sidesOf 82 = .ok (.istore 8, 2) := by decide +kernel
theorem dX6_sidesOf_84 : decode cX6_sidesOf 84 = .ok (.iload_n 2, 1) := by decide +kernel
theorem dX6_sidesOf_85 : decode cX6_sidesOf 85 = .ok (.iload 6, 2) := by decide +kernel
theorem dX6_sidesOf_87 : decode cX6_sidesOf 87 = .ok (.ishr, 1) := by decide +kernel
theorem dX6_sidesOf_88 : decode cX6_sidesOf 88 = .ok (.iconst 1, 1) := by decide +kernel
theorem dX6_sidesOf_89 : decode cX6_sidesOf 89 = .ok (.iand, 1) := by decide +kernel
theorem dX6_sidesOf_90 : decode cX6_sidesOf 90 = .ok (.istore 9, 2) := by decide +kernel
theorem dX6_sidesOf_92 : decode cX6_sidesOf 92 = .ok (.iload_n 3, 1) := by decide +kernel
theorem dX6_sidesOf_93 : decode cX6_sidesOf 93 = .ok (.iload 7, 2) := by decide +kernel
theorem dX6_sidesOf_95 : decode cX6_sidesOf 95 = .ok (.ishr, 1) := by decide +kernel
theorem dX6_sidesOf_96 : decode cX6_sidesOf 96 = .ok (.iconst 1, 1) := by decide +kernel
theorem dX6_sidesOf_97 : decode cX6_sidesOf 97 = .ok (.iand, 1) := by decide +kernel
theorem dX6_sidesOf_98 : decode cX6_sidesOf 98 = .ok (.ifCond .eq 40, 3) := by decide +kernel
theorem dX6_sidesOf_101 : decode cX6_sidesOf 101 = .ok (.iload_n 3, 1) := by decide +kernel
theorem dX6_sidesOf_102 : decode cX6_sidesOf 102 = .ok (.iload 8, 2) := by decide +kernel
theorem dX6_sidesOf_104 : decode cX6_sidesOf 104 = .ok (.ishr, 1) := by decide +kernel
theorem dX6_sidesOf_105 : decode cX6_sidesOf 105 = .ok (.iconst 1, 1) := by decide +kernel
theorem dX6_sidesOf_106 : decode cX6_sidesOf 106 = .ok (.iand, 1) := by decide +kernel
theorem dX6_sidesOf_107 : decode cX6_sidesOf 107 = .ok (.ifCond .ne 31, 3) := by decide +kernel
theorem dX6_sidesOf_110 : decode cX6_sidesOf 110 = .ok (.iload_n 3, 1) := by decide +kernel
theorem dX6_sidesOf_111 : decode cX6_sidesOf 111 = .ok (.iconst 1, 1) := by decide +kernel
theorem dX6_sidesOf_112 : decode cX6_sidesOf 112 = .ok (.iload 8, 2) := by decide +kernel
theorem dX6_sidesOf_114 : decode cX6_sidesOf 114 = .ok (.ishl, 1) := by decide +kernel
theorem dX6_sidesOf_115 : decode cX6_sidesOf 115 = .ok (.ior, 1) := by decide +kernel
theorem dX6_sidesOf_116 : decode cX6_sidesOf 116 = .ok (.istore_n 3, 1) := by decide +kernel
theorem dX6_sidesOf_117 : decode cX6_sidesOf 117 = .ok (.iload 4, 2) := by decide +kernel
theorem dX6_sidesOf_119 : decode cX6_sidesOf 119 = .ok (.iload 4, 2) := by decide +kernel
theorem dX6_sidesOf_121 : decode cX6_sidesOf 121 = .ok (.iload 7, 2) := by decide +kernel
theorem dX6_sidesOf_123 : decode cX6_sidesOf 123 = .ok (.ishr, 1) := by decide +kernel
theorem dX6_sidesOf_124 : decode cX6_sidesOf 124 = .ok (.iconst 1, 1) := by decide +kernel
theorem dX6_sidesOf_125 : decode cX6_sidesOf 125 = .ok (.iand, 1) := by decide +kernel
theorem dX6_sidesOf_126 : decode cX6_sidesOf 126 = .ok (.iload 9, 2) := by decide +kernel
theorem dX6_sidesOf_128 : decode cX6_sidesOf 128 = .ok (.ixor, 1) := by decide +kernel
theorem dX6_sidesOf_129 : decode cX6_sidesOf 129 = .ok (.iload 8, 2) := by decide +kernel
theorem dX6_sidesOf_131 : decode cX6_sidesOf 131 = .ok (.ishl, 1) := by decide +kernel
theorem dX6_sidesOf_132 : decode cX6_sidesOf 132 = .ok (.ior, 1) := by decide +kernel
theorem dX6_sidesOf_133 : decode cX6_sidesOf 133 = .ok (.istore 4, 2) := by decide +kernel
theorem dX6_sidesOf_135 : decode cX6_sidesOf 135 = .ok (.goto 46, 3) := by decide +kernel
theorem dX6_sidesOf_138 : decode cX6_sidesOf 138 = .ok (.iload_n 3, 1) := by decide +kernel
theorem dX6_sidesOf_139 : decode cX6_sidesOf 139 = .ok (.iload 8, 2) := by decide +kernel
theorem dX6_sidesOf_141 : decode cX6_sidesOf 141 = .ok (.ishr, 1) := by decide +kernel
theorem dX6_sidesOf_142 : decode cX6_sidesOf 142 = .ok (.iconst 1, 1) := by decide +kernel
theorem dX6_sidesOf_143 : decode cX6_sidesOf 143 = .ok (.iand, 1) := by decide +kernel
theorem dX6_sidesOf_144 : decode cX6_sidesOf 144 = .ok (.ifCond .eq 37, 3) := by decide +kernel
theorem dX6_sidesOf_147 : decode cX6_sidesOf 147 = .ok (.iload_n 3, 1) := by decide +kernel
theorem dX6_sidesOf_148 : decode cX6_sidesOf 148 = .ok (.iload 7, 2) := by decide +kernel
theorem dX6_sidesOf_150 : decode cX6_sidesOf 150 = .ok (.ishr, 1) := by decide +kernel
theorem dX6_sidesOf_151 : decode cX6_sidesOf 151 = .ok (.iconst 1, 1) := by decide +kernel
theorem dX6_sidesOf_152 : decode cX6_sidesOf 152 = .ok (.iand, 1) := by decide +kernel
theorem dX6_sidesOf_153 : decode cX6_sidesOf 153 = .ok (.ifCond .ne 28, 3) := by decide +kernel
theorem dX6_sidesOf_156 : decode cX6_sidesOf 156 = .ok (.iload_n 3, 1) := by decide +kernel
theorem dX6_sidesOf_157 : decode cX6_sidesOf 157 = .ok (.iconst 1, 1) := by decide +kernel
theorem dX6_sidesOf_158 : decode cX6_sidesOf 158 = .ok (.iload 7, 2) := by decide +kernel
theorem dX6_sidesOf_160 : decode cX6_sidesOf 160 = .ok (.ishl, 1) := by decide +kernel
theorem dX6_sidesOf_161 : decode cX6_sidesOf 161 = .ok (.ior, 1) := by decide +kernel
theorem dX6_sidesOf_162 : decode cX6_sidesOf 162 = .ok (.istore_n 3, 1) := by decide +kernel
theorem dX6_sidesOf_163 : decode cX6_sidesOf 163 = .ok (.iload 4, 2) := by decide +kernel
theorem dX6_sidesOf_165 : decode cX6_sidesOf 165 = .ok (.iload 4, 2) := by decide +kernel
theorem dX6_sidesOf_167 : decode cX6_sidesOf 167 = .ok (.iload 8, 2) := by decide +kernel
theorem dX6_sidesOf_169 : decode cX6_sidesOf 169 = .ok (.ishr, 1) := by decide +kernel
theorem dX6_sidesOf_170 : decode cX6_sidesOf 170 = .ok (.iconst 1, 1) := by decide +kernel
theorem dX6_sidesOf_171 : decode cX6_sidesOf 171 = .ok (.iand, 1) := by decide +kernel
theorem dX6_sidesOf_172 : decode cX6_sidesOf 172 = .ok (.iload 9, 2) := by decide +kernel
theorem dX6_sidesOf_174 : decode cX6_sidesOf 174 = .ok (.ixor, 1) := by decide +kernel
theorem dX6_sidesOf_175 : decode cX6_sidesOf 175 = .ok (.iload 7, 2) := by decide +kernel
theorem dX6_sidesOf_177 : decode cX6_sidesOf 177 = .ok (.ishl, 1) := by decide +kernel
theorem dX6_sidesOf_178 : decode cX6_sidesOf 178 = .ok (.ior, 1) := by decide +kernel
theorem dX6_sidesOf_179 : decode cX6_sidesOf 179 = .ok (.istore 4, 2) := by decide +kernel
theorem dX6_sidesOf_181 : decode cX6_sidesOf 181 = .ok (.iinc 6 1, 3) := by decide +kernel
theorem dX6_sidesOf_184 : decode cX6_sidesOf 184 = .ok (.goto (-127), 3) := by decide +kernel
theorem dX6_sidesOf_187 : decode cX6_sidesOf 187 = .ok (.iinc 5 1, 3) := by decide +kernel
theorem dX6_sidesOf_190 : decode cX6_sidesOf 190 = .ok (.goto (-145), 3) := by decide +kernel
theorem dX6_sidesOf_193 : decode cX6_sidesOf 193 = .ok (.iload 4, 2) := by decide +kernel
theorem dX6_sidesOf_195 : decode cX6_sidesOf 195 = .ok (.ireturn, 1) := by decide +kernel
theorem bX6_sidesOf_0 {d : Nat} {P : Int → q_Mem → Prop} {M : q_Mem} (x1 x2 : Int) (k1 : q_kd x1 = 4) (h : q_v mX6_sidesOf d (qPI P) M 5 [some (qR 91), some (qR x1), some (qI x2), some (qI 0), some (qI 0), none, none, none, none, none] []) : q_v mX6_sidesOf d (qPI P) M 0 [some (qR 91), some (qR x1), some (qI x2), none, none, none, none, none, none, none] [] := by
  refine qr_iconst 0 1 rfl (q_l32 _ rfl) dX6_sidesOf_0 ?_
  refine qr_istore_n 1 2 rfl (by decide) rfl rfl dX6_sidesOf_1 ?_
  refine qr_iconst 2 3 rfl (q_l32 _ rfl) dX6_sidesOf_2 ?_
  refine qr_istore 3 5 rfl (by decide) rfl rfl dX6_sidesOf_3 ?_
  exact h
theorem bX6_sidesOf_5 {d : Nat} {P : Int → q_Mem → Prop} {M : q_Mem} (x1 x2 x3 x4 : Int) (k1 : q_kd x1 = 4) (h : (((M x1 0) ≤ x4) → q_v mX6_sidesOf d (qPI P) M 45 [none, some (qR x1), some (qI x2), some (qI x3), some (qI 0), some (qI 0), none, none, none, none] []) ∧ ((¬ ((M x1 0) ≤ x4)) → (0 ≤ x4 ∧ x4 < (10 : Int)) ∧ (((¬ (M 97 x4) = x4) → q_v mX6_sidesOf d (qPI P) M 5 [some (qR 91), some (qR x1), some (qI x2), some (qI x3), some (qI (q_add x4 1)), none, none, none, none, none] []) ∧ (((M 97 x4) = x4) → ∀ x3_2 : Int, x3_2 = (q_or x3 (q_shl 1 x4)) → q_v mX6_sidesOf d (qPI P) M 5 [some (qR 91), some (qR x1), some (qI x2), some (qI x3_2), some (qI (q_add x4 1)), none, none, none, none, none] [])))) : q_v mX6_sidesOf d (qPI P) M 5 [some (qR 91), some (qR x1), some (qI x2), some (qI x3), some (qI x4), none, none, none, none, none] [] := by
  refine qr_iload 5 7 rfl (x := x4) rfl dX6_sidesOf_5 ?_
  refine qr_aload_n 7 8 rfl (x := x1) rfl dX6_sidesOf_7 ?_
  refine qg_i 8 11 rfl ck4 0 (kk := 0) (by decide) k1 (by decide +kernel) rfl wm_61 rfl dX6_sidesOf_8 ?_
  refine qr_icmp_ge 11 14 39 rfl (by decide) dX6_sidesOf_11 (fun c11 => ?_) (fun c11 => ?_)
  · have h := h.1 c11
    refine qr_iconst 39 40 rfl (q_l32 _ rfl) dX6_sidesOf_39 ?_
    refine qr_istore 40 42 rfl (by decide) rfl rfl dX6_sidesOf_40 ?_
    refine qr_iconst 42 43 rfl (q_l32 _ rfl) dX6_sidesOf_42 ?_
    refine qr_istore 43 45 rfl (by decide) rfl rfl dX6_sidesOf_43 ?_
    exact qr_cut 45 (ls' := [none, some (qR x1), some (qI x2), some (qI x3), some (qI 0), some (qI 0), none, none, none, none]) (And.intro rfl (And.intro rfl (And.intro rfl (And.intro rfl (And.intro rfl trivial))))) h
  · have h := h.2 c11
    refine qr_aload_n 14 15 rfl (x := 91) rfl dX6_sidesOf_14 ?_
    refine qr_getF 15 18 rfl ck6 8 (by decide) (b := 97) (by decide +kernel) rfl (by decide +kernel) (by decide +kernel) wm_234 rfl dX6_sidesOf_15 ?_
    refine qr_iload 18 20 rfl (x := x4) rfl dX6_sidesOf_18 ?_
    have hb1 := h.1
    have h := h.2
    refine qi_ld 20 21 rfl (N := 10) (by decide +kernel) (by decide +kernel) hb1.1 hb1.2 dX6_sidesOf_20 ?_
    refine qr_iload 21 23 rfl (x := x4) rfl dX6_sidesOf_21 ?_
    refine qr_icmp_ne 23 26 33 rfl (by decide) dX6_sidesOf_23 (fun c23 => ?_) (fun c23 => ?_)
    · have h := h.1 c23
      refine qr_iinc 33 36 rfl (by decide) (x := x4) rfl rfl rfl dX6_sidesOf_33 ?_
      refine qr_goto 36 5 (by decide) dX6_sidesOf_36 ?_
      exact h
    · have h := h.2 c23
      refine qr_iload_n 26 27 rfl (x := x3) rfl dX6_sidesOf_26 ?_
      refine qr_iconst 27 28 rfl (q_l32 _ rfl) dX6_sidesOf_27 ?_
      refine qr_iload 28 30 rfl (x := x4) rfl dX6_sidesOf_28 ?_
      refine qr_ishl 30 31 rfl dX6_sidesOf_30 ?_
      refine qr_ior 31 32 rfl dX6_sidesOf_31 ?_
      refine qn_i 32 (fun x3_2 e_x3_2 => ?_)
      have h := h x3_2 e_x3_2
      refine qr_istore_n 32 33 rfl (by decide) rfl rfl dX6_sidesOf_32 ?_
      refine qr_iinc 33 36 rfl (by decide) (x := x4) rfl rfl rfl dX6_sidesOf_33 ?_
      refine qr_goto 36 5 (by decide) dX6_sidesOf_36 ?_
      exact h
theorem bX6_sidesOf_45 {d : Nat} {P : Int → q_Mem → Prop} {M : q_Mem} (x1 x2 x3 x4 x5 : Int) (k1 : q_kd x1 = 4) (h : (((M x1 0) ≤ x5) → P x4 M) ∧ ((¬ ((M x1 0) ≤ x5)) → q_v mX6_sidesOf d (qPI P) M 57 [none, some (qR x1), some (qI x2), some (qI x3), some (qI x4), some (qI x5), some (qI 0), none, none, none] [])) : q_v mX6_sidesOf d (qPI P) M 45 [none, some (qR x1), some (qI x2), some (qI x3), some (qI x4), some (qI x5), none, none, none, none] [] := by
  refine qr_iload 45 47 rfl (x := x5) rfl dX6_sidesOf_45 ?_
  refine qr_aload_n 47 48 rfl (x := x1) rfl dX6_sidesOf_47 ?_
  refine qg_i 48 51 rfl ck4 0 (kk := 0) (by decide) k1 (by decide +kernel) rfl wm_61 rfl dX6_sidesOf_48 ?_
  refine qr_icmp_ge 51 54 193 rfl (by decide) dX6_sidesOf_51 (fun c51 => ?_) (fun c51 => ?_)
  · have h := h.1 c51
    refine qr_iload 193 195 rfl (x := x4) rfl dX6_sidesOf_193 ?_
    exact qe_i 195 rfl dX6_sidesOf_195 h
  · have h := h.2 c51
    refine qr_iconst 54 55 rfl (q_l32 _ rfl) dX6_sidesOf_54 ?_
    refine qr_istore 55 57 rfl (by decide) rfl rfl dX6_sidesOf_55 ?_
    exact h
theorem bX6_sidesOf_57 {d : Nat} {P : Int → q_Mem → Prop} {M : q_Mem} (x1 x2 x3 x4 x5 x6 : Int) (k1 : q_kd x1 = 4) (h : (((M x1 1) ≤ x6) → q_v mX6_sidesOf d (qPI P) M 45 [none, some (qR x1), some (qI x2), some (qI x3), some (qI x4), some (qI (q_add x5 1)), none, none, none, none] []) ∧ ((¬ ((M x1 1) ≤ x6)) → (0 ≤ x6 ∧ x6 < (16 : Int)) ∧ (∀ x7_2 : Int, x7_2 = (M (q_lay x1 4) x6) → (0 ≤ x6 ∧ x6 < (16 : Int)) ∧ (∀ x8_4 : Int, x8_4 = (M (q_lay x1 5) x6) → ∀ x9_5 : Int, x9_5 = (q_and (q_shr x2 x6) 1) → (((q_and (q_shr x3 x7_2) 1) = 0) → q_v mX6_sidesOf d (qPI P) M 138 [none, some (qR x1), some (qI x2), some (qI x3), some (qI x4), some (qI x5), some (qI x6), some (qI x7_2), some (qI x8_4), some (qI x9_5)] []) ∧ ((¬ ((q_and (q_shr x3 x7_2) 1) = 0)) → ((¬ (q_and (q_shr x3 x8_4) 1) = 0) → q_v mX6_sidesOf d (qPI P) M 138 [none, some (qR x1), some (qI x2), some (qI x3), some (qI x4), some (qI x5), some (qI x6), some (qI x7_2), some (qI x8_4), some (qI x9_5)] []) ∧ (((q_and (q_shr x3 x8_4) 1) = 0) → ∀ x3_6 : Int, x3_6 = (q_or x3 (q_shl 1 x8_4)) → ∀ x4_7 : Int, x4_7 = (q_or x4 (q_shl (q_xor (q_and (q_shr x4 x7_2) 1) x9_5) x8_4)) → q_v mX6_sidesOf d (qPI P) M 57 [none, some (qR x1), some (qI x2), some (qI x3_6), some (qI x4_7), some (qI x5), some (qI (q_add x6 1)), none, none, none] [])))))) : q_v mX6_sidesOf d (qPI P) M 57 [none, some (qR x1), some (qI x2), some (qI x3), some (qI x4), some (qI x5), some (qI x6), none, none, none] [] := by
  refine qr_iload 57 59 rfl (x := x6) rfl dX6_sidesOf_57 ?_
  refine qr_aload_n 59 60 rfl (x := x1) rfl dX6_sidesOf_59 ?_
  refine qg_i 60 63 rfl ck4 1 (kk := 1) (by decide) k1 (by decide +kernel) rfl wm_66 rfl dX6_sidesOf_60 ?_
  refine qr_icmp_ge 63 66 187 rfl (by decide) dX6_sidesOf_63 (fun c63 => ?_) (fun c63 => ?_)
  · have h := h.1 c63
    refine qr_iinc 187 190 rfl (by decide) (x := x5) rfl rfl rfl dX6_sidesOf_187 ?_
    refine qr_goto 190 45 (by decide) dX6_sidesOf_190 ?_
    exact qr_cut 45 (ls' := [none, some (qR x1), some (qI x2), some (qI x3), some (qI x4), some (qI (q_add x5 1)), none, none, none, none]) (And.intro rfl (And.intro rfl (And.intro rfl (And.intro rfl (And.intro rfl trivial))))) h
  · have h := h.2 c63
    refine qr_aload_n 66 67 rfl (x := x1) rfl dX6_sidesOf_66 ?_
    refine qr_getF 67 70 rfl ck4 4 (by decide) (b := (q_lay x1 4)) k1 rfl (by decide +kernel) rfl wm_76 rfl dX6_sidesOf_67 ?_
    refine qr_iload 70 72 rfl (x := x6) rfl dX6_sidesOf_70 ?_
    have hb1 := h.1
    have h := h.2
    refine qi_ld 72 73 rfl (N := 16) (lk4_4 _ k1) (ll4_4 _ k1) hb1.1 hb1.2 dX6_sidesOf_72 ?_
    refine qn_i 73 (fun x7_2 e_x7_2 => ?_)
    have h := h x7_2 e_x7_2
    refine qr_istore 73 75 rfl (by decide) rfl rfl dX6_sidesOf_73 ?_
    refine qr_aload_n 75 76 rfl (x := x1) rfl dX6_sidesOf_75 ?_
    refine qr_getF 76 79 rfl ck4 5 (by decide) (b := (q_lay x1 5)) k1 rfl (by decide +kernel) rfl wm_80 rfl dX6_sidesOf_76 ?_
    refine qr_iload 79 81 rfl (x := x6) rfl dX6_sidesOf_79 ?_
    have hb3 := h.1
    have h := h.2
    refine qi_ld 81 82 rfl (N := 16) (lk4_5 _ k1) (ll4_5 _ k1) hb3.1 hb3.2 dX6_sidesOf_81 ?_
    refine qn_i 82 (fun x8_4 e_x8_4 => ?_)
    have h := h x8_4 e_x8_4
    refine qr_istore 82 84 rfl (by decide) rfl rfl dX6_sidesOf_82 ?_
    refine qr_iload_n 84 85 rfl (x := x2) rfl dX6_sidesOf_84 ?_
    refine qr_iload 85 87 rfl (x := x6) rfl dX6_sidesOf_85 ?_
    refine qr_ishr 87 88 rfl dX6_sidesOf_87 ?_
    refine qr_iconst 88 89 rfl (q_l32 _ rfl) dX6_sidesOf_88 ?_
    refine qr_iand 89 90 rfl dX6_sidesOf_89 ?_
    refine qn_i 90 (fun x9_5 e_x9_5 => ?_)
    have h := h x9_5 e_x9_5
    refine qr_istore 90 92 rfl (by decide) rfl rfl dX6_sidesOf_90 ?_
    refine qr_iload_n 92 93 rfl (x := x3) rfl dX6_sidesOf_92 ?_
    refine qr_iload 93 95 rfl (x := x7_2) rfl dX6_sidesOf_93 ?_
    refine qr_ishr 95 96 rfl dX6_sidesOf_95 ?_
    refine qr_iconst 96 97 rfl (q_l32 _ rfl) dX6_sidesOf_96 ?_
    refine qr_iand 97 98 rfl dX6_sidesOf_97 ?_
    refine qr_if_eq 98 101 138 rfl (by decide) dX6_sidesOf_98 (fun c98 => ?_) (fun c98 => ?_)
    · have h := h.1 c98
      exact h
    · have h := h.2 c98
      refine qr_iload_n 101 102 rfl (x := x3) rfl dX6_sidesOf_101 ?_
      refine qr_iload 102 104 rfl (x := x8_4) rfl dX6_sidesOf_102 ?_
      refine qr_ishr 104 105 rfl dX6_sidesOf_104 ?_
      refine qr_iconst 105 106 rfl (q_l32 _ rfl) dX6_sidesOf_105 ?_
      refine qr_iand 106 107 rfl dX6_sidesOf_106 ?_
      refine qr_if_ne 107 110 138 rfl (by decide) dX6_sidesOf_107 (fun c107 => ?_) (fun c107 => ?_)
      · have h := h.1 c107
        exact h
      · have h := h.2 c107
        refine qr_iload_n 110 111 rfl (x := x3) rfl dX6_sidesOf_110 ?_
        refine qr_iconst 111 112 rfl (q_l32 _ rfl) dX6_sidesOf_111 ?_
        refine qr_iload 112 114 rfl (x := x8_4) rfl dX6_sidesOf_112 ?_
        refine qr_ishl 114 115 rfl dX6_sidesOf_114 ?_
        refine qr_ior 115 116 rfl dX6_sidesOf_115 ?_
        refine qn_i 116 (fun x3_6 e_x3_6 => ?_)
        have h := h x3_6 e_x3_6
        refine qr_istore_n 116 117 rfl (by decide) rfl rfl dX6_sidesOf_116 ?_
        refine qr_iload 117 119 rfl (x := x4) rfl dX6_sidesOf_117 ?_
        refine qr_iload 119 121 rfl (x := x4) rfl dX6_sidesOf_119 ?_
        refine qr_iload 121 123 rfl (x := x7_2) rfl dX6_sidesOf_121 ?_
        refine qr_ishr 123 124 rfl dX6_sidesOf_123 ?_
        refine qr_iconst 124 125 rfl (q_l32 _ rfl) dX6_sidesOf_124 ?_
        refine qr_iand 125 126 rfl dX6_sidesOf_125 ?_
        refine qr_iload 126 128 rfl (x := x9_5) rfl dX6_sidesOf_126 ?_
        refine qr_ixor 128 129 rfl dX6_sidesOf_128 ?_
        refine qr_iload 129 131 rfl (x := x8_4) rfl dX6_sidesOf_129 ?_
        refine qr_ishl 131 132 rfl dX6_sidesOf_131 ?_
        refine qr_ior 132 133 rfl dX6_sidesOf_132 ?_
        refine qn_i 133 (fun x4_7 e_x4_7 => ?_)
        have h := h x4_7 e_x4_7
        refine qr_istore 133 135 rfl (by decide) rfl rfl dX6_sidesOf_133 ?_
        refine qr_goto 135 181 (by decide) dX6_sidesOf_135 ?_
        refine qr_iinc 181 184 rfl (by decide) (x := x6) rfl rfl rfl dX6_sidesOf_181 ?_
        refine qr_goto 184 57 (by decide) dX6_sidesOf_184 ?_
        exact qr_cut 57 (ls' := [none, some (qR x1), some (qI x2), some (qI x3_6), some (qI x4_7), some (qI x5), some (qI (q_add x6 1)), none, none, none]) (And.intro rfl (And.intro rfl (And.intro rfl (And.intro rfl (And.intro rfl (And.intro rfl trivial)))))) h
theorem bX6_sidesOf_138 {d : Nat} {P : Int → q_Mem → Prop} {M : q_Mem} (x1 x2 x3 x4 x5 x6 x7 x8 x9 : Int) (k1 : q_kd x1 = 4) (h : (((q_and (q_shr x3 x8) 1) = 0) → q_v mX6_sidesOf d (qPI P) M 57 [none, some (qR x1), some (qI x2), some (qI x3), some (qI x4), some (qI x5), some (qI (q_add x6 1)), none, none, none] []) ∧ ((¬ ((q_and (q_shr x3 x8) 1) = 0)) → ((¬ (q_and (q_shr x3 x7) 1) = 0) → q_v mX6_sidesOf d (qPI P) M 57 [none, some (qR x1), some (qI x2), some (qI x3), some (qI x4), some (qI x5), some (qI (q_add x6 1)), none, none, none] []) ∧ (((q_and (q_shr x3 x7) 1) = 0) → ∀ x3_1 : Int, x3_1 = (q_or x3 (q_shl 1 x7)) → ∀ x4_2 : Int, x4_2 = (q_or x4 (q_shl (q_xor (q_and (q_shr x4 x8) 1) x9) x7)) → q_v mX6_sidesOf d (qPI P) M 57 [none, some (qR x1), some (qI x2), some (qI x3_1), some (qI x4_2), some (qI x5), some (qI (q_add x6 1)), none, none, none] []))) : q_v mX6_sidesOf d (qPI P) M 138 [none, some (qR x1), some (qI x2), some (qI x3), some (qI x4), some (qI x5), some (qI x6), some (qI x7), some (qI x8), some (qI x9)] [] := by
  refine qr_iload_n 138 139 rfl (x := x3) rfl dX6_sidesOf_138 ?_
  refine qr_iload 139 141 rfl (x := x8) rfl dX6_sidesOf_139 ?_
  refine qr_ishr 141 142 rfl dX6_sidesOf_141 ?_
  refine qr_iconst 142 143 rfl (q_l32 _ rfl) dX6_sidesOf_142 ?_
  refine qr_iand 143 144 rfl dX6_sidesOf_143 ?_
  refine qr_if_eq 144 147 181 rfl (by decide) dX6_sidesOf_144 (fun c144 => ?_) (fun c144 => ?_)
  · have h := h.1 c144
    refine qr_iinc 181 184 rfl (by decide) (x := x6) rfl rfl rfl dX6_sidesOf_181 ?_
    refine qr_goto 184 57 (by decide) dX6_sidesOf_184 ?_
    exact qr_cut 57 (ls' := [none, some (qR x1), some (qI x2), some (qI x3), some (qI x4), some (qI x5), some (qI (q_add x6 1)), none, none, none]) (And.intro rfl (And.intro rfl (And.intro rfl (And.intro rfl (And.intro rfl (And.intro rfl trivial)))))) h
  · have h := h.2 c144
    refine qr_iload_n 147 148 rfl (x := x3) rfl dX6_sidesOf_147 ?_
    refine qr_iload 148 150 rfl (x := x7) rfl dX6_sidesOf_148 ?_
    refine qr_ishr 150 151 rfl dX6_sidesOf_150 ?_
    refine qr_iconst 151 152 rfl (q_l32 _ rfl) dX6_sidesOf_151 ?_
    refine qr_iand 152 153 rfl dX6_sidesOf_152 ?_
    refine qr_if_ne 153 156 181 rfl (by decide) dX6_sidesOf_153 (fun c153 => ?_) (fun c153 => ?_)
    · have h := h.1 c153
      refine qr_iinc 181 184 rfl (by decide) (x := x6) rfl rfl rfl dX6_sidesOf_181 ?_
      refine qr_goto 184 57 (by decide) dX6_sidesOf_184 ?_
      exact qr_cut 57 (ls' := [none, some (qR x1), some (qI x2), some (qI x3), some (qI x4), some (qI x5), some (qI (q_add x6 1)), none, none, none]) (And.intro rfl (And.intro rfl (And.intro rfl (And.intro rfl (And.intro rfl (And.intro rfl trivial)))))) h
    · have h := h.2 c153
      refine qr_iload_n 156 157 rfl (x := x3) rfl dX6_sidesOf_156 ?_
      refine qr_iconst 157 158 rfl (q_l32 _ rfl) dX6_sidesOf_157 ?_
      refine qr_iload 158 160 rfl (x := x7) rfl dX6_sidesOf_158 ?_
      refine qr_ishl 160 161 rfl dX6_sidesOf_160 ?_
      refine qr_ior 161 162 rfl dX6_sidesOf_161 ?_
      refine qn_i 162 (fun x3_1 e_x3_1 => ?_)
      have h := h x3_1 e_x3_1
      refine qr_istore_n 162 163 rfl (by decide) rfl rfl dX6_sidesOf_162 ?_
      refine qr_iload 163 165 rfl (x := x4) rfl dX6_sidesOf_163 ?_
      refine qr_iload 165 167 rfl (x := x4) rfl dX6_sidesOf_165 ?_
      refine qr_iload 167 169 rfl (x := x8) rfl dX6_sidesOf_167 ?_
      refine qr_ishr 169 170 rfl dX6_sidesOf_169 ?_
      refine qr_iconst 170 171 rfl (q_l32 _ rfl) dX6_sidesOf_170 ?_
      refine qr_iand 171 172 rfl dX6_sidesOf_171 ?_
      refine qr_iload 172 174 rfl (x := x9) rfl dX6_sidesOf_172 ?_
      refine qr_ixor 174 175 rfl dX6_sidesOf_174 ?_
      refine qr_iload 175 177 rfl (x := x7) rfl dX6_sidesOf_175 ?_
      refine qr_ishl 177 178 rfl dX6_sidesOf_177 ?_
      refine qr_ior 178 179 rfl dX6_sidesOf_178 ?_
      refine qn_i 179 (fun x4_2 e_x4_2 => ?_)
      have h := h x4_2 e_x4_2
      refine qr_istore 179 181 rfl (by decide) rfl rfl dX6_sidesOf_179 ?_
      refine qr_iinc 181 184 rfl (by decide) (x := x6) rfl rfl rfl dX6_sidesOf_181 ?_
      refine qr_goto 184 57 (by decide) dX6_sidesOf_184 ?_
      exact qr_cut 57 (ls' := [none, some (qR x1), some (qI x2), some (qI x3_1), some (qI x4_2), some (qI x5), some (qI (q_add x6 1)), none, none, none]) (And.intro rfl (And.intro rfl (And.intro rfl (And.intro rfl (And.intro rfl (And.intro rfl trivial)))))) h
