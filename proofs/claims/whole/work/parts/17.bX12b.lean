-- blocks of methods (by program)
theorem dX12_weightOf_0 : decode cX12_weightOf 0 = .ok (.aload_n 0, 1) := by decide +kernel
theorem dX12_weightOf_1 : decode cX12_weightOf 1 = .ok (.getfield 39, 3) := by decide +kernel
theorem dX12_weightOf_4 : decode cX12_weightOf 4 = .ok (.iconst 0, 1) := by decide +kernel
theorem dX12_weightOf_5 : decode cX12_weightOf 5 = .ok (.aload_n 0, 1) := by decide +kernel
theorem dX12_weightOf_6 : decode cX12_weightOf 6 = .ok (.getfield 13, 3) := by decide +kernel
theorem dX12_weightOf_9 : decode cX12_weightOf 9 = .ok (.iconst 3, 1) := by decide +kernel
theorem dX12_weightOf_10 : decode cX12_weightOf 10 = .ok (.iload_n 1, 1) := by decide +kernel
theorem dX12_weightOf_11 : decode cX12_weightOf 11 = .ok (.iadd, 1) := by decide +kernel
theorem dX12_weightOf_12 : decode cX12_weightOf 12 = .ok (.iaload, 1) := by decide +kernel
theorem dX12_weightOf_13 : decode cX12_weightOf 13 = .ok (.iastore, 1) := by decide +kernel
theorem dX12_weightOf_14 : decode cX12_weightOf 14 = .ok (.aload_n 0, 1) := by decide +kernel
theorem dX12_weightOf_15 : decode cX12_weightOf 15 = .ok (.getfield 39, 3) := by decide +kernel
theorem dX12_weightOf_18 : decode cX12_weightOf 18 = .ok (.iconst 1, 1) := by decide +kernel
theorem dX12_weightOf_19 : decode cX12_weightOf 19 = .ok (.aload_n 0, 1) := by decide +kernel
theorem dX12_weightOf_20 : decode cX12_weightOf 20 = .ok (.getfield 13, 3) := by decide +kernel
theorem dX12_weightOf_23 : decode cX12_weightOf 23 = .ok (.bipush 53, 2) := by decide +kernel
theorem dX12_weightOf_25 : decode cX12_weightOf 25 = .ok (.iload_n 1, 1) := by decide +kernel
theorem dX12_weightOf_26 : decode cX12_weightOf 26 = .ok (.iadd, 1) := by decide +kernel
theorem dX12_weightOf_27 : decode cX12_weightOf 27 = .ok (.iaload, 1) := by decide +kernel
theorem dX12_weightOf_28 : decode cX12_weightOf 28 = .ok (.iastore, 1) := by decide +kernel
theorem dX12_weightOf_29 : decode cX12_weightOf 29 = .ok (.aload_n 0, 1) := by decide +kernel
theorem dX12_weightOf_30 : decode cX12_weightOf 30 = .ok (.getfield 39, 3) := by decide +kernel
theorem dX12_weightOf_33 : decode cX12_weightOf 33 = .ok (.iconst 2, 1) := by decide +kernel
theorem dX12_weightOf_34 : decode cX12_weightOf 34 = .ok (.aload_n 0, 1) := by decide +kernel
theorem dX12_weightOf_35 : decode cX12_weightOf 35 = .ok (.getfield 13, 3) := by decide +kernel
theorem dX12_weightOf_38 : decode cX12_weightOf 38 = .ok (.bipush 69, 2) := by decide +kernel
theorem dX12_weightOf_40 : decode cX12_weightOf 40 = .ok (.iload_n 1, 1) := by decide +kernel
theorem dX12_weightOf_41 : decode cX12_weightOf 41 = .ok (.iadd, 1) := by decide +kernel
theorem dX12_weightOf_42 : decode cX12_weightOf 42 = .ok (.iaload, 1) := by decide +kernel
theorem dX12_weightOf_43 : decode cX12_weightOf 43 = .ok (.iastore, 1) := by decide +kernel
theorem dX12_weightOf_44 : decode cX12_weightOf 44 = .ok (.aload_n 0, 1) := by decide +kernel
theorem dX12_weightOf_45 : decode cX12_weightOf 45 = .ok (.getfield 39, 3) := by decide +kernel
theorem dX12_weightOf_48 : decode cX12_weightOf 48 = .ok (.iconst 3, 1) := by decide +kernel
theorem dX12_weightOf_49 : decode cX12_weightOf 49 = .ok (.iload_n 1, 1) := by decide +kernel
theorem dX12_weightOf_50 : decode cX12_weightOf 50 = .ok (.iastore, 1) := by decide +kernel
theorem dX12_weightOf_51 : decode cX12_weightOf 51 = .ok (.aload_n 0, 1) := by decide +kernel
theorem dX12_weightOf_52 : decode cX12_weightOf 52 = .ok (.getfield 39, 3) := by decide +kernel
theorem dX12_weightOf_55 : decode cX12_weightOf 55 = .ok (.iconst 4, 1) := by decide +kernel
theorem dX12_weightOf_56 : decode cX12_weightOf 56 = .ok (.iload_n 2, 1) := by decide +kernel
theorem dX12_weightOf_57 : decode cX12_weightOf 57 = .ok (.iastore, 1) := by decide +kernel
theorem dX12_weightOf_58 : decode cX12_weightOf 58 = .ok (.aload_n 0, 1) := by decide +kernel
theorem dX12_weightOf_59 : decode cX12_weightOf 59 = .ok (.getfield 13, 3) := by decide +kernel
theorem dX12_weightOf_62 : decode cX12_weightOf 62 = .ok (.bipush 97, 2) := by decide +kernel
theorem dX12_weightOf_64 : decode cX12_weightOf 64 = .ok (.iaload, 1) := by decide +kernel
theorem dX12_weightOf_65 : decode cX12_weightOf 65 = .ok (.iconst 1, 1) := by decide +kernel
theorem dX12_weightOf_66 : decode cX12_weightOf 66 = .ok (.if_icmp .ne 13, 3) := by decide +kernel
theorem dX12_weightOf_69 : decode cX12_weightOf 69 = .ok (.aload_n 0, 1) := by decide +kernel
theorem dX12_weightOf_70 : decode cX12_weightOf 70 = .ok (.iconst 1, 1) := by decide +kernel
theorem dX12_weightOf_71 : decode cX12_weightOf 71 = .ok (.invokevirtual 257, 3) := by decide +kernel
theorem dX12_weightOf_74 : decode cX12_weightOf 74 = .ok (.ifCond .ne 5, 3) := by decide +kernel
theorem dX12_weightOf_77 : decode cX12_weightOf 77 = .ok (.iconst 0, 1) := by decide +kernel
theorem dX12_weightOf_78 : decode cX12_weightOf 78 = .ok (.ireturn, 1) := by decide +kernel
theorem dX12_weightOf_79 : decode cX12_weightOf 79 = .ok (.aload_n 0, 1) := by decide +kernel
theorem dX12_weightOf_80 : decode cX12_weightOf 80 = .ok (.getfield 13, 3) := by decide +kernel
theorem dX12_weightOf_83 : decode cX12_weightOf 83 = .ok (.bipush 96, 2) := by decide +kernel
theorem dX12_weightOf_85 : decode cX12_weightOf 85 = .ok (.iaload, 1) := by decide +kernel
theorem dX12_weightOf_86 : decode cX12_weightOf 86 = .ok (.iconst 1, 1) := by decide +kernel
theorem dX12_weightOf_87 : decode cX12_weightOf 87 = .ok (.if_icmp .ne 11, 3) := by decide +kernel
theorem dX12_weightOf_90 : decode cX12_weightOf 90 = .ok (.aload_n 0, 1) := by decide +kernel
theorem dX12_weightOf_91 : decode cX12_weightOf 91 = .ok (.iconst 0, 1) := by decide +kernel
theorem dX12_weightOf_92 : decode cX12_weightOf 92 = .ok (.invokevirtual 257, 3) := by decide +kernel
theorem dX12_weightOf_95 : decode cX12_weightOf 95 = .ok (.goto 11, 3) := by decide +kernel
theorem dX12_weightOf_98 : decode cX12_weightOf 98 = .ok (.aload_n 0, 1) := by decide +kernel
theorem dX12_weightOf_99 : decode cX12_weightOf 99 = .ok (.getfield 13, 3) := by decide +kernel
theorem dX12_weightOf_102 : decode cX12_weightOf 102 = .ok (.iconst 3, 1) := by decide +kernel
theorem dX12_weightOf_103 : decode cX12_weightOf 103 = .ok (.iload_n 1, 1) := by decide +kernel
theorem dX12_weightOf_104 : decode cX12_weightOf 104 = .ok (.iadd, 1) := by decide +kernel
theorem dX12_weightOf_105 : decode cX12_weightOf 105 = .ok (.iaload, 1) := by decide +kernel
theorem dX12_weightOf_106 : decode cX12_weightOf 106 = .ok (.istore_n 3, 1) := by decide +kernel
theorem dX12_weightOf_107 : decode cX12_weightOf 107 = .ok (.iload_n 3, 1) := by decide +kernel
theorem dX12_weightOf_108 : decode cX12_weightOf 108 = .ok (.bipush (-99), 2) := by decide +kernel
theorem dX12_weightOf_110 : decode cX12_weightOf 110 = .ok (.if_icmp .ge 8, 3) := by decide +kernel
theorem dX12_weightOf_113 : decode cX12_weightOf 113 = .ok (.bipush (-99), 2) := by decide +kernel
theorem dX12_weightOf_115 : decode cX12_weightOf 115 = .ok (.goto 15, 3) := by decide +kernel
theorem dX12_weightOf_118 : decode cX12_weightOf 118 = .ok (.iload_n 3, 1) := by decide +kernel
theorem dX12_weightOf_119 : decode cX12_weightOf 119 = .ok (.bipush 99, 2) := by decide +kernel
theorem dX12_weightOf_121 : decode cX12_weightOf 121 = .ok (.if_icmp .le 8, 3) := by decide +kernel
theorem dX12_weightOf_124 : decode cX12_weightOf 124 = .ok (.bipush 99, 2) := by decide +kernel
theorem dX12_weightOf_126 : decode cX12_weightOf 126 = .ok (.goto 4, 3) := by decide +kernel
theorem dX12_weightOf_129 : decode cX12_weightOf 129 = .ok (.iload_n 3, 1) := by decide +kernel
theorem dX12_weightOf_130 : decode cX12_weightOf 130 = .ok (.ireturn, 1) := by decide +kernel
theorem bX12_weightOf_0 {d : Nat} {P : Int → q_Mem → Prop} {M : q_Mem} (x1 x2 : Int) (h : (0 ≤ (q_add 3 x1) ∧ (q_add 3 x1) < (4512 : Int)) ∧ ((∀ M2 : q_Mem, M2 = q_up M 186 0 (M 179 (q_add 3 x1)) → (0 ≤ (q_add 53 x1) ∧ (q_add 53 x1) < (4512 : Int)) ∧ ((∀ M4 : q_Mem, M4 = q_up M2 186 1 (M2 179 (q_add 53 x1)) → (0 ≤ (q_add 69 x1) ∧ (q_add 69 x1) < (4512 : Int)) ∧ ((∀ M6 : q_Mem, M6 = q_up M4 186 2 (M4 179 (q_add 69 x1)) → (∀ M7 : q_Mem, M7 = q_up M6 186 3 x1 → (∀ M8 : q_Mem, M8 = q_up M7 186 4 x2 → (((¬ (M8 179 97) = (1 : Int)) → q_v mX12_weightOf d (qPI P) M8 79 [some (qR 178), some (qI x1), none, none] []) ∧ (((M8 179 97) = (1 : Int)) → q_kI yX12_reckons mX12_reckons d [qR 178, qI 1] M8 (fun v10 M9 => ((¬ v10 = 0) → q_v mX12_weightOf d (qPI P) M9 79 [some (qR 178), some (qI x1), none, none] []) ∧ ((v10 = 0) → P 0 M9))))))))))))) : q_v mX12_weightOf d (qPI P) M 0 [some (qR 178), some (qI x1), some (qI x2), none] [] := by
  refine qr_aload_n 0 1 rfl (x := 178) rfl dX12_weightOf_0 ?_
  refine qr_getF 1 4 rfl ck12 18 (by decide) (b := 186) (by decide +kernel) rfl (by decide +kernel) (by decide +kernel) wm_1344 rfl dX12_weightOf_1 ?_
  refine qr_iconst 4 5 rfl (q_l32 _ rfl) dX12_weightOf_4 ?_
  refine qr_aload_n 5 6 rfl (x := 178) rfl dX12_weightOf_5 ?_
  refine qr_getF 6 9 rfl ck12 1 (by decide) (b := 179) (by decide +kernel) rfl (by decide +kernel) (by decide +kernel) wm_1327 rfl dX12_weightOf_6 ?_
  refine qr_iconst 9 10 rfl (q_l32 _ rfl) dX12_weightOf_9 ?_
  refine qr_iload_n 10 11 rfl (x := x1) rfl dX12_weightOf_10 ?_
  refine qr_iadd 11 12 rfl dX12_weightOf_11 ?_
  have hb1 := h.1
  have h := h.2
  refine qi_ld 12 13 rfl (N := 4512) (by decide +kernel) (by decide +kernel) hb1.1 hb1.2 dX12_weightOf_12 ?_
  refine qi_st 13 14 rfl (N := 5) (by decide +kernel) (by decide +kernel) (by decide) (by decide) dX12_weightOf_13 (fun M2 e_M2 => ?_)
  have h := h M2 e_M2
  refine qr_aload_n 14 15 rfl (x := 178) rfl dX12_weightOf_14 ?_
  refine qr_getF 15 18 rfl ck12 18 (by decide) (b := 186) (by decide +kernel) rfl (by decide +kernel) (by decide +kernel) wm_1344 rfl dX12_weightOf_15 ?_
  refine qr_iconst 18 19 rfl (q_l32 _ rfl) dX12_weightOf_18 ?_
  refine qr_aload_n 19 20 rfl (x := 178) rfl dX12_weightOf_19 ?_
  refine qr_getF 20 23 rfl ck12 1 (by decide) (b := 179) (by decide +kernel) rfl (by decide +kernel) (by decide +kernel) wm_1327 rfl dX12_weightOf_20 ?_
  refine qr_bipush 23 25 rfl (q_l32 _ rfl) (by decide) dX12_weightOf_23 ?_
  refine qr_iload_n 25 26 rfl (x := x1) rfl dX12_weightOf_25 ?_
  refine qr_iadd 26 27 rfl dX12_weightOf_26 ?_
  have hb3 := h.1
  have h := h.2
  refine qi_ld 27 28 rfl (N := 4512) (by decide +kernel) (by decide +kernel) hb3.1 hb3.2 dX12_weightOf_27 ?_
  refine qi_st 28 29 rfl (N := 5) (by decide +kernel) (by decide +kernel) (by decide) (by decide) dX12_weightOf_28 (fun M4 e_M4 => ?_)
  have h := h M4 e_M4
  refine qr_aload_n 29 30 rfl (x := 178) rfl dX12_weightOf_29 ?_
  refine qr_getF 30 33 rfl ck12 18 (by decide) (b := 186) (by decide +kernel) rfl (by decide +kernel) (by decide +kernel) wm_1344 rfl dX12_weightOf_30 ?_
  refine qr_iconst 33 34 rfl (q_l32 _ rfl) dX12_weightOf_33 ?_
  refine qr_aload_n 34 35 rfl (x := 178) rfl dX12_weightOf_34 ?_
  refine qr_getF 35 38 rfl ck12 1 (by decide) (b := 179) (by decide +kernel) rfl (by decide +kernel) (by decide +kernel) wm_1327 rfl dX12_weightOf_35 ?_
  refine qr_bipush 38 40 rfl (q_l32 _ rfl) (by decide) dX12_weightOf_38 ?_
  refine qr_iload_n 40 41 rfl (x := x1) rfl dX12_weightOf_40 ?_
  refine qr_iadd 41 42 rfl dX12_weightOf_41 ?_
  have hb5 := h.1
  have h := h.2
  refine qi_ld 42 43 rfl (N := 4512) (by decide +kernel) (by decide +kernel) hb5.1 hb5.2 dX12_weightOf_42 ?_
  refine qi_st 43 44 rfl (N := 5) (by decide +kernel) (by decide +kernel) (by decide) (by decide) dX12_weightOf_43 (fun M6 e_M6 => ?_)
  have h := h M6 e_M6
  refine qr_aload_n 44 45 rfl (x := 178) rfl dX12_weightOf_44 ?_
  refine qr_getF 45 48 rfl ck12 18 (by decide) (b := 186) (by decide +kernel) rfl (by decide +kernel) (by decide +kernel) wm_1344 rfl dX12_weightOf_45 ?_
  refine qr_iconst 48 49 rfl (q_l32 _ rfl) dX12_weightOf_48 ?_
  refine qr_iload_n 49 50 rfl (x := x1) rfl dX12_weightOf_49 ?_
  refine qi_st 50 51 rfl (N := 5) (by decide +kernel) (by decide +kernel) (by decide) (by decide) dX12_weightOf_50 (fun M7 e_M7 => ?_)
  have h := h M7 e_M7
  refine qr_aload_n 51 52 rfl (x := 178) rfl dX12_weightOf_51 ?_
  refine qr_getF 52 55 rfl ck12 18 (by decide) (b := 186) (by decide +kernel) rfl (by decide +kernel) (by decide +kernel) wm_1344 rfl dX12_weightOf_52 ?_
  refine qr_iconst 55 56 rfl (q_l32 _ rfl) dX12_weightOf_55 ?_
  refine qr_iload_n 56 57 rfl (x := x2) rfl dX12_weightOf_56 ?_
  refine qi_st 57 58 rfl (N := 5) (by decide +kernel) (by decide +kernel) (by decide) (by decide) dX12_weightOf_57 (fun M8 e_M8 => ?_)
  have h := h M8 e_M8
  refine qr_aload_n 58 59 rfl (x := 178) rfl dX12_weightOf_58 ?_
  refine qr_getF 59 62 rfl ck12 1 (by decide) (b := 179) (by decide +kernel) rfl (by decide +kernel) (by decide +kernel) wm_1327 rfl dX12_weightOf_59 ?_
  refine qr_bipush 62 64 rfl (q_l32 _ rfl) (by decide) dX12_weightOf_62 ?_
  refine qi_ld 64 65 rfl (N := 4512) (by decide +kernel) (by decide +kernel) (by decide) (by decide) dX12_weightOf_64 ?_
  refine qr_iconst 65 66 rfl (q_l32 _ rfl) dX12_weightOf_65 ?_
  refine qr_icmp_ne 66 69 79 rfl (by decide) dX12_weightOf_66 (fun c66 => ?_) (fun c66 => ?_)
  · have h := h.1 c66
    exact qr_cut 79 (ls' := [some (qR 178), some (qI x1), none, none]) (And.intro rfl (And.intro rfl trivial)) h
  · have h := h.2 c66
    refine qr_aload_n 69 70 rfl (x := 178) rfl dX12_weightOf_69 ?_
    refine qr_iconst 70 71 rfl (q_l32 _ rfl) dX12_weightOf_70 ?_
    refine qw_I 71 74 rfl (av := [qI 1]) ca_X12_reckons wm_1642 wp_107 wm_1640 ck12 (by decide +kernel) rfl rfl (Nat.le_of_ble_eq_true rfl) dX12_weightOf_71 h (fun v10 M9 h => ?_)
    refine qr_if_ne 74 77 79 rfl (by decide) dX12_weightOf_74 (fun c74 => ?_) (fun c74 => ?_)
    · have h := h.1 c74
      exact qr_cut 79 (ls' := [some (qR 178), some (qI x1), none, none]) (And.intro rfl (And.intro rfl trivial)) h
    · have h := h.2 c74
      refine qr_iconst 77 78 rfl (q_l32 _ rfl) dX12_weightOf_77 ?_
      exact qe_i 78 rfl dX12_weightOf_78 h
theorem bX12_weightOf_79 {d : Nat} {P : Int → q_Mem → Prop} {M : q_Mem} (x1 : Int) (h : (((¬ (M 179 96) = (1 : Int)) → (0 ≤ (q_add 3 x1) ∧ (q_add 3 x1) < (4512 : Int)) ∧ (q_v mX12_weightOf d (qPI P) M 106 [none, none, none, none] [qI (M 179 (q_add 3 x1))])) ∧ (((M 179 96) = (1 : Int)) → q_kI yX12_reckons mX12_reckons d [qR 178, qI 0] M (fun v3 M2 => q_v mX12_weightOf d (qPI P) M2 106 [none, none, none, none] [qI v3])))) : q_v mX12_weightOf d (qPI P) M 79 [some (qR 178), some (qI x1), none, none] [] := by
  refine qr_aload_n 79 80 rfl (x := 178) rfl dX12_weightOf_79 ?_
  refine qr_getF 80 83 rfl ck12 1 (by decide) (b := 179) (by decide +kernel) rfl (by decide +kernel) (by decide +kernel) wm_1327 rfl dX12_weightOf_80 ?_
  refine qr_bipush 83 85 rfl (q_l32 _ rfl) (by decide) dX12_weightOf_83 ?_
  refine qi_ld 85 86 rfl (N := 4512) (by decide +kernel) (by decide +kernel) (by decide) (by decide) dX12_weightOf_85 ?_
  refine qr_iconst 86 87 rfl (q_l32 _ rfl) dX12_weightOf_86 ?_
  refine qr_icmp_ne 87 90 98 rfl (by decide) dX12_weightOf_87 (fun c87 => ?_) (fun c87 => ?_)
  · have h := h.1 c87
    refine qr_aload_n 98 99 rfl (x := 178) rfl dX12_weightOf_98 ?_
    refine qr_getF 99 102 rfl ck12 1 (by decide) (b := 179) (by decide +kernel) rfl (by decide +kernel) (by decide +kernel) wm_1327 rfl dX12_weightOf_99 ?_
    refine qr_iconst 102 103 rfl (q_l32 _ rfl) dX12_weightOf_102 ?_
    refine qr_iload_n 103 104 rfl (x := x1) rfl dX12_weightOf_103 ?_
    refine qr_iadd 104 105 rfl dX12_weightOf_104 ?_
    have hb1 := h.1
    have h := h.2
    refine qi_ld 105 106 rfl (N := 4512) (by decide +kernel) (by decide +kernel) hb1.1 hb1.2 dX12_weightOf_105 ?_
    exact qr_cut 106 (ls' := [none, none, none, none]) trivial h
  · have h := h.2 c87
    refine qr_aload_n 90 91 rfl (x := 178) rfl dX12_weightOf_90 ?_
    refine qr_iconst 91 92 rfl (q_l32 _ rfl) dX12_weightOf_91 ?_
    refine qw_I 92 95 rfl (av := [qI 0]) ca_X12_reckons wm_1642 wp_107 wm_1640 ck12 (by decide +kernel) rfl rfl (Nat.le_of_ble_eq_true rfl) dX12_weightOf_92 h (fun v3 M2 h => ?_)
    refine qr_goto 95 106 (by decide) dX12_weightOf_95 ?_
    exact qr_cut 106 (ls' := [none, none, none, none]) trivial h
theorem bX12_weightOf_106 {d : Nat} {P : Int → q_Mem → Prop} {M : q_Mem} (y0 : Int) (h : ((((-99) : Int) ≤ y0) → ((y0 ≤ (99 : Int)) → P y0 M) ∧ ((¬ (y0 ≤ (99 : Int))) → P 99 M)) ∧ ((¬ (((-99) : Int) ≤ y0)) → P (-99) M)) : q_v mX12_weightOf d (qPI P) M 106 [none, none, none, none] [qI y0] := by
  refine qr_istore_n 106 107 rfl (by decide) rfl rfl dX12_weightOf_106 ?_
  refine qr_iload_n 107 108 rfl (x := y0) rfl dX12_weightOf_107 ?_
  refine qr_bipush 108 110 rfl (q_l32 _ rfl) (by decide) dX12_weightOf_108 ?_
  refine qr_icmp_ge 110 113 118 rfl (by decide) dX12_weightOf_110 (fun c110 => ?_) (fun c110 => ?_)
  · have h := h.1 c110
    refine qr_iload_n 118 119 rfl (x := y0) rfl dX12_weightOf_118 ?_
    refine qr_bipush 119 121 rfl (q_l32 _ rfl) (by decide) dX12_weightOf_119 ?_
    refine qr_icmp_le 121 124 129 rfl (by decide) dX12_weightOf_121 (fun c121 => ?_) (fun c121 => ?_)
    · have h := h.1 c121
      refine qr_iload_n 129 130 rfl (x := y0) rfl dX12_weightOf_129 ?_
      exact qe_i 130 rfl dX12_weightOf_130 h
    · have h := h.2 c121
      refine qr_bipush 124 126 rfl (q_l32 _ rfl) (by decide) dX12_weightOf_124 ?_
      refine qr_goto 126 130 (by decide) dX12_weightOf_126 ?_
      exact qe_i 130 rfl dX12_weightOf_130 h
  · have h := h.2 c110
    refine qr_bipush 113 115 rfl (q_l32 _ rfl) (by decide) dX12_weightOf_113 ?_
    refine qr_goto 115 130 (by decide) dX12_weightOf_115 ?_
    exact qe_i 130 rfl dX12_weightOf_130 h
theorem dX12_laysWeights_0 : decode cX12_laysWeights 0 = .ok (.iconst 0, 1) := by decide +kernel
theorem dX12_laysWeights_1 : decode cX12_laysWeights 1 = .ok (.istore_n 1, 1) := by decide +kernel
theorem dX12_laysWeights_2 : decode cX12_laysWeights 2 = .ok (.iload_n 1, 1) := by decide +kernel
theorem dX12_laysWeights_3 : decode cX12_laysWeights 3 = .ok (.aload_n 0, 1) := by decide +kernel
theorem dX12_laysWeights_4 : decode cX12_laysWeights 4 = .ok (.getfield 13, 3) := by decide +kernel
theorem dX12_laysWeights_7 : decode cX12_laysWeights 7 = .ok (.bipush 52, 2) := by decide +kernel
theorem dX12_laysWeights_9 : decode cX12_laysWeights 9 = .ok (.iaload, 1) := by decide +kernel
theorem dX12_laysWeights_10 : decode cX12_laysWeights 10 = .ok (.if_icmp .ge 26, 3) := by decide +kernel
theorem dX12_laysWeights_13 : decode cX12_laysWeights 13 = .ok (.aload_n 0, 1) := by decide +kernel
theorem dX12_laysWeights_14 : decode cX12_laysWeights 14 = .ok (.getfield 42, 3) := by decide +kernel
theorem dX12_laysWeights_17 : decode cX12_laysWeights 17 = .ok (.iload_n 1, 1) := by decide +kernel
theorem dX12_laysWeights_18 : decode cX12_laysWeights 18 = .ok (.aload_n 0, 1) := by decide +kernel
theorem dX12_laysWeights_19 : decode cX12_laysWeights 19 = .ok (.iload_n 1, 1) := by decide +kernel
theorem dX12_laysWeights_20 : decode cX12_laysWeights 20 = .ok (.aload_n 0, 1) := by decide +kernel
theorem dX12_laysWeights_21 : decode cX12_laysWeights 21 = .ok (.getfield 13, 3) := by decide +kernel
theorem dX12_laysWeights_24 : decode cX12_laysWeights 24 = .ok (.iconst 1, 1) := by decide +kernel
theorem dX12_laysWeights_25 : decode cX12_laysWeights 25 = .ok (.iaload, 1) := by decide +kernel
theorem dX12_laysWeights_26 : decode cX12_laysWeights 26 = .ok (.invokevirtual 260, 3) := by decide +kernel
theorem dX12_laysWeights_29 : decode cX12_laysWeights 29 = .ok (.iastore, 1) := by decide +kernel
theorem dX12_laysWeights_30 : decode cX12_laysWeights 30 = .ok (.iinc 1 1, 3) := by decide +kernel
theorem dX12_laysWeights_33 : decode cX12_laysWeights 33 = .ok (.goto (-31), 3) := by decide +kernel
theorem dX12_laysWeights_36 : decode cX12_laysWeights 36 = .ok (.return_, 1) := by decide +kernel
theorem bX12_laysWeights_0 {d : Nat} {P : q_Mem → Prop} {M : q_Mem} (h : q_v mX12_laysWeights d (qPU P) M 2 [some (qR 178), some (qI 0)] []) : q_v mX12_laysWeights d (qPU P) M 0 [some (qR 178), none] [] := by
  refine qr_iconst 0 1 rfl (q_l32 _ rfl) dX12_laysWeights_0 ?_
  refine qr_istore_n 1 2 rfl (by decide) rfl rfl dX12_laysWeights_1 ?_
  exact h
theorem bX12_laysWeights_2 {d : Nat} {P : q_Mem → Prop} {M : q_Mem} (x1 : Int) (h : ((((M 179 52) ≤ x1) → P M) ∧ ((¬ ((M 179 52) ≤ x1)) → (q_kI yX12_weightOf mX12_weightOf d [qR 178, qI x1, qI (M 179 1)] M (fun v2 M1 => (0 ≤ x1 ∧ x1 < (16 : Int)) ∧ (∀ M4 : q_Mem, M4 = q_up M1 187 x1 v2 → q_v mX12_laysWeights d (qPU P) M4 2 [some (qR 178), some (qI (q_add x1 1))] [])))))) : q_v mX12_laysWeights d (qPU P) M 2 [some (qR 178), some (qI x1)] [] := by
  refine qr_iload_n 2 3 rfl (x := x1) rfl dX12_laysWeights_2 ?_
  refine qr_aload_n 3 4 rfl (x := 178) rfl dX12_laysWeights_3 ?_
  refine qr_getF 4 7 rfl ck12 1 (by decide) (b := 179) (by decide +kernel) rfl (by decide +kernel) (by decide +kernel) wm_1327 rfl dX12_laysWeights_4 ?_
  refine qr_bipush 7 9 rfl (q_l32 _ rfl) (by decide) dX12_laysWeights_7 ?_
  refine qi_ld 9 10 rfl (N := 4512) (by decide +kernel) (by decide +kernel) (by decide) (by decide) dX12_laysWeights_9 ?_
  refine qr_icmp_ge 10 13 36 rfl (by decide) dX12_laysWeights_10 (fun c10 => ?_) (fun c10 => ?_)
  · have h := h.1 c10
    exact qe_u 36 rfl dX12_laysWeights_36 h
  · have h := h.2 c10
    refine qr_aload_n 13 14 rfl (x := 178) rfl dX12_laysWeights_13 ?_
    refine qr_getF 14 17 rfl ck12 19 (by decide) (b := 187) (by decide +kernel) rfl (by decide +kernel) (by decide +kernel) wm_1345 rfl dX12_laysWeights_14 ?_
    refine qr_iload_n 17 18 rfl (x := x1) rfl dX12_laysWeights_17 ?_
    refine qr_aload_n 18 19 rfl (x := 178) rfl dX12_laysWeights_18 ?_
    refine qr_iload_n 19 20 rfl (x := x1) rfl dX12_laysWeights_19 ?_
    refine qr_aload_n 20 21 rfl (x := 178) rfl dX12_laysWeights_20 ?_
    refine qr_getF 21 24 rfl ck12 1 (by decide) (b := 179) (by decide +kernel) rfl (by decide +kernel) (by decide +kernel) wm_1327 rfl dX12_laysWeights_21 ?_
    refine qr_iconst 24 25 rfl (q_l32 _ rfl) dX12_laysWeights_24 ?_
    refine qi_ld 25 26 rfl (N := 4512) (by decide +kernel) (by decide +kernel) (by decide) (by decide) dX12_laysWeights_25 ?_
    refine qw_I 26 29 rfl (av := [qI x1, qI (M 179 1)]) ca_X12_weightOf wm_1638 wp_106 wm_1636 ck12 (by decide +kernel) rfl rfl (Nat.le_of_ble_eq_true rfl) dX12_laysWeights_26 h (fun v2 M1 h => ?_)
    have hb3 := h.1
    have h := h.2
    refine qi_st 29 30 rfl (N := 16) (by decide +kernel) (by decide +kernel) hb3.1 hb3.2 dX12_laysWeights_29 (fun M4 e_M4 => ?_)
    have h := h M4 e_M4
    refine qr_iinc 30 33 rfl (by decide) (x := x1) rfl rfl rfl dX12_laysWeights_30 ?_
    refine qr_goto 33 2 (by decide) dX12_laysWeights_33 ?_
    exact h
theorem dX12_isLink_0 : decode cX12_isLink 0 = .ok (.lload_n 1, 1) := by decide +kernel
theorem dX12_isLink_1 : decode cX12_isLink 1 = .ok (.lconst 0, 1) := by decide +kernel
theorem dX12_isLink_2 : decode cX12_isLink 2 = .ok (.aload_n 0, 1) := by decide +kernel
theorem dX12_isLink_3 : decode cX12_isLink 3 = .ok (.getfield 13, 3) := by decide +kernel
theorem dX12_isLink_6 : decode cX12_isLink 6 = .ok (.bipush 52, 2) := by decide +kernel
theorem dX12_isLink_8 : decode cX12_isLink 8 = .ok (.iaload, 1) := by decide +kernel
theorem dX12_isLink_9 : decode cX12_isLink 9 = .ok (.iconst 1, 1) := by decide +kernel
theorem dX12_isLink_10 : decode cX12_isLink 10 = .ok (.isub, 1) := by decide +kernel
theorem dX12_isLink_11 : decode cX12_isLink 11 = .ok (.i2l, 1) := by decide +kernel
theorem dX12_isLink_12 : decode cX12_isLink 12 = .ok (.invokestatic 176, 3) := by decide +kernel
theorem dX12_isLink_15 : decode cX12_isLink 15 = .ok (.ireturn, 1) := by decide +kernel
theorem bX12_isLink_0 {d : Nat} {P : Int → q_Mem → Prop} {M : q_Mem} (x1 : Int) (h : (q_kI yX12_within mX12_within d [qL x1, qL 0, qL (q_sub (M 179 52) 1)] M (fun v2 M1 => (v2 = 0 ∨ v2 = 1) ∧ P v2 M1))) : q_v mX12_isLink d (qPI P) M 0 [some (qR 178), some (qL x1), none] [] := by
  refine qr_lload_n 0 1 rfl (x := x1) rfl dX12_isLink_0 ?_
  refine qr_lconst 1 2 rfl (w := 0) (q_l64 _ rfl) (by decide) dX12_isLink_1 ?_
  refine qr_aload_n 2 3 rfl (x := 178) rfl dX12_isLink_2 ?_
  refine qr_getF 3 6 rfl ck12 1 (by decide) (b := 179) (by decide +kernel) rfl (by decide +kernel) (by decide +kernel) wm_1327 rfl dX12_isLink_3 ?_
  refine qr_bipush 6 8 rfl (q_l32 _ rfl) (by decide) dX12_isLink_6 ?_
  refine qi_ld 8 9 rfl (N := 4512) (by decide +kernel) (by decide +kernel) (by decide) (by decide) dX12_isLink_8 ?_
  refine qr_iconst 9 10 rfl (q_l32 _ rfl) dX12_isLink_9 ?_
  refine qr_isub 10 11 rfl dX12_isLink_10 ?_
  refine qr_i2l 11 12 rfl dX12_isLink_11 ?_
  refine qs_I 12 15 rfl (av := [qL x1, qL 0, qL (q_sub (M 179 52) 1)]) ca_X12_within wm_1481 wm_1480 rfl rfl (Nat.le_of_ble_eq_true rfl) dX12_isLink_12 h (fun v2 M1 h => ?_)
  exact qe_z 15 rfl h.1 dX12_isLink_15 h.2
theorem dX12_isNode_0 : decode cX12_isNode 0 = .ok (.lload_n 1, 1) := by decide +kernel
theorem dX12_isNode_1 : decode cX12_isNode 1 = .ok (.lconst 0, 1) := by decide +kernel
theorem dX12_isNode_2 : decode cX12_isNode 2 = .ok (.aload_n 0, 1) := by decide +kernel
theorem dX12_isNode_3 : decode cX12_isNode 3 = .ok (.getfield 13, 3) := by decide +kernel
theorem dX12_isNode_6 : decode cX12_isNode 6 = .ok (.bipush 51, 2) := by decide +kernel
theorem dX12_isNode_8 : decode cX12_isNode 8 = .ok (.iaload, 1) := by decide +kernel
theorem dX12_isNode_9 : decode cX12_isNode 9 = .ok (.iconst 1, 1) := by decide +kernel
theorem dX12_isNode_10 : decode cX12_isNode 10 = .ok (.isub, 1) := by decide +kernel
theorem dX12_isNode_11 : decode cX12_isNode 11 = .ok (.i2l, 1) := by decide +kernel
theorem dX12_isNode_12 : decode cX12_isNode 12 = .ok (.invokestatic 176, 3) := by decide +kernel
theorem dX12_isNode_15 : decode cX12_isNode 15 = .ok (.ireturn, 1) := by decide +kernel
theorem bX12_isNode_0 {d : Nat} {P : Int → q_Mem → Prop} {M : q_Mem} (x1 : Int) (h : (q_kI yX12_within mX12_within d [qL x1, qL 0, qL (q_sub (M 179 51) 1)] M (fun v2 M1 => (v2 = 0 ∨ v2 = 1) ∧ P v2 M1))) : q_v mX12_isNode d (qPI P) M 0 [some (qR 178), some (qL x1), none] [] := by
  refine qr_lload_n 0 1 rfl (x := x1) rfl dX12_isNode_0 ?_
  refine qr_lconst 1 2 rfl (w := 0) (q_l64 _ rfl) (by decide) dX12_isNode_1 ?_
  refine qr_aload_n 2 3 rfl (x := 178) rfl dX12_isNode_2 ?_
  refine qr_getF 3 6 rfl ck12 1 (by decide) (b := 179) (by decide +kernel) rfl (by decide +kernel) (by decide +kernel) wm_1327 rfl dX12_isNode_3 ?_
  refine qr_bipush 6 8 rfl (q_l32 _ rfl) (by decide) dX12_isNode_6 ?_
  refine qi_ld 8 9 rfl (N := 4512) (by decide +kernel) (by decide +kernel) (by decide) (by decide) dX12_isNode_8 ?_
  refine qr_iconst 9 10 rfl (q_l32 _ rfl) dX12_isNode_9 ?_
  refine qr_isub 10 11 rfl dX12_isNode_10 ?_
  refine qr_i2l 11 12 rfl dX12_isNode_11 ?_
  refine qs_I 12 15 rfl (av := [qL x1, qL 0, qL (q_sub (M 179 51) 1)]) ca_X12_within wm_1481 wm_1480 rfl rfl (Nat.le_of_ble_eq_true rfl) dX12_isNode_12 h (fun v2 M1 h => ?_)
  exact qe_z 15 rfl h.1 dX12_isNode_15 h.2
theorem dX12_degreeOf_0 : decode cX12_degreeOf 0 = .ok (.aload_n 0, 1) := by decide +kernel
theorem dX12_degreeOf_1 : decode cX12_degreeOf 1 = .ok (.getfield 13, 3) := by decide +kernel
theorem dX12_degreeOf_4 : decode cX12_degreeOf 4 = .ok (.bipush 85, 2) := by decide +kernel
theorem dX12_degreeOf_6 : decode cX12_degreeOf 6 = .ok (.iload_n 1, 1) := by decide +kernel
theorem dX12_degreeOf_7 : decode cX12_degreeOf 7 = .ok (.iadd, 1) := by decide +kernel
theorem dX12_degreeOf_8 : decode cX12_degreeOf 8 = .ok (.iconst 1, 1) := by decide +kernel
theorem dX12_degreeOf_9 : decode cX12_degreeOf 9 = .ok (.iadd, 1) := by decide +kernel
theorem dX12_degreeOf_10 : decode cX12_degreeOf 10 = .ok (.iaload, 1) := by decide +kernel
theorem dX12_degreeOf_11 : decode cX12_degreeOf 11 = .ok (.aload_n 0, 1) := by decide +kernel
theorem dX12_degreeOf_12 : decode cX12_degreeOf 12 = .ok (.getfield 13, 3) := by decide +kernel
theorem dX12_degreeOf_15 : decode cX12_degreeOf 15 = .ok (.bipush 85, 2) := by decide +kernel
theorem dX12_degreeOf_17 : decode cX12_degreeOf 17 = .ok (.iload_n 1, 1) := by decide +kernel
theorem dX12_degreeOf_18 : decode cX12_degreeOf 18 = .ok (.iadd, 1) := by decide +kernel
theorem dX12_degreeOf_19 : decode cX12_degreeOf 19 = .ok (.iaload, 1) := by decide +kernel
theorem dX12_degreeOf_20 : decode cX12_degreeOf 20 = .ok (.isub, 1) := by decide +kernel
theorem dX12_degreeOf_21 : decode cX12_degreeOf 21 = .ok (.ireturn, 1) := by decide +kernel
theorem bX12_degreeOf_0 {d : Nat} {P : Int → q_Mem → Prop} {M : q_Mem} (x1 : Int) (h : (0 ≤ (q_add (q_add 85 x1) 1) ∧ (q_add (q_add 85 x1) 1) < (4512 : Int)) ∧ ((0 ≤ (q_add 85 x1) ∧ (q_add 85 x1) < (4512 : Int)) ∧ (P (q_sub (M 179 (q_add (q_add 85 x1) 1)) (M 179 (q_add 85 x1))) M))) : q_v mX12_degreeOf d (qPI P) M 0 [some (qR 178), some (qI x1)] [] := by
  refine qr_aload_n 0 1 rfl (x := 178) rfl dX12_degreeOf_0 ?_
  refine qr_getF 1 4 rfl ck12 1 (by decide) (b := 179) (by decide +kernel) rfl (by decide +kernel) (by decide +kernel) wm_1327 rfl dX12_degreeOf_1 ?_
  refine qr_bipush 4 6 rfl (q_l32 _ rfl) (by decide) dX12_degreeOf_4 ?_
  refine qr_iload_n 6 7 rfl (x := x1) rfl dX12_degreeOf_6 ?_
  refine qr_iadd 7 8 rfl dX12_degreeOf_7 ?_
  refine qr_iconst 8 9 rfl (q_l32 _ rfl) dX12_degreeOf_8 ?_
  refine qr_iadd 9 10 rfl dX12_degreeOf_9 ?_
  have hb1 := h.1
  have h := h.2
  refine qi_ld 10 11 rfl (N := 4512) (by decide +kernel) (by decide +kernel) hb1.1 hb1.2 dX12_degreeOf_10 ?_
  refine qr_aload_n 11 12 rfl (x := 178) rfl dX12_degreeOf_11 ?_
  refine qr_getF 12 15 rfl ck12 1 (by decide) (b := 179) (by decide +kernel) rfl (by decide +kernel) (by decide +kernel) wm_1327 rfl dX12_degreeOf_12 ?_
  refine qr_bipush 15 17 rfl (q_l32 _ rfl) (by decide) dX12_degreeOf_15 ?_
  refine qr_iload_n 17 18 rfl (x := x1) rfl dX12_degreeOf_17 ?_
  refine qr_iadd 18 19 rfl dX12_degreeOf_18 ?_
  have hb2 := h.1
  have h := h.2
  refine qi_ld 19 20 rfl (N := 4512) (by decide +kernel) (by decide +kernel) hb2.1 hb2.2 dX12_degreeOf_19 ?_
  refine qr_isub 20 21 rfl dX12_degreeOf_20 ?_
  exact qe_i 21 rfl dX12_degreeOf_21 h
theorem dX12_worthOf_0 : decode cX12_worthOf 0 = .ok (.iconst 0, 1) := by decide +kernel
theorem dX12_worthOf_1 : decode cX12_worthOf 1 = .ok (.istore_n 2, 1) := by decide +kernel
theorem dX12_worthOf_2 : decode cX12_worthOf 2 = .ok (.iconst 0, 1) := by decide +kernel
theorem dX12_worthOf_3 : decode cX12_worthOf 3 = .ok (.istore_n 3, 1) := by decide +kernel
theorem dX12_worthOf_4 : decode cX12_worthOf 4 = .ok (.iload_n 3, 1) := by decide +kernel
theorem dX12_worthOf_5 : decode cX12_worthOf 5 = .ok (.aload_n 0, 1) := by decide +kernel
theorem dX12_worthOf_6 : decode cX12_worthOf 6 = .ok (.getfield 13, 3) := by decide +kernel
theorem dX12_worthOf_9 : decode cX12_worthOf 9 = .ok (.bipush 52, 2) := by decide +kernel
theorem dX12_worthOf_11 : decode cX12_worthOf 11 = .ok (.iaload, 1) := by decide +kernel
theorem dX12_worthOf_12 : decode cX12_worthOf 12 = .ok (.if_icmp .ge 51, 3) := by decide +kernel
theorem dX12_worthOf_15 : decode cX12_worthOf 15 = .ok (.iload_n 2, 1) := by decide +kernel
theorem dX12_worthOf_16 : decode cX12_worthOf 16 = .ok (.iload_n 1, 1) := by decide +kernel
theorem dX12_worthOf_17 : decode cX12_worthOf 17 = .ok (.aload_n 0, 1) := by decide +kernel
theorem dX12_worthOf_18 : decode cX12_worthOf 18 = .ok (.getfield 13, 3) := by decide +kernel
theorem dX12_worthOf_21 : decode cX12_worthOf 21 = .ok (.bipush 53, 2) := by decide +kernel
theorem dX12_worthOf_23 : decode cX12_worthOf 23 = .ok (.iload_n 3, 1) := by decide +kernel
theorem dX12_worthOf_24 : decode cX12_worthOf 24 = .ok (.iadd, 1) := by decide +kernel
theorem dX12_worthOf_25 : decode cX12_worthOf 25 = .ok (.iaload, 1) := by decide +kernel
theorem dX12_worthOf_26 : decode cX12_worthOf 26 = .ok (.invokestatic 263, 3) := by decide +kernel
theorem dX12_worthOf_29 : decode cX12_worthOf 29 = .ok (.iload_n 1, 1) := by decide +kernel
theorem dX12_worthOf_30 : decode cX12_worthOf 30 = .ok (.aload_n 0, 1) := by decide +kernel
theorem dX12_worthOf_31 : decode cX12_worthOf 31 = .ok (.getfield 13, 3) := by decide +kernel
theorem dX12_worthOf_34 : decode cX12_worthOf 34 = .ok (.bipush 69, 2) := by decide +kernel
theorem dX12_worthOf_36 : decode cX12_worthOf 36 = .ok (.iload_n 3, 1) := by decide +kernel
theorem dX12_worthOf_37 : decode cX12_worthOf 37 = .ok (.iadd, 1) := by decide +kernel
theorem dX12_worthOf_38 : decode cX12_worthOf 38 = .ok (.iaload, 1) := by decide +kernel
theorem dX12_worthOf_39 : decode cX12_worthOf 39 = .ok (.invokestatic 263, 3) := by decide +kernel
theorem dX12_worthOf_42 : decode cX12_worthOf 42 = .ok (.if_icmp .eq 12, 3) := by decide +kernel
theorem dX12_worthOf_45 : decode cX12_worthOf 45 = .ok (.aload_n 0, 1) := by decide +kernel
theorem dX12_worthOf_46 : decode cX12_worthOf 46 = .ok (.getfield 42, 3) := by decide +kernel
theorem dX12_worthOf_49 : decode cX12_worthOf 49 = .ok (.iload_n 3, 1) := by decide +kernel
theorem dX12_worthOf_50 : decode cX12_worthOf 50 = .ok (.iaload, 1) := by decide +kernel
theorem dX12_worthOf_51 : decode cX12_worthOf 51 = .ok (.goto 4, 3) := by decide +kernel
theorem dX12_worthOf_54 : decode cX12_worthOf 54 = .ok (.iconst 0, 1) := by decide +kernel
theorem dX12_worthOf_55 : decode cX12_worthOf 55 = .ok (.iadd, 1) := by decide +kernel
theorem dX12_worthOf_56 : decode cX12_worthOf 56 = .ok (.istore_n 2, 1) := by decide +kernel
theorem dX12_worthOf_57 : decode cX12_worthOf 57 = .ok (.iinc 3 1, 3) := by decide +kernel
theorem dX12_worthOf_60 : decode cX12_worthOf 60 = .ok (.goto (-56), 3) := by decide +kernel
theorem dX12_worthOf_63 : decode cX12_worthOf 63 = .ok (.iload_n 2, 1) := by decide +kernel
theorem dX12_worthOf_64 : decode cX12_worthOf 64 = .ok (.ireturn, 1) := by decide +kernel
theorem bX12_worthOf_0 {d : Nat} {P : Int → q_Mem → Prop} {M : q_Mem} (x1 : Int) (h : q_v mX12_worthOf d (qPI P) M 4 [some (qR 178), some (qI x1), some (qI 0), some (qI 0)] []) : q_v mX12_worthOf d (qPI P) M 0 [some (qR 178), some (qI x1), none, none] [] := by
  refine qr_iconst 0 1 rfl (q_l32 _ rfl) dX12_worthOf_0 ?_
  refine qr_istore_n 1 2 rfl (by decide) rfl rfl dX12_worthOf_1 ?_
  refine qr_iconst 2 3 rfl (q_l32 _ rfl) dX12_worthOf_2 ?_
  refine qr_istore_n 3 4 rfl (by decide) rfl rfl dX12_worthOf_3 ?_
  exact h
theorem bX12_worthOf_4 {d : Nat} {P : Int → q_Mem → Prop} {M : q_Mem} (x1 x2 x3 : Int) (h : ((((M 179 52) ≤ x3) → P x2 M) ∧ ((¬ ((M 179 52) ≤ x3)) → (0 ≤ (q_add 53 x3) ∧ (q_add 53 x3) < (4512 : Int)) ∧ (q_kI yX12_isIn mX12_isIn d [qI x1, qI (M 179 (q_add 53 x3))] M (fun v3 M2 => (0 ≤ (q_add 69 x3) ∧ (q_add 69 x3) < (4512 : Int)) ∧ (q_kI yX12_isIn mX12_isIn d [qI x1, qI (M2 179 (q_add 69 x3))] M2 (fun v6 M5 => ((v3 = v6) → ∀ x2_7 : Int, x2_7 = (q_add x2 0) → q_v mX12_worthOf d (qPI P) M5 4 [some (qR 178), some (qI x1), some (qI x2_7), some (qI (q_add x3 1))] []) ∧ ((¬ (v3 = v6)) → (0 ≤ x3 ∧ x3 < (16 : Int)) ∧ (∀ x2_9 : Int, x2_9 = (q_add x2 (M5 187 x3)) → q_v mX12_worthOf d (qPI P) M5 4 [some (qR 178), some (qI x1), some (qI x2_9), some (qI (q_add x3 1))] []))))))))) : q_v mX12_worthOf d (qPI P) M 4 [some (qR 178), some (qI x1), some (qI x2), some (qI x3)] [] := by
  refine qr_iload_n 4 5 rfl (x := x3) rfl dX12_worthOf_4 ?_
  refine qr_aload_n 5 6 rfl (x := 178) rfl dX12_worthOf_5 ?_
  refine qr_getF 6 9 rfl ck12 1 (by decide) (b := 179) (by decide +kernel) rfl (by decide +kernel) (by decide +kernel) wm_1327 rfl dX12_worthOf_6 ?_
  refine qr_bipush 9 11 rfl (q_l32 _ rfl) (by decide) dX12_worthOf_9 ?_
  refine qi_ld 11 12 rfl (N := 4512) (by decide +kernel) (by decide +kernel) (by decide) (by decide) dX12_worthOf_11 ?_
  refine qr_icmp_ge 12 15 63 rfl (by decide) dX12_worthOf_12 (fun c12 => ?_) (fun c12 => ?_)
  · have h := h.1 c12
    refine qr_iload_n 63 64 rfl (x := x2) rfl dX12_worthOf_63 ?_
    exact qe_i 64 rfl dX12_worthOf_64 h
  · have h := h.2 c12
    refine qr_iload_n 15 16 rfl (x := x2) rfl dX12_worthOf_15 ?_
    refine qr_iload_n 16 17 rfl (x := x1) rfl dX12_worthOf_16 ?_
    refine qr_aload_n 17 18 rfl (x := 178) rfl dX12_worthOf_17 ?_
    refine qr_getF 18 21 rfl ck12 1 (by decide) (b := 179) (by decide +kernel) rfl (by decide +kernel) (by decide +kernel) wm_1327 rfl dX12_worthOf_18 ?_
    refine qr_bipush 21 23 rfl (q_l32 _ rfl) (by decide) dX12_worthOf_21 ?_
    refine qr_iload_n 23 24 rfl (x := x3) rfl dX12_worthOf_23 ?_
    refine qr_iadd 24 25 rfl dX12_worthOf_24 ?_
    have hb1 := h.1
    have h := h.2
    refine qi_ld 25 26 rfl (N := 4512) (by decide +kernel) (by decide +kernel) hb1.1 hb1.2 dX12_worthOf_25 ?_
    refine qs_I 26 29 rfl (av := [qI x1, qI (M 179 (q_add 53 x3))]) ca_X12_isIn wm_1694 wm_1693 rfl rfl (Nat.le_of_ble_eq_true rfl) dX12_worthOf_26 h (fun v3 M2 h => ?_)
    refine qr_iload_n 29 30 rfl (x := x1) rfl dX12_worthOf_29 ?_
    refine qr_aload_n 30 31 rfl (x := 178) rfl dX12_worthOf_30 ?_
    refine qr_getF 31 34 rfl ck12 1 (by decide) (b := 179) (by decide +kernel) rfl (by decide +kernel) (by decide +kernel) wm_1327 rfl dX12_worthOf_31 ?_
    refine qr_bipush 34 36 rfl (q_l32 _ rfl) (by decide) dX12_worthOf_34 ?_
    refine qr_iload_n 36 37 rfl (x := x3) rfl dX12_worthOf_36 ?_
    refine qr_iadd 37 38 rfl dX12_worthOf_37 ?_
    have hb4 := h.1
    have h := h.2
    refine qi_ld 38 39 rfl (N := 4512) (by decide +kernel) (by decide +kernel) hb4.1 hb4.2 dX12_worthOf_38 ?_
    refine qs_I 39 42 rfl (av := [qI x1, qI (M2 179 (q_add 69 x3))]) ca_X12_isIn wm_1694 wm_1693 rfl rfl (Nat.le_of_ble_eq_true rfl) dX12_worthOf_39 h (fun v6 M5 h => ?_)
    refine qr_icmp_eq 42 45 54 rfl (by decide) dX12_worthOf_42 (fun c42 => ?_) (fun c42 => ?_)
    · have h := h.1 c42
      refine qr_iconst 54 55 rfl (q_l32 _ rfl) dX12_worthOf_54 ?_
      refine qr_iadd 55 56 rfl dX12_worthOf_55 ?_
      refine qn_i 56 (fun x2_7 e_x2_7 => ?_)
      have h := h x2_7 e_x2_7
      refine qr_istore_n 56 57 rfl (by decide) rfl rfl dX12_worthOf_56 ?_
      refine qr_iinc 57 60 rfl (by decide) (x := x3) rfl rfl rfl dX12_worthOf_57 ?_
      refine qr_goto 60 4 (by decide) dX12_worthOf_60 ?_
      exact h
    · have h := h.2 c42
      refine qr_aload_n 45 46 rfl (x := 178) rfl dX12_worthOf_45 ?_
      refine qr_getF 46 49 rfl ck12 19 (by decide) (b := 187) (by decide +kernel) rfl (by decide +kernel) (by decide +kernel) wm_1345 rfl dX12_worthOf_46 ?_
      refine qr_iload_n 49 50 rfl (x := x3) rfl dX12_worthOf_49 ?_
      have hb8 := h.1
      have h := h.2
      refine qi_ld 50 51 rfl (N := 16) (by decide +kernel) (by decide +kernel) hb8.1 hb8.2 dX12_worthOf_50 ?_
      refine qr_goto 51 55 (by decide) dX12_worthOf_51 ?_
      refine qr_iadd 55 56 rfl dX12_worthOf_55 ?_
      refine qn_i 56 (fun x2_9 e_x2_9 => ?_)
      have h := h x2_9 e_x2_9
      refine qr_istore_n 56 57 rfl (by decide) rfl rfl dX12_worthOf_56 ?_
      refine qr_iinc 57 60 rfl (by decide) (x := x3) rfl rfl rfl dX12_worthOf_57 ?_
      refine qr_goto 60 4 (by decide) dX12_worthOf_60 ?_
      exact h
theorem dX12_worthNow_0 : decode cX12_worthNow 0 = .ok (.aload_n 0, 1) := by decide +kernel
theorem dX12_worthNow_1 : decode cX12_worthNow 1 = .ok (.invokevirtual 266, 3) := by decide +kernel
theorem dX12_worthNow_4 : decode cX12_worthNow 4 = .ok (.aload_n 0, 1) := by decide +kernel
theorem dX12_worthNow_5 : decode cX12_worthNow 5 = .ok (.aload_n 0, 1) := by decide +kernel
theorem dX12_worthNow_6 : decode cX12_worthNow 6 = .ok (.getfield 13, 3) := by decide +kernel
theorem dX12_worthNow_9 : decode cX12_worthNow 9 = .ok (.iconst 2, 1) := by decide +kernel
theorem dX12_worthNow_10 : decode cX12_worthNow 10 = .ok (.iaload, 1) := by decide +kernel
theorem dX12_worthNow_11 : decode cX12_worthNow 11 = .ok (.invokevirtual 269, 3) := by decide +kernel
theorem dX12_worthNow_14 : decode cX12_worthNow 14 = .ok (.ireturn, 1) := by decide +kernel
theorem bX12_worthNow_0 {d : Nat} {P : Int → q_Mem → Prop} {M : q_Mem} (h : q_kU yX12_laysWeights mX12_laysWeights d [qR 178] M (fun M1 => (q_kI yX12_worthOf mX12_worthOf d [qR 178, qI (M1 179 2)] M1 (fun v3 M2 => P v3 M2)))) : q_v mX12_worthNow d (qPI P) M 0 [some (qR 178)] [] := by
  refine qr_aload_n 0 1 rfl (x := 178) rfl dX12_worthNow_0 ?_
  refine qw_U 1 4 rfl (av := []) ca_X12_laysWeights wm_1687 wp_112 wm_1685 ck12 (by decide +kernel) rfl rfl (Nat.le_of_ble_eq_true rfl) dX12_worthNow_1 h (fun M1 h => ?_)
  refine qr_aload_n 4 5 rfl (x := 178) rfl dX12_worthNow_4 ?_
  refine qr_aload_n 5 6 rfl (x := 178) rfl dX12_worthNow_5 ?_
  refine qr_getF 6 9 rfl ck12 1 (by decide) (b := 179) (by decide +kernel) rfl (by decide +kernel) (by decide +kernel) wm_1327 rfl dX12_worthNow_6 ?_
  refine qr_iconst 9 10 rfl (q_l32 _ rfl) dX12_worthNow_9 ?_
  refine qi_ld 10 11 rfl (N := 4512) (by decide +kernel) (by decide +kernel) (by decide) (by decide) dX12_worthNow_10 ?_
  refine qw_I 11 14 rfl (av := [qI (M1 179 2)]) ca_X12_worthOf wm_1691 wp_113 wm_1689 ck12 (by decide +kernel) rfl rfl (Nat.le_of_ble_eq_true rfl) dX12_worthNow_11 h (fun v3 M2 h => ?_)
  exact qe_i 14 rfl dX12_worthNow_14 h
theorem dX12_backOf_0 : decode cX12_backOf 0 = .ok (.iload_n 0, 1) := by decide +kernel
theorem dX12_backOf_1 : decode cX12_backOf 1 = .ok (.iconst 1, 1) := by decide +kernel
theorem dX12_backOf_2 : decode cX12_backOf 2 = .ok (.ixor, 1) := by decide +kernel
theorem dX12_backOf_3 : decode cX12_backOf 3 = .ok (.ireturn, 1) := by decide +kernel
theorem bX12_backOf_0 {d : Nat} {P : Int → q_Mem → Prop} {M : q_Mem} (x0 : Int) (h : P (q_xor x0 1) M) : q_v mX12_backOf d (qPI P) M 0 [some (qI x0)] [] := by
  refine qr_iload_n 0 1 rfl (x := x0) rfl dX12_backOf_0 ?_
  refine qr_iconst 1 2 rfl (q_l32 _ rfl) dX12_backOf_1 ?_
  refine qr_ixor 2 3 rfl dX12_backOf_2 ?_
  exact qe_i 3 rfl dX12_backOf_3 h
theorem dX12_fromOf_0 : decode cX12_fromOf 0 = .ok (.aload_n 0, 1) := by decide +kernel
theorem dX12_fromOf_1 : decode cX12_fromOf 1 = .ok (.getfield 13, 3) := by decide +kernel
theorem dX12_fromOf_4 : decode cX12_fromOf 4 = .ok (.iload_n 1, 1) := by decide +kernel
theorem dX12_fromOf_5 : decode cX12_fromOf 5 = .ok (.iconst 2, 1) := by decide +kernel
theorem dX12_fromOf_6 : decode cX12_fromOf 6 = .ok (.irem, 1) := by decide +kernel
theorem dX12_fromOf_7 : decode cX12_fromOf 7 = .ok (.ifCond .ne 8, 3) := by decide +kernel
theorem dX12_fromOf_10 : decode cX12_fromOf 10 = .ok (.bipush 53, 2) := by decide +kernel
theorem dX12_fromOf_12 : decode cX12_fromOf 12 = .ok (.goto 5, 3) := by decide +kernel
theorem dX12_fromOf_15 : decode cX12_fromOf 15 = .ok (.bipush 69, 2) := by decide +kernel
theorem dX12_fromOf_17 : decode cX12_fromOf 17 = .ok (.iload_n 1, 1) := by decide +kernel
theorem dX12_fromOf_18 : decode cX12_fromOf 18 = .ok (.iconst 2, 1) := by decide +kernel
theorem dX12_fromOf_19 : decode cX12_fromOf 19 = .ok (.idiv, 1) := by decide +kernel
theorem dX12_fromOf_20 : decode cX12_fromOf 20 = .ok (.iadd, 1) := by decide +kernel
theorem dX12_fromOf_21 : decode cX12_fromOf 21 = .ok (.iaload, 1) := by decide +kernel
theorem dX12_fromOf_22 : decode cX12_fromOf 22 = .ok (.ireturn, 1) := by decide +kernel
theorem bX12_fromOf_0 {d : Nat} {P : Int → q_Mem → Prop} {M : q_Mem} (x1 : Int) (h : ((¬ (q_rem x1 2) = 0) → (0 ≤ (q_add 69 (q_div x1 2)) ∧ (q_add 69 (q_div x1 2)) < (4512 : Int)) ∧ (P (M 179 (q_add 69 (q_div x1 2))) M)) ∧ (((q_rem x1 2) = 0) → (0 ≤ (q_add 53 (q_div x1 2)) ∧ (q_add 53 (q_div x1 2)) < (4512 : Int)) ∧ (P (M 179 (q_add 53 (q_div x1 2))) M))) : q_v mX12_fromOf d (qPI P) M 0 [some (qR 178), some (qI x1)] [] := by
  refine qr_aload_n 0 1 rfl (x := 178) rfl dX12_fromOf_0 ?_
  refine qr_getF 1 4 rfl ck12 1 (by decide) (b := 179) (by decide +kernel) rfl (by decide +kernel) (by decide +kernel) wm_1327 rfl dX12_fromOf_1 ?_
  refine qr_iload_n 4 5 rfl (x := x1) rfl dX12_fromOf_4 ?_
  refine qr_iconst 5 6 rfl (q_l32 _ rfl) dX12_fromOf_5 ?_
  refine qr_irem 6 7 rfl (by decide) dX12_fromOf_6 ?_
  refine qr_if_ne 7 10 15 rfl (by decide) dX12_fromOf_7 (fun c7 => ?_) (fun c7 => ?_)
  · have h := h.1 c7
    refine qr_bipush 15 17 rfl (q_l32 _ rfl) (by decide) dX12_fromOf_15 ?_
    refine qr_iload_n 17 18 rfl (x := x1) rfl dX12_fromOf_17 ?_
    refine qr_iconst 18 19 rfl (q_l32 _ rfl) dX12_fromOf_18 ?_
    refine qr_idiv 19 20 rfl (by decide) dX12_fromOf_19 ?_
    refine qr_iadd 20 21 rfl dX12_fromOf_20 ?_
    have hb1 := h.1
    have h := h.2
    refine qi_ld 21 22 rfl (N := 4512) (by decide +kernel) (by decide +kernel) hb1.1 hb1.2 dX12_fromOf_21 ?_
    exact qe_i 22 rfl dX12_fromOf_22 h
  · have h := h.2 c7
    refine qr_bipush 10 12 rfl (q_l32 _ rfl) (by decide) dX12_fromOf_10 ?_
    refine qr_goto 12 17 (by decide) dX12_fromOf_12 ?_
    refine qr_iload_n 17 18 rfl (x := x1) rfl dX12_fromOf_17 ?_
    refine qr_iconst 18 19 rfl (q_l32 _ rfl) dX12_fromOf_18 ?_
    refine qr_idiv 19 20 rfl (by decide) dX12_fromOf_19 ?_
    refine qr_iadd 20 21 rfl dX12_fromOf_20 ?_
    have hb2 := h.1
    have h := h.2
    refine qi_ld 21 22 rfl (N := 4512) (by decide +kernel) (by decide +kernel) hb2.1 hb2.2 dX12_fromOf_21 ?_
    exact qe_i 22 rfl dX12_fromOf_22 h
theorem dX12_nextOf_0 : decode cX12_nextOf 0 = .ok (.aload_n 0, 1) := by decide +kernel
theorem dX12_nextOf_1 : decode cX12_nextOf 1 = .ok (.iload_n 1, 1) := by decide +kernel
theorem dX12_nextOf_2 : decode cX12_nextOf 2 = .ok (.invokestatic 272, 3) := by decide +kernel
theorem dX12_nextOf_5 : decode cX12_nextOf 5 = .ok (.invokevirtual 275, 3) := by decide +kernel
theorem dX12_nextOf_8 : decode cX12_nextOf 8 = .ok (.istore_n 2, 1) := by decide +kernel
theorem dX12_nextOf_9 : decode cX12_nextOf 9 = .ok (.iconst 0, 1) := by decide +kernel
theorem dX12_nextOf_10 : decode cX12_nextOf 10 = .ok (.istore_n 3, 1) := by decide +kernel
theorem dX12_nextOf_11 : decode cX12_nextOf 11 = .ok (.aload_n 0, 1) := by decide +kernel
theorem dX12_nextOf_12 : decode cX12_nextOf 12 = .ok (.getfield 13, 3) := by decide +kernel
theorem dX12_nextOf_15 : decode cX12_nextOf 15 = .ok (.bipush 19, 2) := by decide +kernel
theorem dX12_nextOf_17 : decode cX12_nextOf 17 = .ok (.aload_n 0, 1) := by decide +kernel
theorem dX12_nextOf_18 : decode cX12_nextOf 18 = .ok (.getfield 13, 3) := by decide +kernel
theorem dX12_nextOf_21 : decode cX12_nextOf 21 = .ok (.bipush 85, 2) := by decide +kernel
theorem dX12_nextOf_23 : decode cX12_nextOf 23 = .ok (.iload_n 2, 1) := by decide +kernel
theorem dX12_nextOf_24 : decode cX12_nextOf 24 = .ok (.iadd, 1) := by decide +kernel
theorem dX12_nextOf_25 : decode cX12_nextOf 25 = .ok (.iaload, 1) := by decide +kernel
theorem dX12_nextOf_26 : decode cX12_nextOf 26 = .ok (.iadd, 1) := by decide +kernel
theorem dX12_nextOf_27 : decode cX12_nextOf 27 = .ok (.iload_n 3, 1) := by decide +kernel
theorem dX12_nextOf_28 : decode cX12_nextOf 28 = .ok (.iadd, 1) := by decide +kernel
theorem dX12_nextOf_29 : decode cX12_nextOf 29 = .ok (.iaload, 1) := by decide +kernel
theorem dX12_nextOf_30 : decode cX12_nextOf 30 = .ok (.iload_n 1, 1) := by decide +kernel
theorem dX12_nextOf_31 : decode cX12_nextOf 31 = .ok (.iconst 2, 1) := by decide +kernel
theorem dX12_nextOf_32 : decode cX12_nextOf 32 = .ok (.idiv, 1) := by decide +kernel
theorem dX12_nextOf_33 : decode cX12_nextOf 33 = .ok (.if_icmp .eq 9, 3) := by decide +kernel
theorem dX12_nextOf_36 : decode cX12_nextOf 36 = .ok (.iinc 3 1, 3) := by decide +kernel
theorem dX12_nextOf_39 : decode cX12_nextOf 39 = .ok (.goto (-28), 3) := by decide +kernel
theorem dX12_nextOf_42 : decode cX12_nextOf 42 = .ok (.aload_n 0, 1) := by decide +kernel
theorem dX12_nextOf_43 : decode cX12_nextOf 43 = .ok (.getfield 13, 3) := by decide +kernel
theorem dX12_nextOf_46 : decode cX12_nextOf 46 = .ok (.bipush 19, 2) := by decide +kernel
theorem dX12_nextOf_48 : decode cX12_nextOf 48 = .ok (.aload_n 0, 1) := by decide +kernel
theorem dX12_nextOf_49 : decode cX12_nextOf 49 = .ok (.getfield 13, 3) := by decide +kernel
theorem dX12_nextOf_52 : decode cX12_nextOf 52 = .ok (.bipush 85, 2) := by decide +kernel
theorem dX12_nextOf_54 : decode cX12_nextOf 54 = .ok (.iload_n 2, 1) := by decide +kernel
theorem dX12_nextOf_55 : decode cX12_nextOf 55 = .ok (.iadd, 1) := by decide +kernel
theorem dX12_nextOf_56 : decode cX12_nextOf 56 = .ok (.iaload, 1) := by decide +kernel
theorem dX12_nextOf_57 : decode cX12_nextOf 57 = .ok (.iadd, 1) := by decide +kernel
theorem dX12_nextOf_58 : decode cX12_nextOf 58 = .ok (.iload_n 3, 1) := by decide +kernel
theorem dX12_nextOf_59 : decode cX12_nextOf 59 = .ok (.iconst 1, 1) := by decide +kernel
theorem dX12_nextOf_60 : decode cX12_nextOf 60 = .ok (.iadd, 1) := by decide +kernel
theorem dX12_nextOf_61 : decode cX12_nextOf 61 = .ok (.aload_n 0, 1) := by decide +kernel
theorem dX12_nextOf_62 : decode cX12_nextOf 62 = .ok (.iload_n 2, 1) := by decide +kernel
theorem dX12_nextOf_63 : decode cX12_nextOf 63 = .ok (.invokevirtual 278, 3) := by decide +kernel
theorem dX12_nextOf_66 : decode cX12_nextOf 66 = .ok (.irem, 1) := by decide +kernel
theorem dX12_nextOf_67 : decode cX12_nextOf 67 = .ok (.iadd, 1) := by decide +kernel
theorem dX12_nextOf_68 : decode cX12_nextOf 68 = .ok (.iaload, 1) := by decide +kernel
theorem dX12_nextOf_69 : decode cX12_nextOf 69 = .ok (.istore 4, 2) := by decide +kernel
theorem dX12_nextOf_71 : decode cX12_nextOf 71 = .ok (.aload_n 0, 1) := by decide +kernel
theorem dX12_nextOf_72 : decode cX12_nextOf 72 = .ok (.iconst 2, 1) := by decide +kernel
theorem dX12_nextOf_73 : decode cX12_nextOf 73 = .ok (.iload 4, 2) := by decide +kernel
theorem dX12_nextOf_75 : decode cX12_nextOf 75 = .ok (.imul, 1) := by decide +kernel
theorem dX12_nextOf_76 : decode cX12_nextOf 76 = .ok (.invokevirtual 275, 3) := by decide +kernel
theorem dX12_nextOf_79 : decode cX12_nextOf 79 = .ok (.iload_n 2, 1) := by decide +kernel
theorem dX12_nextOf_80 : decode cX12_nextOf 80 = .ok (.if_icmp .ne 10, 3) := by decide +kernel
theorem dX12_nextOf_83 : decode cX12_nextOf 83 = .ok (.iconst 2, 1) := by decide +kernel
theorem dX12_nextOf_84 : decode cX12_nextOf 84 = .ok (.iload 4, 2) := by decide +kernel
theorem dX12_nextOf_86 : decode cX12_nextOf 86 = .ok (.imul, 1) := by decide +kernel
theorem dX12_nextOf_87 : decode cX12_nextOf 87 = .ok (.goto 9, 3) := by decide +kernel
theorem dX12_nextOf_90 : decode cX12_nextOf 90 = .ok (.iconst 2, 1) := by decide +kernel
theorem dX12_nextOf_91 : decode cX12_nextOf 91 = .ok (.iload 4, 2) := by decide +kernel
theorem dX12_nextOf_93 : decode cX12_nextOf 93 = .ok (.imul, 1) := by decide +kernel
theorem dX12_nextOf_94 : decode cX12_nextOf 94 = .ok (.iconst 1, 1) := by decide +kernel
theorem dX12_nextOf_95 : decode cX12_nextOf 95 = .ok (.iadd, 1) := by decide +kernel
theorem dX12_nextOf_96 : decode cX12_nextOf 96 = .ok (.ireturn, 1) := by decide +kernel
theorem bX12_nextOf_0 {d : Nat} {P : Int → q_Mem → Prop} {M : q_Mem} (x1 : Int) (h : q_kI yX12_backOf mX12_backOf d [qI x1] M (fun v2 M1 => q_kI yX12_fromOf mX12_fromOf d [qR 178, qI v2] M1 (fun v4 M3 => q_v mX12_nextOf d (qPI P) M3 11 [some (qR 178), some (qI x1), some (qI v4), some (qI 0), none] []))) : q_v mX12_nextOf d (qPI P) M 0 [some (qR 178), some (qI x1), none, none, none] [] := by
  refine qr_aload_n 0 1 rfl (x := 178) rfl dX12_nextOf_0 ?_
  refine qr_iload_n 1 2 rfl (x := x1) rfl dX12_nextOf_1 ?_
  refine qs_I 2 5 rfl (av := [qI x1]) ca_X12_backOf wm_1622 wm_1621 rfl rfl (Nat.le_of_ble_eq_true rfl) dX12_nextOf_2 h (fun v2 M1 h => ?_)
  refine qw_I 5 8 rfl (av := [qI v2]) ca_X12_fromOf wm_1626 wp_104 wm_1624 ck12 (by decide +kernel) rfl rfl (Nat.le_of_ble_eq_true rfl) dX12_nextOf_5 h (fun v4 M3 h => ?_)
  refine qr_istore_n 8 9 rfl (by decide) rfl rfl dX12_nextOf_8 ?_
  refine qr_iconst 9 10 rfl (q_l32 _ rfl) dX12_nextOf_9 ?_
  refine qr_istore_n 10 11 rfl (by decide) rfl rfl dX12_nextOf_10 ?_
  exact h
theorem bX12_nextOf_11 {d : Nat} {P : Int → q_Mem → Prop} {M : q_Mem} (x1 x2 x3 : Int) (h : (0 ≤ (q_add 85 x2) ∧ (q_add 85 x2) < (4512 : Int)) ∧ ((0 ≤ (q_add (q_add 19 (M 179 (q_add 85 x2))) x3) ∧ (q_add (q_add 19 (M 179 (q_add 85 x2))) x3) < (4512 : Int)) ∧ ((((M 179 (q_add (q_add 19 (M 179 (q_add 85 x2))) x3)) = (q_div x1 2)) → (0 ≤ (q_add 85 x2) ∧ (q_add 85 x2) < (4512 : Int)) ∧ (q_kI yX12_degreeOf mX12_degreeOf d [qR 178, qI x2] M (fun v5 M4 => v5 ≠ 0 ∧ ((0 ≤ (q_add (q_add 19 (M 179 (q_add 85 x2))) (q_rem (q_add x3 1) v5)) ∧ (q_add (q_add 19 (M 179 (q_add 85 x2))) (q_rem (q_add x3 1) v5)) < (4512 : Int)) ∧ (∀ x4_7 : Int, x4_7 = (M4 179 (q_add (q_add 19 (M 179 (q_add 85 x2))) (q_rem (q_add x3 1) v5))) → q_kI yX12_fromOf mX12_fromOf d [qR 178, qI (q_mul 2 x4_7)] M4 (fun v9 M8 => ((¬ v9 = x2) → P (q_add (q_mul 2 x4_7) 1) M8) ∧ ((v9 = x2) → P (q_mul 2 x4_7) M8))))))) ∧ ((¬ ((M 179 (q_add (q_add 19 (M 179 (q_add 85 x2))) x3)) = (q_div x1 2))) → q_v mX12_nextOf d (qPI P) M 11 [some (qR 178), some (qI x1), some (qI x2), some (qI (q_add x3 1)), none] [])))) : q_v mX12_nextOf d (qPI P) M 11 [some (qR 178), some (qI x1), some (qI x2), some (qI x3), none] [] := by
  refine qr_aload_n 11 12 rfl (x := 178) rfl dX12_nextOf_11 ?_
  refine qr_getF 12 15 rfl ck12 1 (by decide) (b := 179) (by decide +kernel) rfl (by decide +kernel) (by decide +kernel) wm_1327 rfl dX12_nextOf_12 ?_
  refine qr_bipush 15 17 rfl (q_l32 _ rfl) (by decide) dX12_nextOf_15 ?_
  refine qr_aload_n 17 18 rfl (x := 178) rfl dX12_nextOf_17 ?_
  refine qr_getF 18 21 rfl ck12 1 (by decide) (b := 179) (by decide +kernel) rfl (by decide +kernel) (by decide +kernel) wm_1327 rfl dX12_nextOf_18 ?_
  refine qr_bipush 21 23 rfl (q_l32 _ rfl) (by decide) dX12_nextOf_21 ?_
  refine qr_iload_n 23 24 rfl (x := x2) rfl dX12_nextOf_23 ?_
  refine qr_iadd 24 25 rfl dX12_nextOf_24 ?_
  have hb1 := h.1
  have h := h.2
  refine qi_ld 25 26 rfl (N := 4512) (by decide +kernel) (by decide +kernel) hb1.1 hb1.2 dX12_nextOf_25 ?_
  refine qr_iadd 26 27 rfl dX12_nextOf_26 ?_
  refine qr_iload_n 27 28 rfl (x := x3) rfl dX12_nextOf_27 ?_
  refine qr_iadd 28 29 rfl dX12_nextOf_28 ?_
  have hb2 := h.1
  have h := h.2
  refine qi_ld 29 30 rfl (N := 4512) (by decide +kernel) (by decide +kernel) hb2.1 hb2.2 dX12_nextOf_29 ?_
  refine qr_iload_n 30 31 rfl (x := x1) rfl dX12_nextOf_30 ?_
  refine qr_iconst 31 32 rfl (q_l32 _ rfl) dX12_nextOf_31 ?_
  refine qr_idiv 32 33 rfl (by decide) dX12_nextOf_32 ?_
  refine qr_icmp_eq 33 36 42 rfl (by decide) dX12_nextOf_33 (fun c33 => ?_) (fun c33 => ?_)
  · have h := h.1 c33
    refine qr_aload_n 42 43 rfl (x := 178) rfl dX12_nextOf_42 ?_
    refine qr_getF 43 46 rfl ck12 1 (by decide) (b := 179) (by decide +kernel) rfl (by decide +kernel) (by decide +kernel) wm_1327 rfl dX12_nextOf_43 ?_
    refine qr_bipush 46 48 rfl (q_l32 _ rfl) (by decide) dX12_nextOf_46 ?_
    refine qr_aload_n 48 49 rfl (x := 178) rfl dX12_nextOf_48 ?_
    refine qr_getF 49 52 rfl ck12 1 (by decide) (b := 179) (by decide +kernel) rfl (by decide +kernel) (by decide +kernel) wm_1327 rfl dX12_nextOf_49 ?_
    refine qr_bipush 52 54 rfl (q_l32 _ rfl) (by decide) dX12_nextOf_52 ?_
    refine qr_iload_n 54 55 rfl (x := x2) rfl dX12_nextOf_54 ?_
    refine qr_iadd 55 56 rfl dX12_nextOf_55 ?_
    have hb3 := h.1
    have h := h.2
    refine qi_ld 56 57 rfl (N := 4512) (by decide +kernel) (by decide +kernel) hb3.1 hb3.2 dX12_nextOf_56 ?_
    refine qr_iadd 57 58 rfl dX12_nextOf_57 ?_
    refine qr_iload_n 58 59 rfl (x := x3) rfl dX12_nextOf_58 ?_
    refine qr_iconst 59 60 rfl (q_l32 _ rfl) dX12_nextOf_59 ?_
    refine qr_iadd 60 61 rfl dX12_nextOf_60 ?_
    refine qr_aload_n 61 62 rfl (x := 178) rfl dX12_nextOf_61 ?_
    refine qr_iload_n 62 63 rfl (x := x2) rfl dX12_nextOf_62 ?_
    refine qw_I 63 66 rfl (av := [qI x2]) ca_X12_degreeOf wm_1630 wp_105 wm_1628 ck12 (by decide +kernel) rfl rfl (Nat.le_of_ble_eq_true rfl) dX12_nextOf_63 h (fun v5 M4 h => ?_)
    refine qr_irem 66 67 rfl h.1 dX12_nextOf_66 ?_
    have h := h.2
    refine qr_iadd 67 68 rfl dX12_nextOf_67 ?_
    have hb6 := h.1
    have h := h.2
    refine qi_ld 68 69 rfl (N := 4512) (by decide +kernel) (by decide +kernel) hb6.1 hb6.2 dX12_nextOf_68 ?_
    refine qn_i 69 (fun x4_7 e_x4_7 => ?_)
    have h := h x4_7 e_x4_7
    refine qr_istore 69 71 rfl (by decide) rfl rfl dX12_nextOf_69 ?_
    refine qr_aload_n 71 72 rfl (x := 178) rfl dX12_nextOf_71 ?_
    refine qr_iconst 72 73 rfl (q_l32 _ rfl) dX12_nextOf_72 ?_
    refine qr_iload 73 75 rfl (x := x4_7) rfl dX12_nextOf_73 ?_
    refine qr_imul 75 76 rfl dX12_nextOf_75 ?_
    refine qw_I 76 79 rfl (av := [qI (q_mul 2 x4_7)]) ca_X12_fromOf wm_1626 wp_104 wm_1624 ck12 (by decide +kernel) rfl rfl (Nat.le_of_ble_eq_true rfl) dX12_nextOf_76 h (fun v9 M8 h => ?_)
    refine qr_iload_n 79 80 rfl (x := x2) rfl dX12_nextOf_79 ?_
    refine qr_icmp_ne 80 83 90 rfl (by decide) dX12_nextOf_80 (fun c80 => ?_) (fun c80 => ?_)
    · have h := h.1 c80
      refine qr_iconst 90 91 rfl (q_l32 _ rfl) dX12_nextOf_90 ?_
      refine qr_iload 91 93 rfl (x := x4_7) rfl dX12_nextOf_91 ?_
      refine qr_imul 93 94 rfl dX12_nextOf_93 ?_
      refine qr_iconst 94 95 rfl (q_l32 _ rfl) dX12_nextOf_94 ?_
      refine qr_iadd 95 96 rfl dX12_nextOf_95 ?_
      exact qe_i 96 rfl dX12_nextOf_96 h
    · have h := h.2 c80
      refine qr_iconst 83 84 rfl (q_l32 _ rfl) dX12_nextOf_83 ?_
      refine qr_iload 84 86 rfl (x := x4_7) rfl dX12_nextOf_84 ?_
      refine qr_imul 86 87 rfl dX12_nextOf_86 ?_
      refine qr_goto 87 96 (by decide) dX12_nextOf_87 ?_
      exact qe_i 96 rfl dX12_nextOf_96 h
  · have h := h.2 c33
    refine qr_iinc 36 39 rfl (by decide) (x := x3) rfl rfl rfl dX12_nextOf_36 ?_
    refine qr_goto 39 11 (by decide) dX12_nextOf_39 ?_
    exact h
theorem dX12_laysFaces_0 : decode cX12_laysFaces 0 = .ok (.aload_n 0, 1) := by decide +kernel
theorem dX12_laysFaces_1 : decode cX12_laysFaces 1 = .ok (.iconst 0, 1) := by decide +kernel
theorem dX12_laysFaces_2 : decode cX12_laysFaces 2 = .ok (.putfield 281, 3) := by decide +kernel
theorem dX12_laysFaces_5 : decode cX12_laysFaces 5 = .ok (.iconst 0, 1) := by decide +kernel
theorem dX12_laysFaces_6 : decode cX12_laysFaces 6 = .ok (.istore_n 1, 1) := by decide +kernel
theorem dX12_laysFaces_7 : decode cX12_laysFaces 7 = .ok (.iload_n 1, 1) := by decide +kernel
theorem dX12_laysFaces_8 : decode cX12_laysFaces 8 = .ok (.bipush 32, 2) := by decide +kernel
theorem dX12_laysFaces_10 : decode cX12_laysFaces 10 = .ok (.if_icmp .ge 16, 3) := by decide +kernel
theorem dX12_laysFaces_13 : decode cX12_laysFaces 13 = .ok (.aload_n 0, 1) := by decide +kernel
theorem dX12_laysFaces_14 : decode cX12_laysFaces 14 = .ok (.getfield 45, 3) := by decide +kernel
theorem dX12_laysFaces_17 : decode cX12_laysFaces 17 = .ok (.iload_n 1, 1) := by decide +kernel
theorem dX12_laysFaces_18 : decode cX12_laysFaces 18 = .ok (.iconst (-1), 1) := by decide +kernel
theorem dX12_laysFaces_19 : decode cX12_laysFaces 19 = .ok (.iastore, 1) := by decide +kernel
theorem dX12_laysFaces_20 : decode cX12_laysFaces 20 = .ok (.iinc 1 1, 3) := by decide +kernel
theorem dX12_laysFaces_23 : decode cX12_laysFaces 23 = .ok (.goto (-16), 3) := by decide +kernel
theorem dX12_laysFaces_26 : decode cX12_laysFaces 26 = .ok (.iconst 0, 1) := by decide +kernel
theorem dX12_laysFaces_27 : decode cX12_laysFaces 27 = .ok (.istore_n 1, 1) := by decide +kernel
theorem dX12_laysFaces_28 : decode cX12_laysFaces 28 = .ok (.iload_n 1, 1) := by decide +kernel
theorem dX12_laysFaces_29 : decode cX12_laysFaces 29 = .ok (.iconst 2, 1) := by decide +kernel
theorem dX12_laysFaces_30 : decode cX12_laysFaces 30 = .ok (.aload_n 0, 1) := by decide +kernel
theorem dX12_laysFaces_31 : decode cX12_laysFaces 31 = .ok (.getfield 13, 3) := by decide +kernel
theorem dX12_laysFaces_34 : decode cX12_laysFaces 34 = .ok (.bipush 52, 2) := by decide +kernel
theorem dX12_laysFaces_36 : decode cX12_laysFaces 36 = .ok (.iaload, 1) := by decide +kernel
theorem dX12_laysFaces_37 : decode cX12_laysFaces 37 = .ok (.imul, 1) := by decide +kernel
theorem dX12_laysFaces_38 : decode cX12_laysFaces 38 = .ok (.if_icmp .ge 96, 3) := by decide +kernel
theorem dX12_laysFaces_41 : decode cX12_laysFaces 41 = .ok (.aload_n 0, 1) := by decide +kernel
theorem dX12_laysFaces_42 : decode cX12_laysFaces 42 = .ok (.getfield 45, 3) := by decide +kernel
theorem dX12_laysFaces_45 : decode cX12_laysFaces 45 = .ok (.iload_n 1, 1) := by decide +kernel
theorem dX12_laysFaces_46 : decode cX12_laysFaces 46 = .ok (.iaload, 1) := by decide +kernel
theorem dX12_laysFaces_47 : decode cX12_laysFaces 47 = .ok (.iconst (-1), 1) := by decide +kernel
theorem dX12_laysFaces_48 : decode cX12_laysFaces 48 = .ok (.if_icmp .eq 6, 3) := by decide +kernel
theorem dX12_laysFaces_51 : decode cX12_laysFaces 51 = .ok (.goto 77, 3) := by decide +kernel
theorem dX12_laysFaces_54 : decode cX12_laysFaces 54 = .ok (.aload_n 0, 1) := by decide +kernel
theorem dX12_laysFaces_55 : decode cX12_laysFaces 55 = .ok (.getfield 48, 3) := by decide +kernel
theorem dX12_laysFaces_58 : decode cX12_laysFaces 58 = .ok (.aload_n 0, 1) := by decide +kernel
theorem dX12_laysFaces_59 : decode cX12_laysFaces 59 = .ok (.getfield 281, 3) := by decide +kernel
theorem dX12_laysFaces_62 : decode cX12_laysFaces 62 = .ok (.iload_n 1, 1) := by decide +kernel
theorem dX12_laysFaces_63 : decode cX12_laysFaces 63 = .ok (.iastore, 1) := by decide +kernel
theorem dX12_laysFaces_64 : decode cX12_laysFaces 64 = .ok (.aload_n 0, 1) := by decide +kernel
theorem dX12_laysFaces_65 : decode cX12_laysFaces 65 = .ok (.getfield 51, 3) := by decide +kernel
theorem dX12_laysFaces_68 : decode cX12_laysFaces 68 = .ok (.aload_n 0, 1) := by decide +kernel
theorem dX12_laysFaces_69 : decode cX12_laysFaces 69 = .ok (.getfield 281, 3) := by decide +kernel
theorem dX12_laysFaces_72 : decode cX12_laysFaces 72 = .ok (.iconst 0, 1) := by decide +kernel
theorem dX12_laysFaces_73 : decode cX12_laysFaces 73 = .ok (.iastore, 1) := by decide +kernel
theorem dX12_laysFaces_74 : decode cX12_laysFaces 74 = .ok (.iload_n 1, 1) := by decide +kernel
theorem dX12_laysFaces_75 : decode cX12_laysFaces 75 = .ok (.istore_n 2, 1) := by decide +kernel
theorem dX12_laysFaces_76 : decode cX12_laysFaces 76 = .ok (.aload_n 0, 1) := by decide +kernel
theorem dX12_laysFaces_77 : decode cX12_laysFaces 77 = .ok (.getfield 45, 3) := by decide +kernel
theorem dX12_laysFaces_80 : decode cX12_laysFaces 80 = .ok (.iload_n 2, 1) := by decide +kernel
theorem dX12_laysFaces_81 : decode cX12_laysFaces 81 = .ok (.iaload, 1) := by decide +kernel
theorem dX12_laysFaces_82 : decode cX12_laysFaces 82 = .ok (.iconst (-1), 1) := by decide +kernel
theorem dX12_laysFaces_83 : decode cX12_laysFaces 83 = .ok (.if_icmp .ne 35, 3) := by decide +kernel
theorem dX12_laysFaces_86 : decode cX12_laysFaces 86 = .ok (.aload_n 0, 1) := by decide +kernel
theorem dX12_laysFaces_87 : decode cX12_laysFaces 87 = .ok (.getfield 45, 3) := by decide +kernel
theorem dX12_laysFaces_90 : decode cX12_laysFaces 90 = .ok (.iload_n 2, 1) := by decide +kernel
theorem dX12_laysFaces_91 : decode cX12_laysFaces 91 = .ok (.aload_n 0, 1) := by decide +kernel
theorem dX12_laysFaces_92 : decode cX12_laysFaces 92 = .ok (.getfield 281, 3) := by decide +kernel
theorem dX12_laysFaces_95 : decode cX12_laysFaces 95 = .ok (.iastore, 1) := by decide +kernel
theorem dX12_laysFaces_96 : decode cX12_laysFaces 96 = .ok (.aload_n 0, 1) := by decide +kernel
theorem dX12_laysFaces_97 : decode cX12_laysFaces 97 = .ok (.getfield 51, 3) := by decide +kernel
theorem dX12_laysFaces_100 : decode cX12_laysFaces 100 = .ok (.aload_n 0, 1) := by decide +kernel
theorem dX12_laysFaces_101 : decode cX12_laysFaces 101 = .ok (.getfield 281, 3) := by decide +kernel
theorem dX12_laysFaces_104 : decode cX12_laysFaces 104 = .ok (.dup2, 1) := by decide +kernel
theorem dX12_laysFaces_105 : decode cX12_laysFaces 105 = .ok (.iaload, 1) := by decide +kernel
theorem dX12_laysFaces_106 : decode cX12_laysFaces 106 = .ok (.iconst 1, 1) := by decide +kernel
theorem dX12_laysFaces_107 : decode cX12_laysFaces 107 = .ok (.iadd, 1) := by decide +kernel
theorem dX12_laysFaces_108 : decode cX12_laysFaces 108 = .ok (.iastore, 1) := by decide +kernel
theorem dX12_laysFaces_109 : decode cX12_laysFaces 109 = .ok (.aload_n 0, 1) := by decide +kernel
theorem dX12_laysFaces_110 : decode cX12_laysFaces 110 = .ok (.iload_n 2, 1) := by decide +kernel
theorem dX12_laysFaces_111 : decode cX12_laysFaces 111 = .ok (.invokevirtual 284, 3) := by decide +kernel
theorem dX12_laysFaces_114 : decode cX12_laysFaces 114 = .ok (.istore_n 2, 1) := by decide +kernel
theorem dX12_laysFaces_115 : decode cX12_laysFaces 115 = .ok (.goto (-39), 3) := by decide +kernel
theorem dX12_laysFaces_118 : decode cX12_laysFaces 118 = .ok (.aload_n 0, 1) := by decide +kernel
theorem dX12_laysFaces_119 : decode cX12_laysFaces 119 = .ok (.dup, 1) := by decide +kernel
theorem dX12_laysFaces_120 : decode cX12_laysFaces 120 = .ok (.getfield 281, 3) := by decide +kernel
theorem dX12_laysFaces_123 : decode cX12_laysFaces 123 = .ok (.iconst 1, 1) := by decide +kernel
theorem dX12_laysFaces_124 : decode cX12_laysFaces 124 = .ok (.iadd, 1) := by decide +kernel
theorem dX12_laysFaces_125 : decode cX12_laysFaces 125 = .ok (.putfield 281, 3) := by decide +kernel
theorem dX12_laysFaces_128 : decode cX12_laysFaces 128 = .ok (.iinc 1 1, 3) := by decide +kernel
theorem dX12_laysFaces_131 : decode cX12_laysFaces 131 = .ok (.goto (-103), 3) := by decide +kernel
theorem dX12_laysFaces_134 : decode cX12_laysFaces 134 = .ok (.return_, 1) := by decide +kernel
theorem bX12_laysFaces_0 {d : Nat} {P : q_Mem → Prop} {M : q_Mem} (h : (∀ M1 : q_Mem, M1 = q_up M 178 25 0 → q_v mX12_laysFaces d (qPU P) M1 7 [some (qR 178), some (qI 0), none] [])) : q_v mX12_laysFaces d (qPU P) M 0 [some (qR 178), none, none] [] := by
  refine qr_aload_n 0 1 rfl (x := 178) rfl dX12_laysFaces_0 ?_
  refine qr_iconst 1 2 rfl (q_l32 _ rfl) dX12_laysFaces_1 ?_
  refine qp_i 2 5 rfl ck12 25 (kk := 25) (by decide) (by decide +kernel) (by decide) rfl rfl wm_1351 rfl dX12_laysFaces_2 (fun M1 e_M1 => ?_)
  have h := h M1 e_M1
  refine qr_iconst 5 6 rfl (q_l32 _ rfl) dX12_laysFaces_5 ?_
  refine qr_istore_n 6 7 rfl (by decide) rfl rfl dX12_laysFaces_6 ?_
  exact h
theorem bX12_laysFaces_7 {d : Nat} {P : q_Mem → Prop} {M : q_Mem} (x1 : Int) (h : (((32 : Int) ≤ x1) → q_v mX12_laysFaces d (qPU P) M 28 [some (qR 178), some (qI 0), none] []) ∧ ((¬ ((32 : Int) ≤ x1)) → (0 ≤ x1 ∧ x1 < (32 : Int)) ∧ (∀ M2 : q_Mem, M2 = q_up M 188 x1 (-1) → q_v mX12_laysFaces d (qPU P) M2 7 [some (qR 178), some (qI (q_add x1 1)), none] []))) : q_v mX12_laysFaces d (qPU P) M 7 [some (qR 178), some (qI x1), none] [] := by
  refine qr_iload_n 7 8 rfl (x := x1) rfl dX12_laysFaces_7 ?_
  refine qr_bipush 8 10 rfl (q_l32 _ rfl) (by decide) dX12_laysFaces_8 ?_
  refine qr_icmp_ge 10 13 26 rfl (by decide) dX12_laysFaces_10 (fun c10 => ?_) (fun c10 => ?_)
  · have h := h.1 c10
    refine qr_iconst 26 27 rfl (q_l32 _ rfl) dX12_laysFaces_26 ?_
    refine qr_istore_n 27 28 rfl (by decide) rfl rfl dX12_laysFaces_27 ?_
    exact h
  · have h := h.2 c10
    refine qr_aload_n 13 14 rfl (x := 178) rfl dX12_laysFaces_13 ?_
    refine qr_getF 14 17 rfl ck12 20 (by decide) (b := 188) (by decide +kernel) rfl (by decide +kernel) (by decide +kernel) wm_1346 rfl dX12_laysFaces_14 ?_
    refine qr_iload_n 17 18 rfl (x := x1) rfl dX12_laysFaces_17 ?_
    refine qr_iconst 18 19 rfl (q_l32 _ rfl) dX12_laysFaces_18 ?_
    have hb1 := h.1
    have h := h.2
    refine qi_st 19 20 rfl (N := 32) (by decide +kernel) (by decide +kernel) hb1.1 hb1.2 dX12_laysFaces_19 (fun M2 e_M2 => ?_)
    have h := h M2 e_M2
    refine qr_iinc 20 23 rfl (by decide) (x := x1) rfl rfl rfl dX12_laysFaces_20 ?_
    refine qr_goto 23 7 (by decide) dX12_laysFaces_23 ?_
    exact h
theorem bX12_laysFaces_28 {d : Nat} {P : q_Mem → Prop} {M : q_Mem} (x1 : Int) (h : ((((q_mul 2 (M 179 52)) ≤ x1) → P M) ∧ ((¬ ((q_mul 2 (M 179 52)) ≤ x1)) → (0 ≤ x1 ∧ x1 < (32 : Int)) ∧ ((((M 188 x1) = ((-1) : Int)) → (0 ≤ (M 178 25) ∧ (M 178 25) < (16 : Int)) ∧ (∀ M3 : q_Mem, M3 = q_up M 189 (M 178 25) x1 → (0 ≤ (M3 178 25) ∧ (M3 178 25) < (16 : Int)) ∧ (∀ M5 : q_Mem, M5 = q_up M3 190 (M3 178 25) 0 → q_v mX12_laysFaces d (qPU P) M5 76 [some (qR 178), some (qI x1), some (qI x1)] []))) ∧ ((¬ ((M 188 x1) = ((-1) : Int))) → q_v mX12_laysFaces d (qPU P) M 28 [some (qR 178), some (qI (q_add x1 1)), none] []))))) : q_v mX12_laysFaces d (qPU P) M 28 [some (qR 178), some (qI x1), none] [] := by
  refine qr_iload_n 28 29 rfl (x := x1) rfl dX12_laysFaces_28 ?_
  refine qr_iconst 29 30 rfl (q_l32 _ rfl) dX12_laysFaces_29 ?_
  refine qr_aload_n 30 31 rfl (x := 178) rfl dX12_laysFaces_30 ?_
  refine qr_getF 31 34 rfl ck12 1 (by decide) (b := 179) (by decide +kernel) rfl (by decide +kernel) (by decide +kernel) wm_1327 rfl dX12_laysFaces_31 ?_
  refine qr_bipush 34 36 rfl (q_l32 _ rfl) (by decide) dX12_laysFaces_34 ?_
  refine qi_ld 36 37 rfl (N := 4512) (by decide +kernel) (by decide +kernel) (by decide) (by decide) dX12_laysFaces_36 ?_
  refine qr_imul 37 38 rfl dX12_laysFaces_37 ?_
  refine qr_icmp_ge 38 41 134 rfl (by decide) dX12_laysFaces_38 (fun c38 => ?_) (fun c38 => ?_)
  · have h := h.1 c38
    exact qe_u 134 rfl dX12_laysFaces_134 h
  · have h := h.2 c38
    refine qr_aload_n 41 42 rfl (x := 178) rfl dX12_laysFaces_41 ?_
    refine qr_getF 42 45 rfl ck12 20 (by decide) (b := 188) (by decide +kernel) rfl (by decide +kernel) (by decide +kernel) wm_1346 rfl dX12_laysFaces_42 ?_
    refine qr_iload_n 45 46 rfl (x := x1) rfl dX12_laysFaces_45 ?_
    have hb1 := h.1
    have h := h.2
    refine qi_ld 46 47 rfl (N := 32) (by decide +kernel) (by decide +kernel) hb1.1 hb1.2 dX12_laysFaces_46 ?_
    refine qr_iconst 47 48 rfl (q_l32 _ rfl) dX12_laysFaces_47 ?_
    refine qr_icmp_eq 48 51 54 rfl (by decide) dX12_laysFaces_48 (fun c48 => ?_) (fun c48 => ?_)
    · have h := h.1 c48
      refine qr_aload_n 54 55 rfl (x := 178) rfl dX12_laysFaces_54 ?_
      refine qr_getF 55 58 rfl ck12 21 (by decide) (b := 189) (by decide +kernel) rfl (by decide +kernel) (by decide +kernel) wm_1347 rfl dX12_laysFaces_55 ?_
      refine qr_aload_n 58 59 rfl (x := 178) rfl dX12_laysFaces_58 ?_
      refine qg_i 59 62 rfl ck12 25 (kk := 25) (by decide) (by decide +kernel) (by decide +kernel) rfl wm_1351 rfl dX12_laysFaces_59 ?_
      refine qr_iload_n 62 63 rfl (x := x1) rfl dX12_laysFaces_62 ?_
      have hb2 := h.1
      have h := h.2
      refine qi_st 63 64 rfl (N := 16) (by decide +kernel) (by decide +kernel) hb2.1 hb2.2 dX12_laysFaces_63 (fun M3 e_M3 => ?_)
      have h := h M3 e_M3
      refine qr_aload_n 64 65 rfl (x := 178) rfl dX12_laysFaces_64 ?_
      refine qr_getF 65 68 rfl ck12 22 (by decide) (b := 190) (by decide +kernel) rfl (by decide +kernel) (by decide +kernel) wm_1348 rfl dX12_laysFaces_65 ?_
      refine qr_aload_n 68 69 rfl (x := 178) rfl dX12_laysFaces_68 ?_
      refine qg_i 69 72 rfl ck12 25 (kk := 25) (by decide) (by decide +kernel) (by decide +kernel) rfl wm_1351 rfl dX12_laysFaces_69 ?_
      refine qr_iconst 72 73 rfl (q_l32 _ rfl) dX12_laysFaces_72 ?_
      have hb4 := h.1
      have h := h.2
      refine qi_st 73 74 rfl (N := 16) (by decide +kernel) (by decide +kernel) hb4.1 hb4.2 dX12_laysFaces_73 (fun M5 e_M5 => ?_)
      have h := h M5 e_M5
      refine qr_iload_n 74 75 rfl (x := x1) rfl dX12_laysFaces_74 ?_
      refine qr_istore_n 75 76 rfl (by decide) rfl rfl dX12_laysFaces_75 ?_
      exact h
    · have h := h.2 c48
      refine qr_goto 51 128 (by decide) dX12_laysFaces_51 ?_
      refine qr_iinc 128 131 rfl (by decide) (x := x1) rfl rfl rfl dX12_laysFaces_128 ?_
      refine qr_goto 131 28 (by decide) dX12_laysFaces_131 ?_
      exact h
theorem bX12_laysFaces_76 {d : Nat} {P : q_Mem → Prop} {M : q_Mem} (x1 x2 : Int) (h : (0 ≤ x2 ∧ x2 < (32 : Int)) ∧ (((¬ (M 188 x2) = ((-1) : Int)) → (∀ M2 : q_Mem, M2 = q_up M 178 25 (q_add (M 178 25) 1) → q_v mX12_laysFaces d (qPU P) M2 28 [some (qR 178), some (qI (q_add x1 1)), none] [])) ∧ (((M 188 x2) = ((-1) : Int)) → (0 ≤ x2 ∧ x2 < (32 : Int)) ∧ (∀ M4 : q_Mem, M4 = q_up M 188 x2 (M 178 25) → (0 ≤ (M4 178 25) ∧ (M4 178 25) < (16 : Int)) ∧ ((0 ≤ (M4 178 25) ∧ (M4 178 25) < (16 : Int)) ∧ (∀ M7 : q_Mem, M7 = q_up M4 190 (M4 178 25) (q_add (M4 190 (M4 178 25)) 1) → q_kI yX12_nextOf mX12_nextOf d [qR 178, qI x2] M7 (fun v9 M8 => q_v mX12_laysFaces d (qPU P) M8 76 [some (qR 178), some (qI x1), some (qI v9)] []))))))) : q_v mX12_laysFaces d (qPU P) M 76 [some (qR 178), some (qI x1), some (qI x2)] [] := by
  refine qr_aload_n 76 77 rfl (x := 178) rfl dX12_laysFaces_76 ?_
  refine qr_getF 77 80 rfl ck12 20 (by decide) (b := 188) (by decide +kernel) rfl (by decide +kernel) (by decide +kernel) wm_1346 rfl dX12_laysFaces_77 ?_
  refine qr_iload_n 80 81 rfl (x := x2) rfl dX12_laysFaces_80 ?_
  have hb1 := h.1
  have h := h.2
  refine qi_ld 81 82 rfl (N := 32) (by decide +kernel) (by decide +kernel) hb1.1 hb1.2 dX12_laysFaces_81 ?_
  refine qr_iconst 82 83 rfl (q_l32 _ rfl) dX12_laysFaces_82 ?_
  refine qr_icmp_ne 83 86 118 rfl (by decide) dX12_laysFaces_83 (fun c83 => ?_) (fun c83 => ?_)
  · have h := h.1 c83
    refine qr_aload_n 118 119 rfl (x := 178) rfl dX12_laysFaces_118 ?_
    refine qr_dup 119 120 rfl rfl dX12_laysFaces_119 ?_
    refine qg_i 120 123 rfl ck12 25 (kk := 25) (by decide) (by decide +kernel) (by decide +kernel) rfl wm_1351 rfl dX12_laysFaces_120 ?_
    refine qr_iconst 123 124 rfl (q_l32 _ rfl) dX12_laysFaces_123 ?_
    refine qr_iadd 124 125 rfl dX12_laysFaces_124 ?_
    refine qp_i 125 128 rfl ck12 25 (kk := 25) (by decide) (by decide +kernel) (by decide) rfl rfl wm_1351 rfl dX12_laysFaces_125 (fun M2 e_M2 => ?_)
    have h := h M2 e_M2
    refine qr_iinc 128 131 rfl (by decide) (x := x1) rfl rfl rfl dX12_laysFaces_128 ?_
    refine qr_goto 131 28 (by decide) dX12_laysFaces_131 ?_
    exact qr_cut 28 (ls' := [some (qR 178), some (qI (q_add x1 1)), none]) (And.intro rfl (And.intro rfl trivial)) h
  · have h := h.2 c83
    refine qr_aload_n 86 87 rfl (x := 178) rfl dX12_laysFaces_86 ?_
    refine qr_getF 87 90 rfl ck12 20 (by decide) (b := 188) (by decide +kernel) rfl (by decide +kernel) (by decide +kernel) wm_1346 rfl dX12_laysFaces_87 ?_
    refine qr_iload_n 90 91 rfl (x := x2) rfl dX12_laysFaces_90 ?_
    refine qr_aload_n 91 92 rfl (x := 178) rfl dX12_laysFaces_91 ?_
    refine qg_i 92 95 rfl ck12 25 (kk := 25) (by decide) (by decide +kernel) (by decide +kernel) rfl wm_1351 rfl dX12_laysFaces_92 ?_
    have hb3 := h.1
    have h := h.2
    refine qi_st 95 96 rfl (N := 32) (by decide +kernel) (by decide +kernel) hb3.1 hb3.2 dX12_laysFaces_95 (fun M4 e_M4 => ?_)
    have h := h M4 e_M4
    refine qr_aload_n 96 97 rfl (x := 178) rfl dX12_laysFaces_96 ?_
    refine qr_getF 97 100 rfl ck12 22 (by decide) (b := 190) (by decide +kernel) rfl (by decide +kernel) (by decide +kernel) wm_1348 rfl dX12_laysFaces_97 ?_
    refine qr_aload_n 100 101 rfl (x := 178) rfl dX12_laysFaces_100 ?_
    refine qg_i 101 104 rfl ck12 25 (kk := 25) (by decide) (by decide +kernel) (by decide +kernel) rfl wm_1351 rfl dX12_laysFaces_101 ?_
    refine qr_dup2 104 105 rfl rfl rfl dX12_laysFaces_104 ?_
    have hb5 := h.1
    have h := h.2
    refine qi_ld 105 106 rfl (N := 16) (by decide +kernel) (by decide +kernel) hb5.1 hb5.2 dX12_laysFaces_105 ?_
    refine qr_iconst 106 107 rfl (q_l32 _ rfl) dX12_laysFaces_106 ?_
    refine qr_iadd 107 108 rfl dX12_laysFaces_107 ?_
    have hb6 := h.1
    have h := h.2
    refine qi_st 108 109 rfl (N := 16) (by decide +kernel) (by decide +kernel) hb6.1 hb6.2 dX12_laysFaces_108 (fun M7 e_M7 => ?_)
    have h := h M7 e_M7
    refine qr_aload_n 109 110 rfl (x := 178) rfl dX12_laysFaces_109 ?_
    refine qr_iload_n 110 111 rfl (x := x2) rfl dX12_laysFaces_110 ?_
    refine qw_I 111 114 rfl (av := [qI x2]) ca_X12_nextOf wm_1619 wp_103 wm_1617 ck12 (by decide +kernel) rfl rfl (Nat.le_of_ble_eq_true rfl) dX12_laysFaces_111 h (fun v9 M8 h => ?_)
    refine qr_istore_n 114 115 rfl (by decide) rfl rfl dX12_laysFaces_114 ?_
    refine qr_goto 115 76 (by decide) dX12_laysFaces_115 ?_
    exact h
theorem dX12_laysParts_0 : decode cX12_laysParts 0 = .ok (.iconst 0, 1) := by decide +kernel
theorem dX12_laysParts_1 : decode cX12_laysParts 1 = .ok (.istore_n 1, 1) := by decide +kernel
theorem dX12_laysParts_2 : decode cX12_laysParts 2 = .ok (.iload_n 1, 1) := by decide +kernel
theorem dX12_laysParts_3 : decode cX12_laysParts 3 = .ok (.aload_n 0, 1) := by decide +kernel
theorem dX12_laysParts_4 : decode cX12_laysParts 4 = .ok (.getfield 13, 3) := by decide +kernel
theorem dX12_laysParts_7 : decode cX12_laysParts 7 = .ok (.bipush 51, 2) := by decide +kernel
theorem dX12_laysParts_9 : decode cX12_laysParts 9 = .ok (.iaload, 1) := by decide +kernel
theorem dX12_laysParts_10 : decode cX12_laysParts 10 = .ok (.if_icmp .ge 16, 3) := by decide +kernel
theorem dX12_laysParts_13 : decode cX12_laysParts 13 = .ok (.aload_n 0, 1) := by decide +kernel
theorem dX12_laysParts_14 : decode cX12_laysParts 14 = .ok (.getfield 54, 3) := by decide +kernel
theorem dX12_laysParts_17 : decode cX12_laysParts 17 = .ok (.iload_n 1, 1) := by decide +kernel
theorem dX12_laysParts_18 : decode cX12_laysParts 18 = .ok (.iload_n 1, 1) := by decide +kernel
theorem dX12_laysParts_19 : decode cX12_laysParts 19 = .ok (.iastore, 1) := by decide +kernel
theorem dX12_laysParts_20 : decode cX12_laysParts 20 = .ok (.iinc 1 1, 3) := by decide +kernel
theorem dX12_laysParts_23 : decode cX12_laysParts 23 = .ok (.goto (-21), 3) := by decide +kernel
theorem dX12_laysParts_26 : decode cX12_laysParts 26 = .ok (.iconst 0, 1) := by decide +kernel
theorem dX12_laysParts_27 : decode cX12_laysParts 27 = .ok (.istore_n 1, 1) := by decide +kernel
theorem dX12_laysParts_28 : decode cX12_laysParts 28 = .ok (.iload_n 1, 1) := by decide +kernel
theorem dX12_laysParts_29 : decode cX12_laysParts 29 = .ok (.aload_n 0, 1) := by decide +kernel
theorem dX12_laysParts_30 : decode cX12_laysParts 30 = .ok (.getfield 13, 3) := by decide +kernel
theorem dX12_laysParts_33 : decode cX12_laysParts 33 = .ok (.bipush 51, 2) := by decide +kernel
theorem dX12_laysParts_35 : decode cX12_laysParts 35 = .ok (.iaload, 1) := by decide +kernel
theorem dX12_laysParts_36 : decode cX12_laysParts 36 = .ok (.if_icmp .ge 111, 3) := by decide +kernel
theorem dX12_laysParts_39 : decode cX12_laysParts 39 = .ok (.iconst 0, 1) := by decide +kernel
theorem dX12_laysParts_40 : decode cX12_laysParts 40 = .ok (.istore_n 2, 1) := by decide +kernel
theorem dX12_laysParts_41 : decode cX12_laysParts 41 = .ok (.iload_n 2, 1) := by decide +kernel
theorem dX12_laysParts_42 : decode cX12_laysParts 42 = .ok (.aload_n 0, 1) := by decide +kernel
theorem dX12_laysParts_43 : decode cX12_laysParts 43 = .ok (.getfield 13, 3) := by decide +kernel
theorem dX12_laysParts_46 : decode cX12_laysParts 46 = .ok (.bipush 52, 2) := by decide +kernel
theorem dX12_laysParts_48 : decode cX12_laysParts 48 = .ok (.iaload, 1) := by decide +kernel
theorem dX12_laysParts_49 : decode cX12_laysParts 49 = .ok (.if_icmp .ge 92, 3) := by decide +kernel
theorem dX12_laysParts_52 : decode cX12_laysParts 52 = .ok (.aload_n 0, 1) := by decide +kernel
theorem dX12_laysParts_53 : decode cX12_laysParts 53 = .ok (.getfield 54, 3) := by decide +kernel
theorem dX12_laysParts_56 : decode cX12_laysParts 56 = .ok (.aload_n 0, 1) := by decide +kernel
theorem dX12_laysParts_57 : decode cX12_laysParts 57 = .ok (.getfield 13, 3) := by decide +kernel
theorem dX12_laysParts_60 : decode cX12_laysParts 60 = .ok (.bipush 53, 2) := by decide +kernel
theorem dX12_laysParts_62 : decode cX12_laysParts 62 = .ok (.iload_n 2, 1) := by decide +kernel
theorem dX12_laysParts_63 : decode cX12_laysParts 63 = .ok (.iadd, 1) := by decide +kernel
theorem dX12_laysParts_64 : decode cX12_laysParts 64 = .ok (.iaload, 1) := by decide +kernel
theorem dX12_laysParts_65 : decode cX12_laysParts 65 = .ok (.iaload, 1) := by decide +kernel
theorem dX12_laysParts_66 : decode cX12_laysParts 66 = .ok (.istore_n 3, 1) := by decide +kernel
theorem dX12_laysParts_67 : decode cX12_laysParts 67 = .ok (.aload_n 0, 1) := by decide +kernel
theorem dX12_laysParts_68 : decode cX12_laysParts 68 = .ok (.getfield 54, 3) := by decide +kernel
theorem dX12_laysParts_71 : decode cX12_laysParts 71 = .ok (.aload_n 0, 1) := by decide +kernel
theorem dX12_laysParts_72 : decode cX12_laysParts 72 = .ok (.getfield 13, 3) := by decide +kernel
theorem dX12_laysParts_75 : decode cX12_laysParts 75 = .ok (.bipush 69, 2) := by decide +kernel
theorem dX12_laysParts_77 : decode cX12_laysParts 77 = .ok (.iload_n 2, 1) := by decide +kernel
theorem dX12_laysParts_78 : decode cX12_laysParts 78 = .ok (.iadd, 1) := by decide +kernel
theorem dX12_laysParts_79 : decode cX12_laysParts 79 = .ok (.iaload, 1) := by decide +kernel
theorem dX12_laysParts_80 : decode cX12_laysParts 80 = .ok (.iaload, 1) := by decide +kernel
theorem dX12_laysParts_81 : decode cX12_laysParts 81 = .ok (.istore 4, 2) := by decide +kernel
theorem dX12_laysParts_83 : decode cX12_laysParts 83 = .ok (.aload_n 0, 1) := by decide +kernel
theorem dX12_laysParts_84 : decode cX12_laysParts 84 = .ok (.getfield 54, 3) := by decide +kernel
theorem dX12_laysParts_87 : decode cX12_laysParts 87 = .ok (.aload_n 0, 1) := by decide +kernel
theorem dX12_laysParts_88 : decode cX12_laysParts 88 = .ok (.getfield 13, 3) := by decide +kernel
theorem dX12_laysParts_91 : decode cX12_laysParts 91 = .ok (.bipush 53, 2) := by decide +kernel
theorem dX12_laysParts_93 : decode cX12_laysParts 93 = .ok (.iload_n 2, 1) := by decide +kernel
theorem dX12_laysParts_94 : decode cX12_laysParts 94 = .ok (.iadd, 1) := by decide +kernel
theorem dX12_laysParts_95 : decode cX12_laysParts 95 = .ok (.iaload, 1) := by decide +kernel
theorem dX12_laysParts_96 : decode cX12_laysParts 96 = .ok (.iload_n 3, 1) := by decide +kernel
theorem dX12_laysParts_97 : decode cX12_laysParts 97 = .ok (.iload 4, 2) := by decide +kernel
theorem dX12_laysParts_99 : decode cX12_laysParts 99 = .ok (.if_icmp .ge 7, 3) := by decide +kernel
theorem dX12_laysParts_102 : decode cX12_laysParts 102 = .ok (.iload_n 3, 1) := by decide +kernel
theorem dX12_laysParts_103 : decode cX12_laysParts 103 = .ok (.goto 5, 3) := by decide +kernel
theorem dX12_laysParts_106 : decode cX12_laysParts 106 = .ok (.iload 4, 2) := by decide +kernel
theorem dX12_laysParts_108 : decode cX12_laysParts 108 = .ok (.iastore, 1) := by decide +kernel
theorem dX12_laysParts_109 : decode cX12_laysParts 109 = .ok (.aload_n 0, 1) := by decide +kernel
theorem dX12_laysParts_110 : decode cX12_laysParts 110 = .ok (.getfield 54, 3) := by decide +kernel
theorem dX12_laysParts_113 : decode cX12_laysParts 113 = .ok (.aload_n 0, 1) := by decide +kernel
theorem dX12_laysParts_114 : decode cX12_laysParts 114 = .ok (.getfield 13, 3) := by decide +kernel
theorem dX12_laysParts_117 : decode cX12_laysParts 117 = .ok (.bipush 69, 2) := by decide +kernel
theorem dX12_laysParts_119 : decode cX12_laysParts 119 = .ok (.iload_n 2, 1) := by decide +kernel
theorem dX12_laysParts_120 : decode cX12_laysParts 120 = .ok (.iadd, 1) := by decide +kernel
theorem dX12_laysParts_121 : decode cX12_laysParts 121 = .ok (.iaload, 1) := by decide +kernel
theorem dX12_laysParts_122 : decode cX12_laysParts 122 = .ok (.iload_n 3, 1) := by decide +kernel
theorem dX12_laysParts_123 : decode cX12_laysParts 123 = .ok (.iload 4, 2) := by decide +kernel
theorem dX12_laysParts_125 : decode cX12_laysParts 125 = .ok (.if_icmp .ge 7, 3) := by decide +kernel
theorem dX12_laysParts_128 : decode cX12_laysParts 128 = .ok (.iload_n 3, 1) := by decide +kernel
theorem dX12_laysParts_129 : decode cX12_laysParts 129 = .ok (.goto 5, 3) := by decide +kernel
theorem dX12_laysParts_132 : decode cX12_laysParts 132 = .ok (.iload 4, 2) := by decide +kernel
theorem dX12_laysParts_134 : decode cX12_laysParts 134 = .ok (.iastore, 1) := by decide +kernel
theorem dX12_laysParts_135 : decode cX12_laysParts 135 = .ok (.iinc 2 1, 3) := by decide +kernel
theorem dX12_laysParts_138 : decode cX12_laysParts 138 = .ok (.goto (-97), 3) := by decide +kernel
theorem dX12_laysParts_141 : decode cX12_laysParts 141 = .ok (.iinc 1 1, 3) := by decide +kernel
theorem dX12_laysParts_144 : decode cX12_laysParts 144 = .ok (.goto (-116), 3) := by decide +kernel
theorem dX12_laysParts_147 : decode cX12_laysParts 147 = .ok (.aload_n 0, 1) := by decide +kernel
theorem dX12_laysParts_148 : decode cX12_laysParts 148 = .ok (.iconst 0, 1) := by decide +kernel
theorem dX12_laysParts_149 : decode cX12_laysParts 149 = .ok (.putfield 287, 3) := by decide +kernel
theorem dX12_laysParts_152 : decode cX12_laysParts 152 = .ok (.iconst 0, 1) := by decide +kernel
theorem dX12_laysParts_153 : decode cX12_laysParts 153 = .ok (.istore_n 1, 1) := by decide +kernel
theorem dX12_laysParts_154 : decode cX12_laysParts 154 = .ok (.iload_n 1, 1) := by decide +kernel
theorem dX12_laysParts_155 : decode cX12_laysParts 155 = .ok (.aload_n 0, 1) := by decide +kernel
theorem dX12_laysParts_156 : decode cX12_laysParts 156 = .ok (.getfield 13, 3) := by decide +kernel
theorem dX12_laysParts_159 : decode cX12_laysParts 159 = .ok (.bipush 51, 2) := by decide +kernel
theorem dX12_laysParts_161 : decode cX12_laysParts 161 = .ok (.iaload, 1) := by decide +kernel
theorem dX12_laysParts_162 : decode cX12_laysParts 162 = .ok (.if_icmp .ge 33, 3) := by decide +kernel
theorem dX12_laysParts_165 : decode cX12_laysParts 165 = .ok (.aload_n 0, 1) := by decide +kernel
theorem dX12_laysParts_166 : decode cX12_laysParts 166 = .ok (.dup, 1) := by decide +kernel
theorem dX12_laysParts_167 : decode cX12_laysParts 167 = .ok (.getfield 287, 3) := by decide +kernel
theorem dX12_laysParts_170 : decode cX12_laysParts 170 = .ok (.aload_n 0, 1) := by decide +kernel
theorem dX12_laysParts_171 : decode cX12_laysParts 171 = .ok (.getfield 54, 3) := by decide +kernel
theorem dX12_laysParts_174 : decode cX12_laysParts 174 = .ok (.iload_n 1, 1) := by decide +kernel
theorem dX12_laysParts_175 : decode cX12_laysParts 175 = .ok (.iaload, 1) := by decide +kernel
theorem dX12_laysParts_176 : decode cX12_laysParts 176 = .ok (.iload_n 1, 1) := by decide +kernel
theorem dX12_laysParts_177 : decode cX12_laysParts 177 = .ok (.if_icmp .ne 7, 3) := by decide +kernel
theorem dX12_laysParts_180 : decode cX12_laysParts 180 = .ok (.iconst 1, 1) := by decide +kernel
theorem dX12_laysParts_181 : decode cX12_laysParts 181 = .ok (.goto 4, 3) := by decide +kernel
theorem dX12_laysParts_184 : decode cX12_laysParts 184 = .ok (.iconst 0, 1) := by decide +kernel
theorem dX12_laysParts_185 : decode cX12_laysParts 185 = .ok (.iadd, 1) := by decide +kernel
theorem dX12_laysParts_186 : decode cX12_laysParts 186 = .ok (.putfield 287, 3) := by decide +kernel
theorem dX12_laysParts_189 : decode cX12_laysParts 189 = .ok (.iinc 1 1, 3) := by decide +kernel
theorem dX12_laysParts_192 : decode cX12_laysParts 192 = .ok (.goto (-38), 3) := by decide +kernel
theorem dX12_laysParts_195 : decode cX12_laysParts 195 = .ok (.return_, 1) := by decide +kernel
theorem bX12_laysParts_0 {d : Nat} {P : q_Mem → Prop} {M : q_Mem} (h : q_v mX12_laysParts d (qPU P) M 2 [some (qR 178), some (qI 0), none, none, none] []) : q_v mX12_laysParts d (qPU P) M 0 [some (qR 178), none, none, none, none] [] := by
  refine qr_iconst 0 1 rfl (q_l32 _ rfl) dX12_laysParts_0 ?_
  refine qr_istore_n 1 2 rfl (by decide) rfl rfl dX12_laysParts_1 ?_
  exact h
theorem bX12_laysParts_2 {d : Nat} {P : q_Mem → Prop} {M : q_Mem} (x1 : Int) (h : ((((M 179 51) ≤ x1) → q_v mX12_laysParts d (qPU P) M 28 [some (qR 178), some (qI 0), none, none, none] []) ∧ ((¬ ((M 179 51) ≤ x1)) → (0 ≤ x1 ∧ x1 < (10 : Int)) ∧ (∀ M2 : q_Mem, M2 = q_up M 191 x1 x1 → q_v mX12_laysParts d (qPU P) M2 2 [some (qR 178), some (qI (q_add x1 1)), none, none, none] [])))) : q_v mX12_laysParts d (qPU P) M 2 [some (qR 178), some (qI x1), none, none, none] [] := by
  refine qr_iload_n 2 3 rfl (x := x1) rfl dX12_laysParts_2 ?_
  refine qr_aload_n 3 4 rfl (x := 178) rfl dX12_laysParts_3 ?_
  refine qr_getF 4 7 rfl ck12 1 (by decide) (b := 179) (by decide +kernel) rfl (by decide +kernel) (by decide +kernel) wm_1327 rfl dX12_laysParts_4 ?_
  refine qr_bipush 7 9 rfl (q_l32 _ rfl) (by decide) dX12_laysParts_7 ?_
  refine qi_ld 9 10 rfl (N := 4512) (by decide +kernel) (by decide +kernel) (by decide) (by decide) dX12_laysParts_9 ?_
  refine qr_icmp_ge 10 13 26 rfl (by decide) dX12_laysParts_10 (fun c10 => ?_) (fun c10 => ?_)
  · have h := h.1 c10
    refine qr_iconst 26 27 rfl (q_l32 _ rfl) dX12_laysParts_26 ?_
    refine qr_istore_n 27 28 rfl (by decide) rfl rfl dX12_laysParts_27 ?_
    exact h
  · have h := h.2 c10
    refine qr_aload_n 13 14 rfl (x := 178) rfl dX12_laysParts_13 ?_
    refine qr_getF 14 17 rfl ck12 23 (by decide) (b := 191) (by decide +kernel) rfl (by decide +kernel) (by decide +kernel) wm_1349 rfl dX12_laysParts_14 ?_
    refine qr_iload_n 17 18 rfl (x := x1) rfl dX12_laysParts_17 ?_
    refine qr_iload_n 18 19 rfl (x := x1) rfl dX12_laysParts_18 ?_
    have hb1 := h.1
    have h := h.2
    refine qi_st 19 20 rfl (N := 10) (by decide +kernel) (by decide +kernel) hb1.1 hb1.2 dX12_laysParts_19 (fun M2 e_M2 => ?_)
    have h := h M2 e_M2
    refine qr_iinc 20 23 rfl (by decide) (x := x1) rfl rfl rfl dX12_laysParts_20 ?_
    refine qr_goto 23 2 (by decide) dX12_laysParts_23 ?_
    exact h
theorem bX12_laysParts_28 {d : Nat} {P : q_Mem → Prop} {M : q_Mem} (x1 : Int) (h : ((((M 179 51) ≤ x1) → (∀ M1 : q_Mem, M1 = q_up M 178 26 0 → q_v mX12_laysParts d (qPU P) M1 154 [some (qR 178), some (qI 0), none, none, none] [])) ∧ ((¬ ((M 179 51) ≤ x1)) → q_v mX12_laysParts d (qPU P) M 41 [some (qR 178), some (qI x1), some (qI 0), none, none] []))) : q_v mX12_laysParts d (qPU P) M 28 [some (qR 178), some (qI x1), none, none, none] [] := by
  refine qr_iload_n 28 29 rfl (x := x1) rfl dX12_laysParts_28 ?_
  refine qr_aload_n 29 30 rfl (x := 178) rfl dX12_laysParts_29 ?_
  refine qr_getF 30 33 rfl ck12 1 (by decide) (b := 179) (by decide +kernel) rfl (by decide +kernel) (by decide +kernel) wm_1327 rfl dX12_laysParts_30 ?_
  refine qr_bipush 33 35 rfl (q_l32 _ rfl) (by decide) dX12_laysParts_33 ?_
  refine qi_ld 35 36 rfl (N := 4512) (by decide +kernel) (by decide +kernel) (by decide) (by decide) dX12_laysParts_35 ?_
  refine qr_icmp_ge 36 39 147 rfl (by decide) dX12_laysParts_36 (fun c36 => ?_) (fun c36 => ?_)
  · have h := h.1 c36
    refine qr_aload_n 147 148 rfl (x := 178) rfl dX12_laysParts_147 ?_
    refine qr_iconst 148 149 rfl (q_l32 _ rfl) dX12_laysParts_148 ?_
    refine qp_i 149 152 rfl ck12 26 (kk := 26) (by decide) (by decide +kernel) (by decide) rfl rfl wm_1352 rfl dX12_laysParts_149 (fun M1 e_M1 => ?_)
    have h := h M1 e_M1
    refine qr_iconst 152 153 rfl (q_l32 _ rfl) dX12_laysParts_152 ?_
    refine qr_istore_n 153 154 rfl (by decide) rfl rfl dX12_laysParts_153 ?_
    exact h
  · have h := h.2 c36
    refine qr_iconst 39 40 rfl (q_l32 _ rfl) dX12_laysParts_39 ?_
    refine qr_istore_n 40 41 rfl (by decide) rfl rfl dX12_laysParts_40 ?_
    exact h
theorem bX12_laysParts_41 {d : Nat} {P : q_Mem → Prop} {M : q_Mem} (x1 x2 : Int) (h : ((((M 179 52) ≤ x2) → q_v mX12_laysParts d (qPU P) M 28 [some (qR 178), some (qI (q_add x1 1)), none, none, none] []) ∧ ((¬ ((M 179 52) ≤ x2)) → (0 ≤ (q_add 53 x2) ∧ (q_add 53 x2) < (4512 : Int)) ∧ ((0 ≤ (M 179 (q_add 53 x2)) ∧ (M 179 (q_add 53 x2)) < (10 : Int)) ∧ (∀ x3_3 : Int, x3_3 = (M 191 (M 179 (q_add 53 x2))) → (0 ≤ (q_add 69 x2) ∧ (q_add 69 x2) < (4512 : Int)) ∧ ((0 ≤ (M 179 (q_add 69 x2)) ∧ (M 179 (q_add 69 x2)) < (10 : Int)) ∧ (∀ x4_6 : Int, x4_6 = (M 191 (M 179 (q_add 69 x2))) → (0 ≤ (q_add 53 x2) ∧ (q_add 53 x2) < (4512 : Int)) ∧ (((x4_6 ≤ x3_3) → q_v mX12_laysParts d (qPU P) M 108 [some (qR 178), some (qI x1), some (qI x2), some (qI x3_3), some (qI x4_6)] [qI x4_6, qI (M 179 (q_add 53 x2)), qR 191]) ∧ ((¬ (x4_6 ≤ x3_3)) → q_v mX12_laysParts d (qPU P) M 108 [some (qR 178), some (qI x1), some (qI x2), some (qI x3_3), some (qI x4_6)] [qI x3_3, qI (M 179 (q_add 53 x2)), qR 191]))))))))) : q_v mX12_laysParts d (qPU P) M 41 [some (qR 178), some (qI x1), some (qI x2), none, none] [] := by
  refine qr_iload_n 41 42 rfl (x := x2) rfl dX12_laysParts_41 ?_
  refine qr_aload_n 42 43 rfl (x := 178) rfl dX12_laysParts_42 ?_
  refine qr_getF 43 46 rfl ck12 1 (by decide) (b := 179) (by decide +kernel) rfl (by decide +kernel) (by decide +kernel) wm_1327 rfl dX12_laysParts_43 ?_
  refine qr_bipush 46 48 rfl (q_l32 _ rfl) (by decide) dX12_laysParts_46 ?_
  refine qi_ld 48 49 rfl (N := 4512) (by decide +kernel) (by decide +kernel) (by decide) (by decide) dX12_laysParts_48 ?_
  refine qr_icmp_ge 49 52 141 rfl (by decide) dX12_laysParts_49 (fun c49 => ?_) (fun c49 => ?_)
  · have h := h.1 c49
    refine qr_iinc 141 144 rfl (by decide) (x := x1) rfl rfl rfl dX12_laysParts_141 ?_
    refine qr_goto 144 28 (by decide) dX12_laysParts_144 ?_
    exact qr_cut 28 (ls' := [some (qR 178), some (qI (q_add x1 1)), none, none, none]) (And.intro rfl (And.intro rfl trivial)) h
  · have h := h.2 c49
    refine qr_aload_n 52 53 rfl (x := 178) rfl dX12_laysParts_52 ?_
    refine qr_getF 53 56 rfl ck12 23 (by decide) (b := 191) (by decide +kernel) rfl (by decide +kernel) (by decide +kernel) wm_1349 rfl dX12_laysParts_53 ?_
    refine qr_aload_n 56 57 rfl (x := 178) rfl dX12_laysParts_56 ?_
    refine qr_getF 57 60 rfl ck12 1 (by decide) (b := 179) (by decide +kernel) rfl (by decide +kernel) (by decide +kernel) wm_1327 rfl dX12_laysParts_57 ?_
    refine qr_bipush 60 62 rfl (q_l32 _ rfl) (by decide) dX12_laysParts_60 ?_
    refine qr_iload_n 62 63 rfl (x := x2) rfl dX12_laysParts_62 ?_
    refine qr_iadd 63 64 rfl dX12_laysParts_63 ?_
    have hb1 := h.1
    have h := h.2
    refine qi_ld 64 65 rfl (N := 4512) (by decide +kernel) (by decide +kernel) hb1.1 hb1.2 dX12_laysParts_64 ?_
    have hb2 := h.1
    have h := h.2
    refine qi_ld 65 66 rfl (N := 10) (by decide +kernel) (by decide +kernel) hb2.1 hb2.2 dX12_laysParts_65 ?_
    refine qn_i 66 (fun x3_3 e_x3_3 => ?_)
    have h := h x3_3 e_x3_3
    refine qr_istore_n 66 67 rfl (by decide) rfl rfl dX12_laysParts_66 ?_
    refine qr_aload_n 67 68 rfl (x := 178) rfl dX12_laysParts_67 ?_
    refine qr_getF 68 71 rfl ck12 23 (by decide) (b := 191) (by decide +kernel) rfl (by decide +kernel) (by decide +kernel) wm_1349 rfl dX12_laysParts_68 ?_
    refine qr_aload_n 71 72 rfl (x := 178) rfl dX12_laysParts_71 ?_
    refine qr_getF 72 75 rfl ck12 1 (by decide) (b := 179) (by decide +kernel) rfl (by decide +kernel) (by decide +kernel) wm_1327 rfl dX12_laysParts_72 ?_
    refine qr_bipush 75 77 rfl (q_l32 _ rfl) (by decide) dX12_laysParts_75 ?_
    refine qr_iload_n 77 78 rfl (x := x2) rfl dX12_laysParts_77 ?_
    refine qr_iadd 78 79 rfl dX12_laysParts_78 ?_
    have hb4 := h.1
    have h := h.2
    refine qi_ld 79 80 rfl (N := 4512) (by decide +kernel) (by decide +kernel) hb4.1 hb4.2 dX12_laysParts_79 ?_
    have hb5 := h.1
    have h := h.2
    refine qi_ld 80 81 rfl (N := 10) (by decide +kernel) (by decide +kernel) hb5.1 hb5.2 dX12_laysParts_80 ?_
    refine qn_i 81 (fun x4_6 e_x4_6 => ?_)
    have h := h x4_6 e_x4_6
    refine qr_istore 81 83 rfl (by decide) rfl rfl dX12_laysParts_81 ?_
    refine qr_aload_n 83 84 rfl (x := 178) rfl dX12_laysParts_83 ?_
    refine qr_getF 84 87 rfl ck12 23 (by decide) (b := 191) (by decide +kernel) rfl (by decide +kernel) (by decide +kernel) wm_1349 rfl dX12_laysParts_84 ?_
    refine qr_aload_n 87 88 rfl (x := 178) rfl dX12_laysParts_87 ?_
    refine qr_getF 88 91 rfl ck12 1 (by decide) (b := 179) (by decide +kernel) rfl (by decide +kernel) (by decide +kernel) wm_1327 rfl dX12_laysParts_88 ?_
    refine qr_bipush 91 93 rfl (q_l32 _ rfl) (by decide) dX12_laysParts_91 ?_
    refine qr_iload_n 93 94 rfl (x := x2) rfl dX12_laysParts_93 ?_
    refine qr_iadd 94 95 rfl dX12_laysParts_94 ?_
    have hb7 := h.1
    have h := h.2
    refine qi_ld 95 96 rfl (N := 4512) (by decide +kernel) (by decide +kernel) hb7.1 hb7.2 dX12_laysParts_95 ?_
    refine qr_iload_n 96 97 rfl (x := x3_3) rfl dX12_laysParts_96 ?_
    refine qr_iload 97 99 rfl (x := x4_6) rfl dX12_laysParts_97 ?_
    refine qr_icmp_ge 99 102 106 rfl (by decide) dX12_laysParts_99 (fun c99 => ?_) (fun c99 => ?_)
    · have h := h.1 c99
      refine qr_iload 106 108 rfl (x := x4_6) rfl dX12_laysParts_106 ?_
      exact h
    · have h := h.2 c99
      refine qr_iload_n 102 103 rfl (x := x3_3) rfl dX12_laysParts_102 ?_
      refine qr_goto 103 108 (by decide) dX12_laysParts_103 ?_
      exact h
theorem bX12_laysParts_108 {d : Nat} {P : q_Mem → Prop} {M : q_Mem} (x1 x2 x3 x4 y0 y1 y2 : Int) (l0 : q_kd y0 = 14) (h : (0 ≤ y1 ∧ y1 < (q_ln y0 : Int)) ∧ (∀ M2 : q_Mem, M2 = q_up M y0 y1 y2 → (0 ≤ (q_add 69 x2) ∧ (q_add 69 x2) < (4512 : Int)) ∧ (((x4 ≤ x3) → (0 ≤ (M2 179 (q_add 69 x2)) ∧ (M2 179 (q_add 69 x2)) < (10 : Int)) ∧ (∀ M5 : q_Mem, M5 = q_up M2 191 (M2 179 (q_add 69 x2)) x4 → q_v mX12_laysParts d (qPU P) M5 41 [some (qR 178), some (qI x1), some (qI (q_add x2 1)), none, none] [])) ∧ ((¬ (x4 ≤ x3)) → (0 ≤ (M2 179 (q_add 69 x2)) ∧ (M2 179 (q_add 69 x2)) < (10 : Int)) ∧ (∀ M7 : q_Mem, M7 = q_up M2 191 (M2 179 (q_add 69 x2)) x3 → q_v mX12_laysParts d (qPU P) M7 41 [some (qR 178), some (qI x1), some (qI (q_add x2 1)), none, none] []))))) : q_v mX12_laysParts d (qPU P) M 108 [some (qR 178), some (qI x1), some (qI x2), some (qI x3), some (qI x4)] [qI y2, qI y1, qR y0] := by
  have hb1 := h.1
  have h := h.2
  refine qi_st 108 109 rfl l0 rfl hb1.1 hb1.2 dX12_laysParts_108 (fun M2 e_M2 => ?_)
  have h := h M2 e_M2
  refine qr_aload_n 109 110 rfl (x := 178) rfl dX12_laysParts_109 ?_
  refine qr_getF 110 113 rfl ck12 23 (by decide) (b := 191) (by decide +kernel) rfl (by decide +kernel) (by decide +kernel) wm_1349 rfl dX12_laysParts_110 ?_
  refine qr_aload_n 113 114 rfl (x := 178) rfl dX12_laysParts_113 ?_
  refine qr_getF 114 117 rfl ck12 1 (by decide) (b := 179) (by decide +kernel) rfl (by decide +kernel) (by decide +kernel) wm_1327 rfl dX12_laysParts_114 ?_
  refine qr_bipush 117 119 rfl (q_l32 _ rfl) (by decide) dX12_laysParts_117 ?_
  refine qr_iload_n 119 120 rfl (x := x2) rfl dX12_laysParts_119 ?_
  refine qr_iadd 120 121 rfl dX12_laysParts_120 ?_
  have hb3 := h.1
  have h := h.2
  refine qi_ld 121 122 rfl (N := 4512) (by decide +kernel) (by decide +kernel) hb3.1 hb3.2 dX12_laysParts_121 ?_
  refine qr_iload_n 122 123 rfl (x := x3) rfl dX12_laysParts_122 ?_
  refine qr_iload 123 125 rfl (x := x4) rfl dX12_laysParts_123 ?_
  refine qr_icmp_ge 125 128 132 rfl (by decide) dX12_laysParts_125 (fun c125 => ?_) (fun c125 => ?_)
  · have h := h.1 c125
    refine qr_iload 132 134 rfl (x := x4) rfl dX12_laysParts_132 ?_
    have hb4 := h.1
    have h := h.2
    refine qi_st 134 135 rfl (N := 10) (by decide +kernel) (by decide +kernel) hb4.1 hb4.2 dX12_laysParts_134 (fun M5 e_M5 => ?_)
    have h := h M5 e_M5
    refine qr_iinc 135 138 rfl (by decide) (x := x2) rfl rfl rfl dX12_laysParts_135 ?_
    refine qr_goto 138 41 (by decide) dX12_laysParts_138 ?_
    exact qr_cut 41 (ls' := [some (qR 178), some (qI x1), some (qI (q_add x2 1)), none, none]) (And.intro rfl (And.intro rfl (And.intro rfl trivial))) h
  · have h := h.2 c125
    refine qr_iload_n 128 129 rfl (x := x3) rfl dX12_laysParts_128 ?_
    refine qr_goto 129 134 (by decide) dX12_laysParts_129 ?_
    have hb6 := h.1
    have h := h.2
    refine qi_st 134 135 rfl (N := 10) (by decide +kernel) (by decide +kernel) hb6.1 hb6.2 dX12_laysParts_134 (fun M7 e_M7 => ?_)
    have h := h M7 e_M7
    refine qr_iinc 135 138 rfl (by decide) (x := x2) rfl rfl rfl dX12_laysParts_135 ?_
    refine qr_goto 138 41 (by decide) dX12_laysParts_138 ?_
    exact qr_cut 41 (ls' := [some (qR 178), some (qI x1), some (qI (q_add x2 1)), none, none]) (And.intro rfl (And.intro rfl (And.intro rfl trivial))) h
theorem bX12_laysParts_154 {d : Nat} {P : q_Mem → Prop} {M : q_Mem} (x1 : Int) (h : ((((M 179 51) ≤ x1) → P M) ∧ ((¬ ((M 179 51) ≤ x1)) → (0 ≤ x1 ∧ x1 < (10 : Int)) ∧ (((¬ (M 191 x1) = x1) → (∀ M2 : q_Mem, M2 = q_up M 178 26 (q_add (M 178 26) 0) → q_v mX12_laysParts d (qPU P) M2 154 [some (qR 178), some (qI (q_add x1 1)), none, none, none] [])) ∧ (((M 191 x1) = x1) → (∀ M3 : q_Mem, M3 = q_up M 178 26 (q_add (M 178 26) 1) → q_v mX12_laysParts d (qPU P) M3 154 [some (qR 178), some (qI (q_add x1 1)), none, none, none] [])))))) : q_v mX12_laysParts d (qPU P) M 154 [some (qR 178), some (qI x1), none, none, none] [] := by
  refine qr_iload_n 154 155 rfl (x := x1) rfl dX12_laysParts_154 ?_
  refine qr_aload_n 155 156 rfl (x := 178) rfl dX12_laysParts_155 ?_
  refine qr_getF 156 159 rfl ck12 1 (by decide) (b := 179) (by decide +kernel) rfl (by decide +kernel) (by decide +kernel) wm_1327 rfl dX12_laysParts_156 ?_
  refine qr_bipush 159 161 rfl (q_l32 _ rfl) (by decide) dX12_laysParts_159 ?_
  refine qi_ld 161 162 rfl (N := 4512) (by decide +kernel) (by decide +kernel) (by decide) (by decide) dX12_laysParts_161 ?_
  refine qr_icmp_ge 162 165 195 rfl (by decide) dX12_laysParts_162 (fun c162 => ?_) (fun c162 => ?_)
  · have h := h.1 c162
    exact qe_u 195 rfl dX12_laysParts_195 h
  · have h := h.2 c162
    refine qr_aload_n 165 166 rfl (x := 178) rfl dX12_laysParts_165 ?_
    refine qr_dup 166 167 rfl rfl dX12_laysParts_166 ?_
    refine qg_i 167 170 rfl ck12 26 (kk := 26) (by decide) (by decide +kernel) (by decide +kernel) rfl wm_1352 rfl dX12_laysParts_167 ?_
    refine qr_aload_n 170 171 rfl (x := 178) rfl dX12_laysParts_170 ?_
    refine qr_getF 171 174 rfl ck12 23 (by decide) (b := 191) (by decide +kernel) rfl (by decide +kernel) (by decide +kernel) wm_1349 rfl dX12_laysParts_171 ?_
    refine qr_iload_n 174 175 rfl (x := x1) rfl dX12_laysParts_174 ?_
    have hb1 := h.1
    have h := h.2
    refine qi_ld 175 176 rfl (N := 10) (by decide +kernel) (by decide +kernel) hb1.1 hb1.2 dX12_laysParts_175 ?_
    refine qr_iload_n 176 177 rfl (x := x1) rfl dX12_laysParts_176 ?_
    refine qr_icmp_ne 177 180 184 rfl (by decide) dX12_laysParts_177 (fun c177 => ?_) (fun c177 => ?_)
    · have h := h.1 c177
      refine qr_iconst 184 185 rfl (q_l32 _ rfl) dX12_laysParts_184 ?_
      refine qr_iadd 185 186 rfl dX12_laysParts_185 ?_
      refine qp_i 186 189 rfl ck12 26 (kk := 26) (by decide) (by decide +kernel) (by decide) rfl rfl wm_1352 rfl dX12_laysParts_186 (fun M2 e_M2 => ?_)
      have h := h M2 e_M2
      refine qr_iinc 189 192 rfl (by decide) (x := x1) rfl rfl rfl dX12_laysParts_189 ?_
      refine qr_goto 192 154 (by decide) dX12_laysParts_192 ?_
      exact h
    · have h := h.2 c177
      refine qr_iconst 180 181 rfl (q_l32 _ rfl) dX12_laysParts_180 ?_
      refine qr_goto 181 185 (by decide) dX12_laysParts_181 ?_
      refine qr_iadd 185 186 rfl dX12_laysParts_185 ?_
      refine qp_i 186 189 rfl ck12 26 (kk := 26) (by decide) (by decide +kernel) (by decide) rfl rfl wm_1352 rfl dX12_laysParts_186 (fun M3 e_M3 => ?_)
      have h := h M3 e_M3
      refine qr_iinc 189 192 rfl (by decide) (x := x1) rfl rfl rfl dX12_laysParts_189 ?_
      refine qr_goto 192 154 (by decide) dX12_laysParts_192 ?_
      exact h
theorem dX12_twistsNow_0 : decode cX12_twistsNow 0 = .ok (.aload_n 0, 1) := by decide +kernel
theorem dX12_twistsNow_1 : decode cX12_twistsNow 1 = .ok (.invokevirtual 290, 3) := by decide +kernel
theorem dX12_twistsNow_4 : decode cX12_twistsNow 4 = .ok (.aload_n 0, 1) := by decide +kernel
theorem dX12_twistsNow_5 : decode cX12_twistsNow 5 = .ok (.invokevirtual 293, 3) := by decide +kernel
theorem dX12_twistsNow_8 : decode cX12_twistsNow 8 = .ok (.iconst 0, 1) := by decide +kernel
theorem dX12_twistsNow_9 : decode cX12_twistsNow 9 = .ok (.istore_n 1, 1) := by decide +kernel
theorem dX12_twistsNow_10 : decode cX12_twistsNow 10 = .ok (.iconst 0, 1) := by decide +kernel
theorem dX12_twistsNow_11 : decode cX12_twistsNow 11 = .ok (.istore_n 2, 1) := by decide +kernel
theorem dX12_twistsNow_12 : decode cX12_twistsNow 12 = .ok (.iload_n 2, 1) := by decide +kernel
theorem dX12_twistsNow_13 : decode cX12_twistsNow 13 = .ok (.aload_n 0, 1) := by decide +kernel
theorem dX12_twistsNow_14 : decode cX12_twistsNow 14 = .ok (.getfield 13, 3) := by decide +kernel
theorem dX12_twistsNow_17 : decode cX12_twistsNow 17 = .ok (.bipush 51, 2) := by decide +kernel
theorem dX12_twistsNow_19 : decode cX12_twistsNow 19 = .ok (.iaload, 1) := by decide +kernel
theorem dX12_twistsNow_20 : decode cX12_twistsNow 20 = .ok (.if_icmp .ge 25, 3) := by decide +kernel
theorem dX12_twistsNow_23 : decode cX12_twistsNow 23 = .ok (.iload_n 1, 1) := by decide +kernel
theorem dX12_twistsNow_24 : decode cX12_twistsNow 24 = .ok (.aload_n 0, 1) := by decide +kernel
theorem dX12_twistsNow_25 : decode cX12_twistsNow 25 = .ok (.iload_n 2, 1) := by decide +kernel
theorem dX12_twistsNow_26 : decode cX12_twistsNow 26 = .ok (.invokevirtual 278, 3) := by decide +kernel
theorem dX12_twistsNow_29 : decode cX12_twistsNow 29 = .ok (.ifCond .ne 7, 3) := by decide +kernel
theorem dX12_twistsNow_32 : decode cX12_twistsNow 32 = .ok (.iconst 1, 1) := by decide +kernel
theorem dX12_twistsNow_33 : decode cX12_twistsNow 33 = .ok (.goto 4, 3) := by decide +kernel
theorem dX12_twistsNow_36 : decode cX12_twistsNow 36 = .ok (.iconst 0, 1) := by decide +kernel
theorem dX12_twistsNow_37 : decode cX12_twistsNow 37 = .ok (.iadd, 1) := by decide +kernel
theorem dX12_twistsNow_38 : decode cX12_twistsNow 38 = .ok (.istore_n 1, 1) := by decide +kernel
theorem dX12_twistsNow_39 : decode cX12_twistsNow 39 = .ok (.iinc 2 1, 3) := by decide +kernel
theorem dX12_twistsNow_42 : decode cX12_twistsNow 42 = .ok (.goto (-30), 3) := by decide +kernel
theorem dX12_twistsNow_45 : decode cX12_twistsNow 45 = .ok (.iconst 2, 1) := by decide +kernel
theorem dX12_twistsNow_46 : decode cX12_twistsNow 46 = .ok (.aload_n 0, 1) := by decide +kernel
theorem dX12_twistsNow_47 : decode cX12_twistsNow 47 = .ok (.getfield 287, 3) := by decide +kernel
theorem dX12_twistsNow_50 : decode cX12_twistsNow 50 = .ok (.imul, 1) := by decide +kernel
theorem dX12_twistsNow_51 : decode cX12_twistsNow 51 = .ok (.aload_n 0, 1) := by decide +kernel
theorem dX12_twistsNow_52 : decode cX12_twistsNow 52 = .ok (.getfield 13, 3) := by decide +kernel
theorem dX12_twistsNow_55 : decode cX12_twistsNow 55 = .ok (.bipush 51, 2) := by decide +kernel
theorem dX12_twistsNow_57 : decode cX12_twistsNow 57 = .ok (.iaload, 1) := by decide +kernel
theorem dX12_twistsNow_58 : decode cX12_twistsNow 58 = .ok (.isub, 1) := by decide +kernel
theorem dX12_twistsNow_59 : decode cX12_twistsNow 59 = .ok (.aload_n 0, 1) := by decide +kernel
theorem dX12_twistsNow_60 : decode cX12_twistsNow 60 = .ok (.getfield 13, 3) := by decide +kernel
theorem dX12_twistsNow_63 : decode cX12_twistsNow 63 = .ok (.bipush 52, 2) := by decide +kernel
theorem dX12_twistsNow_65 : decode cX12_twistsNow 65 = .ok (.iaload, 1) := by decide +kernel
theorem dX12_twistsNow_66 : decode cX12_twistsNow 66 = .ok (.iadd, 1) := by decide +kernel
theorem dX12_twistsNow_67 : decode cX12_twistsNow 67 = .ok (.aload_n 0, 1) := by decide +kernel
theorem dX12_twistsNow_68 : decode cX12_twistsNow 68 = .ok (.getfield 281, 3) := by decide +kernel
theorem dX12_twistsNow_71 : decode cX12_twistsNow 71 = .ok (.isub, 1) := by decide +kernel
theorem dX12_twistsNow_72 : decode cX12_twistsNow 72 = .ok (.iload_n 1, 1) := by decide +kernel
theorem dX12_twistsNow_73 : decode cX12_twistsNow 73 = .ok (.isub, 1) := by decide +kernel
theorem dX12_twistsNow_74 : decode cX12_twistsNow 74 = .ok (.iconst 2, 1) := by decide +kernel
theorem dX12_twistsNow_75 : decode cX12_twistsNow 75 = .ok (.idiv, 1) := by decide +kernel
theorem dX12_twistsNow_76 : decode cX12_twistsNow 76 = .ok (.ireturn, 1) := by decide +kernel
theorem bX12_twistsNow_0 {d : Nat} {P : Int → q_Mem → Prop} {M : q_Mem} (h : q_kU yX12_laysFaces mX12_laysFaces d [qR 178] M (fun M1 => q_kU yX12_laysParts mX12_laysParts d [qR 178] M1 (fun M2 => q_v mX12_twistsNow d (qPI P) M2 12 [some (qR 178), some (qI 0), some (qI 0)] []))) : q_v mX12_twistsNow d (qPI P) M 0 [some (qR 178), none, none] [] := by
  refine qr_aload_n 0 1 rfl (x := 178) rfl dX12_twistsNow_0 ?_
  refine qw_U 1 4 rfl (av := []) ca_X12_laysFaces wm_1615 wp_102 wm_1613 ck12 (by decide +kernel) rfl rfl (Nat.le_of_ble_eq_true rfl) dX12_twistsNow_1 h (fun M1 h => ?_)
  refine qr_aload_n 4 5 rfl (x := 178) rfl dX12_twistsNow_4 ?_
  refine qw_U 5 8 rfl (av := []) ca_X12_laysParts wm_1714 wp_117 wm_1712 ck12 (by decide +kernel) rfl rfl (Nat.le_of_ble_eq_true rfl) dX12_twistsNow_5 h (fun M2 h => ?_)
  refine qr_iconst 8 9 rfl (q_l32 _ rfl) dX12_twistsNow_8 ?_
  refine qr_istore_n 9 10 rfl (by decide) rfl rfl dX12_twistsNow_9 ?_
  refine qr_iconst 10 11 rfl (q_l32 _ rfl) dX12_twistsNow_10 ?_
  refine qr_istore_n 11 12 rfl (by decide) rfl rfl dX12_twistsNow_11 ?_
  exact h
theorem bX12_twistsNow_12 {d : Nat} {P : Int → q_Mem → Prop} {M : q_Mem} (x1 x2 : Int) (h : ((((M 179 51) ≤ x2) → ((P (q_div (q_sub (q_sub (q_add (q_sub (q_mul 2 (M 178 26)) (M 179 51)) (M 179 52)) (M 178 25)) x1) 2) M))) ∧ ((¬ ((M 179 51) ≤ x2)) → q_kI yX12_degreeOf mX12_degreeOf d [qR 178, qI x2] M (fun v2 M1 => ((¬ v2 = 0) → ∀ x1_3 : Int, x1_3 = (q_add x1 0) → q_v mX12_twistsNow d (qPI P) M1 12 [some (qR 178), some (qI x1_3), some (qI (q_add x2 1))] []) ∧ ((v2 = 0) → ∀ x1_4 : Int, x1_4 = (q_add x1 1) → q_v mX12_twistsNow d (qPI P) M1 12 [some (qR 178), some (qI x1_4), some (qI (q_add x2 1))] []))))) : q_v mX12_twistsNow d (qPI P) M 12 [some (qR 178), some (qI x1), some (qI x2)] [] := by
  refine qr_iload_n 12 13 rfl (x := x2) rfl dX12_twistsNow_12 ?_
  refine qr_aload_n 13 14 rfl (x := 178) rfl dX12_twistsNow_13 ?_
  refine qr_getF 14 17 rfl ck12 1 (by decide) (b := 179) (by decide +kernel) rfl (by decide +kernel) (by decide +kernel) wm_1327 rfl dX12_twistsNow_14 ?_
  refine qr_bipush 17 19 rfl (q_l32 _ rfl) (by decide) dX12_twistsNow_17 ?_
  refine qi_ld 19 20 rfl (N := 4512) (by decide +kernel) (by decide +kernel) (by decide) (by decide) dX12_twistsNow_19 ?_
  refine qr_icmp_ge 20 23 45 rfl (by decide) dX12_twistsNow_20 (fun c20 => ?_) (fun c20 => ?_)
  · have h := h.1 c20
    refine qr_iconst 45 46 rfl (q_l32 _ rfl) dX12_twistsNow_45 ?_
    refine qr_aload_n 46 47 rfl (x := 178) rfl dX12_twistsNow_46 ?_
    refine qg_i 47 50 rfl ck12 26 (kk := 26) (by decide) (by decide +kernel) (by decide +kernel) rfl wm_1352 rfl dX12_twistsNow_47 ?_
    refine qr_imul 50 51 rfl dX12_twistsNow_50 ?_
    refine qr_aload_n 51 52 rfl (x := 178) rfl dX12_twistsNow_51 ?_
    refine qr_getF 52 55 rfl ck12 1 (by decide) (b := 179) (by decide +kernel) rfl (by decide +kernel) (by decide +kernel) wm_1327 rfl dX12_twistsNow_52 ?_
    refine qr_bipush 55 57 rfl (q_l32 _ rfl) (by decide) dX12_twistsNow_55 ?_
    refine qi_ld 57 58 rfl (N := 4512) (by decide +kernel) (by decide +kernel) (by decide) (by decide) dX12_twistsNow_57 ?_
    refine qr_isub 58 59 rfl dX12_twistsNow_58 ?_
    refine qr_aload_n 59 60 rfl (x := 178) rfl dX12_twistsNow_59 ?_
    refine qr_getF 60 63 rfl ck12 1 (by decide) (b := 179) (by decide +kernel) rfl (by decide +kernel) (by decide +kernel) wm_1327 rfl dX12_twistsNow_60 ?_
    refine qr_bipush 63 65 rfl (q_l32 _ rfl) (by decide) dX12_twistsNow_63 ?_
    refine qi_ld 65 66 rfl (N := 4512) (by decide +kernel) (by decide +kernel) (by decide) (by decide) dX12_twistsNow_65 ?_
    refine qr_iadd 66 67 rfl dX12_twistsNow_66 ?_
    refine qr_aload_n 67 68 rfl (x := 178) rfl dX12_twistsNow_67 ?_
    refine qg_i 68 71 rfl ck12 25 (kk := 25) (by decide) (by decide +kernel) (by decide +kernel) rfl wm_1351 rfl dX12_twistsNow_68 ?_
    refine qr_isub 71 72 rfl dX12_twistsNow_71 ?_
    refine qr_iload_n 72 73 rfl (x := x1) rfl dX12_twistsNow_72 ?_
    refine qr_isub 73 74 rfl dX12_twistsNow_73 ?_
    refine qr_iconst 74 75 rfl (q_l32 _ rfl) dX12_twistsNow_74 ?_
    refine qr_idiv 75 76 rfl (by decide) dX12_twistsNow_75 ?_
    exact qe_i 76 rfl dX12_twistsNow_76 h
  · have h := h.2 c20
    refine qr_iload_n 23 24 rfl (x := x1) rfl dX12_twistsNow_23 ?_
    refine qr_aload_n 24 25 rfl (x := 178) rfl dX12_twistsNow_24 ?_
    refine qr_iload_n 25 26 rfl (x := x2) rfl dX12_twistsNow_25 ?_
    refine qw_I 26 29 rfl (av := [qI x2]) ca_X12_degreeOf wm_1630 wp_105 wm_1628 ck12 (by decide +kernel) rfl rfl (Nat.le_of_ble_eq_true rfl) dX12_twistsNow_26 h (fun v2 M1 h => ?_)
    refine qr_if_ne 29 32 36 rfl (by decide) dX12_twistsNow_29 (fun c29 => ?_) (fun c29 => ?_)
    · have h := h.1 c29
      refine qr_iconst 36 37 rfl (q_l32 _ rfl) dX12_twistsNow_36 ?_
      refine qr_iadd 37 38 rfl dX12_twistsNow_37 ?_
      refine qn_i 38 (fun x1_3 e_x1_3 => ?_)
      have h := h x1_3 e_x1_3
      refine qr_istore_n 38 39 rfl (by decide) rfl rfl dX12_twistsNow_38 ?_
      refine qr_iinc 39 42 rfl (by decide) (x := x2) rfl rfl rfl dX12_twistsNow_39 ?_
      refine qr_goto 42 12 (by decide) dX12_twistsNow_42 ?_
      exact h
    · have h := h.2 c29
      refine qr_iconst 32 33 rfl (q_l32 _ rfl) dX12_twistsNow_32 ?_
      refine qr_goto 33 37 (by decide) dX12_twistsNow_33 ?_
      refine qr_iadd 37 38 rfl dX12_twistsNow_37 ?_
      refine qn_i 38 (fun x1_4 e_x1_4 => ?_)
      have h := h x1_4 e_x1_4
      refine qr_istore_n 38 39 rfl (by decide) rfl rfl dX12_twistsNow_38 ?_
      refine qr_iinc 39 42 rfl (by decide) (x := x2) rfl rfl rfl dX12_twistsNow_39 ?_
      refine qr_goto 42 12 (by decide) dX12_twistsNow_42 ?_
      exact h
theorem dX12_laysOdd_0 : decode cX12_laysOdd 0 = .ok (.iconst 0, 1) := by decide +kernel
theorem dX12_laysOdd_1 : decode cX12_laysOdd 1 = .ok (.istore_n 2, 1) := by decide +kernel
theorem dX12_laysOdd_2 : decode cX12_laysOdd 2 = .ok (.iload_n 2, 1) := by decide +kernel
theorem dX12_laysOdd_3 : decode cX12_laysOdd 3 = .ok (.aload_n 0, 1) := by decide +kernel
theorem dX12_laysOdd_4 : decode cX12_laysOdd 4 = .ok (.getfield 281, 3) := by decide +kernel
theorem dX12_laysOdd_7 : decode cX12_laysOdd 7 = .ok (.if_icmp .ge 16, 3) := by decide +kernel
theorem dX12_laysOdd_10 : decode cX12_laysOdd 10 = .ok (.aload_n 0, 1) := by decide +kernel
theorem dX12_laysOdd_11 : decode cX12_laysOdd 11 = .ok (.getfield 57, 3) := by decide +kernel
theorem dX12_laysOdd_14 : decode cX12_laysOdd 14 = .ok (.iload_n 2, 1) := by decide +kernel
theorem dX12_laysOdd_15 : decode cX12_laysOdd 15 = .ok (.iconst 0, 1) := by decide +kernel
theorem dX12_laysOdd_16 : decode cX12_laysOdd 16 = .ok (.bastore, 1) := by decide +kernel
theorem dX12_laysOdd_17 : decode cX12_laysOdd 17 = .ok (.iinc 2 1, 3) := by decide +kernel
theorem dX12_laysOdd_20 : decode cX12_laysOdd 20 = .ok (.goto (-18), 3) := by decide +kernel
theorem dX12_laysOdd_23 : decode cX12_laysOdd 23 = .ok (.iconst 0, 1) := by decide +kernel
theorem dX12_laysOdd_24 : decode cX12_laysOdd 24 = .ok (.istore_n 2, 1) := by decide +kernel
theorem dX12_laysOdd_25 : decode cX12_laysOdd 25 = .ok (.iload_n 2, 1) := by decide +kernel
theorem dX12_laysOdd_26 : decode cX12_laysOdd 26 = .ok (.iconst 2, 1) := by decide +kernel
theorem dX12_laysOdd_27 : decode cX12_laysOdd 27 = .ok (.aload_n 0, 1) := by decide +kernel
theorem dX12_laysOdd_28 : decode cX12_laysOdd 28 = .ok (.getfield 13, 3) := by decide +kernel
theorem dX12_laysOdd_31 : decode cX12_laysOdd 31 = .ok (.bipush 52, 2) := by decide +kernel
theorem dX12_laysOdd_33 : decode cX12_laysOdd 33 = .ok (.iaload, 1) := by decide +kernel
theorem dX12_laysOdd_34 : decode cX12_laysOdd 34 = .ok (.imul, 1) := by decide +kernel
theorem dX12_laysOdd_35 : decode cX12_laysOdd 35 = .ok (.if_icmp .ge 52, 3) := by decide +kernel
theorem dX12_laysOdd_38 : decode cX12_laysOdd 38 = .ok (.iload_n 1, 1) := by decide +kernel
theorem dX12_laysOdd_39 : decode cX12_laysOdd 39 = .ok (.aload_n 0, 1) := by decide +kernel
theorem dX12_laysOdd_40 : decode cX12_laysOdd 40 = .ok (.getfield 42, 3) := by decide +kernel
theorem dX12_laysOdd_43 : decode cX12_laysOdd 43 = .ok (.iload_n 2, 1) := by decide +kernel
theorem dX12_laysOdd_44 : decode cX12_laysOdd 44 = .ok (.iconst 2, 1) := by decide +kernel
theorem dX12_laysOdd_45 : decode cX12_laysOdd 45 = .ok (.idiv, 1) := by decide +kernel
theorem dX12_laysOdd_46 : decode cX12_laysOdd 46 = .ok (.iaload, 1) := by decide +kernel
theorem dX12_laysOdd_47 : decode cX12_laysOdd 47 = .ok (.imul, 1) := by decide +kernel
theorem dX12_laysOdd_48 : decode cX12_laysOdd 48 = .ok (.ifCond .le 33, 3) := by decide +kernel
theorem dX12_laysOdd_51 : decode cX12_laysOdd 51 = .ok (.aload_n 0, 1) := by decide +kernel
theorem dX12_laysOdd_52 : decode cX12_laysOdd 52 = .ok (.getfield 57, 3) := by decide +kernel
theorem dX12_laysOdd_55 : decode cX12_laysOdd 55 = .ok (.aload_n 0, 1) := by decide +kernel
theorem dX12_laysOdd_56 : decode cX12_laysOdd 56 = .ok (.getfield 45, 3) := by decide +kernel
theorem dX12_laysOdd_59 : decode cX12_laysOdd 59 = .ok (.iload_n 2, 1) := by decide +kernel
theorem dX12_laysOdd_60 : decode cX12_laysOdd 60 = .ok (.iaload, 1) := by decide +kernel
theorem dX12_laysOdd_61 : decode cX12_laysOdd 61 = .ok (.aload_n 0, 1) := by decide +kernel
theorem dX12_laysOdd_62 : decode cX12_laysOdd 62 = .ok (.getfield 57, 3) := by decide +kernel
theorem dX12_laysOdd_65 : decode cX12_laysOdd 65 = .ok (.aload_n 0, 1) := by decide +kernel
theorem dX12_laysOdd_66 : decode cX12_laysOdd 66 = .ok (.getfield 45, 3) := by decide +kernel
theorem dX12_laysOdd_69 : decode cX12_laysOdd 69 = .ok (.iload_n 2, 1) := by decide +kernel
theorem dX12_laysOdd_70 : decode cX12_laysOdd 70 = .ok (.iaload, 1) := by decide +kernel
theorem dX12_laysOdd_71 : decode cX12_laysOdd 71 = .ok (.baload, 1) := by decide +kernel
theorem dX12_laysOdd_72 : decode cX12_laysOdd 72 = .ok (.ifCond .ne 7, 3) := by decide +kernel
theorem dX12_laysOdd_75 : decode cX12_laysOdd 75 = .ok (.iconst 1, 1) := by decide +kernel
theorem dX12_laysOdd_76 : decode cX12_laysOdd 76 = .ok (.goto 4, 3) := by decide +kernel
theorem dX12_laysOdd_79 : decode cX12_laysOdd 79 = .ok (.iconst 0, 1) := by decide +kernel
theorem dX12_laysOdd_80 : decode cX12_laysOdd 80 = .ok (.bastore, 1) := by decide +kernel
theorem dX12_laysOdd_81 : decode cX12_laysOdd 81 = .ok (.iinc 2 1, 3) := by decide +kernel
theorem dX12_laysOdd_84 : decode cX12_laysOdd 84 = .ok (.goto (-59), 3) := by decide +kernel
theorem dX12_laysOdd_87 : decode cX12_laysOdd 87 = .ok (.return_, 1) := by decide +kernel
theorem bX12_laysOdd_0 {d : Nat} {P : q_Mem → Prop} {M : q_Mem} (x1 : Int) (h : q_v mX12_laysOdd d (qPU P) M 2 [some (qR 178), some (qI x1), some (qI 0)] []) : q_v mX12_laysOdd d (qPU P) M 0 [some (qR 178), some (qI x1), none] [] := by
  refine qr_iconst 0 1 rfl (q_l32 _ rfl) dX12_laysOdd_0 ?_
  refine qr_istore_n 1 2 rfl (by decide) rfl rfl dX12_laysOdd_1 ?_
  exact h
theorem bX12_laysOdd_2 {d : Nat} {P : q_Mem → Prop} {M : q_Mem} (x1 x2 : Int) (h : (((M 178 25) ≤ x2) → q_v mX12_laysOdd d (qPU P) M 25 [some (qR 178), some (qI x1), some (qI 0)] []) ∧ ((¬ ((M 178 25) ≤ x2)) → (0 ≤ x2 ∧ x2 < (16 : Int)) ∧ (∀ M2 : q_Mem, M2 = q_up M 192 x2 (q_nz 0) → q_v mX12_laysOdd d (qPU P) M2 2 [some (qR 178), some (qI x1), some (qI (q_add x2 1))] []))) : q_v mX12_laysOdd d (qPU P) M 2 [some (qR 178), some (qI x1), some (qI x2)] [] := by
  refine qr_iload_n 2 3 rfl (x := x2) rfl dX12_laysOdd_2 ?_
  refine qr_aload_n 3 4 rfl (x := 178) rfl dX12_laysOdd_3 ?_
  refine qg_i 4 7 rfl ck12 25 (kk := 25) (by decide) (by decide +kernel) (by decide +kernel) rfl wm_1351 rfl dX12_laysOdd_4 ?_
  refine qr_icmp_ge 7 10 23 rfl (by decide) dX12_laysOdd_7 (fun c7 => ?_) (fun c7 => ?_)
  · have h := h.1 c7
    refine qr_iconst 23 24 rfl (q_l32 _ rfl) dX12_laysOdd_23 ?_
    refine qr_istore_n 24 25 rfl (by decide) rfl rfl dX12_laysOdd_24 ?_
    exact h
  · have h := h.2 c7
    refine qr_aload_n 10 11 rfl (x := 178) rfl dX12_laysOdd_10 ?_
    refine qr_getF 11 14 rfl ck12 24 (by decide) (b := 192) (by decide +kernel) rfl (by decide +kernel) (by decide +kernel) wm_1350 rfl dX12_laysOdd_11 ?_
    refine qr_iload_n 14 15 rfl (x := x2) rfl dX12_laysOdd_14 ?_
    refine qr_iconst 15 16 rfl (q_l32 _ rfl) dX12_laysOdd_15 ?_
    have hb1 := h.1
    have h := h.2
    refine qz_st 16 17 rfl (N := 16) (by decide +kernel) (by decide +kernel) hb1.1 hb1.2 dX12_laysOdd_16 (fun M2 e_M2 => ?_)
    have h := h M2 e_M2
    refine qr_iinc 17 20 rfl (by decide) (x := x2) rfl rfl rfl dX12_laysOdd_17 ?_
    refine qr_goto 20 2 (by decide) dX12_laysOdd_20 ?_
    exact h
theorem bX12_laysOdd_25 {d : Nat} {P : q_Mem → Prop} {M : q_Mem} (x1 x2 : Int) (h : ((((q_mul 2 (M 179 52)) ≤ x2) → P M) ∧ ((¬ ((q_mul 2 (M 179 52)) ≤ x2)) → (0 ≤ (q_div x2 2) ∧ (q_div x2 2) < (16 : Int)) ∧ ((((q_mul x1 (M 187 (q_div x2 2))) ≤ 0) → q_v mX12_laysOdd d (qPU P) M 25 [some (qR 178), some (qI x1), some (qI (q_add x2 1))] []) ∧ ((¬ ((q_mul x1 (M 187 (q_div x2 2))) ≤ 0)) → (0 ≤ x2 ∧ x2 < (32 : Int)) ∧ ((0 ≤ x2 ∧ x2 < (32 : Int)) ∧ ((0 ≤ (M 188 x2) ∧ (M 188 x2) < (16 : Int)) ∧ (((¬ (M 192 (M 188 x2)) = 0) → (0 ≤ (M 188 x2) ∧ (M 188 x2) < (16 : Int)) ∧ (∀ M6 : q_Mem, M6 = q_up M 192 (M 188 x2) (q_nz 0) → q_v mX12_laysOdd d (qPU P) M6 25 [some (qR 178), some (qI x1), some (qI (q_add x2 1))] [])) ∧ (((M 192 (M 188 x2)) = 0) → (0 ≤ (M 188 x2) ∧ (M 188 x2) < (16 : Int)) ∧ (∀ M8 : q_Mem, M8 = q_up M 192 (M 188 x2) (q_nz 1) → q_v mX12_laysOdd d (qPU P) M8 25 [some (qR 178), some (qI x1), some (qI (q_add x2 1))] [])))))))))) : q_v mX12_laysOdd d (qPU P) M 25 [some (qR 178), some (qI x1), some (qI x2)] [] := by
  refine qr_iload_n 25 26 rfl (x := x2) rfl dX12_laysOdd_25 ?_
  refine qr_iconst 26 27 rfl (q_l32 _ rfl) dX12_laysOdd_26 ?_
  refine qr_aload_n 27 28 rfl (x := 178) rfl dX12_laysOdd_27 ?_
  refine qr_getF 28 31 rfl ck12 1 (by decide) (b := 179) (by decide +kernel) rfl (by decide +kernel) (by decide +kernel) wm_1327 rfl dX12_laysOdd_28 ?_
  refine qr_bipush 31 33 rfl (q_l32 _ rfl) (by decide) dX12_laysOdd_31 ?_
  refine qi_ld 33 34 rfl (N := 4512) (by decide +kernel) (by decide +kernel) (by decide) (by decide) dX12_laysOdd_33 ?_
  refine qr_imul 34 35 rfl dX12_laysOdd_34 ?_
  refine qr_icmp_ge 35 38 87 rfl (by decide) dX12_laysOdd_35 (fun c35 => ?_) (fun c35 => ?_)
  · have h := h.1 c35
    exact qe_u 87 rfl dX12_laysOdd_87 h
  · have h := h.2 c35
    refine qr_iload_n 38 39 rfl (x := x1) rfl dX12_laysOdd_38 ?_
    refine qr_aload_n 39 40 rfl (x := 178) rfl dX12_laysOdd_39 ?_
    refine qr_getF 40 43 rfl ck12 19 (by decide) (b := 187) (by decide +kernel) rfl (by decide +kernel) (by decide +kernel) wm_1345 rfl dX12_laysOdd_40 ?_
    refine qr_iload_n 43 44 rfl (x := x2) rfl dX12_laysOdd_43 ?_
    refine qr_iconst 44 45 rfl (q_l32 _ rfl) dX12_laysOdd_44 ?_
    refine qr_idiv 45 46 rfl (by decide) dX12_laysOdd_45 ?_
    have hb1 := h.1
    have h := h.2
    refine qi_ld 46 47 rfl (N := 16) (by decide +kernel) (by decide +kernel) hb1.1 hb1.2 dX12_laysOdd_46 ?_
    refine qr_imul 47 48 rfl dX12_laysOdd_47 ?_
    refine qr_if_le 48 51 81 rfl (by decide) dX12_laysOdd_48 (fun c48 => ?_) (fun c48 => ?_)
    · have h := h.1 c48
      refine qr_iinc 81 84 rfl (by decide) (x := x2) rfl rfl rfl dX12_laysOdd_81 ?_
      refine qr_goto 84 25 (by decide) dX12_laysOdd_84 ?_
      exact h
    · have h := h.2 c48
      refine qr_aload_n 51 52 rfl (x := 178) rfl dX12_laysOdd_51 ?_
      refine qr_getF 52 55 rfl ck12 24 (by decide) (b := 192) (by decide +kernel) rfl (by decide +kernel) (by decide +kernel) wm_1350 rfl dX12_laysOdd_52 ?_
      refine qr_aload_n 55 56 rfl (x := 178) rfl dX12_laysOdd_55 ?_
      refine qr_getF 56 59 rfl ck12 20 (by decide) (b := 188) (by decide +kernel) rfl (by decide +kernel) (by decide +kernel) wm_1346 rfl dX12_laysOdd_56 ?_
      refine qr_iload_n 59 60 rfl (x := x2) rfl dX12_laysOdd_59 ?_
      have hb2 := h.1
      have h := h.2
      refine qi_ld 60 61 rfl (N := 32) (by decide +kernel) (by decide +kernel) hb2.1 hb2.2 dX12_laysOdd_60 ?_
      refine qr_aload_n 61 62 rfl (x := 178) rfl dX12_laysOdd_61 ?_
      refine qr_getF 62 65 rfl ck12 24 (by decide) (b := 192) (by decide +kernel) rfl (by decide +kernel) (by decide +kernel) wm_1350 rfl dX12_laysOdd_62 ?_
      refine qr_aload_n 65 66 rfl (x := 178) rfl dX12_laysOdd_65 ?_
      refine qr_getF 66 69 rfl ck12 20 (by decide) (b := 188) (by decide +kernel) rfl (by decide +kernel) (by decide +kernel) wm_1346 rfl dX12_laysOdd_66 ?_
      refine qr_iload_n 69 70 rfl (x := x2) rfl dX12_laysOdd_69 ?_
      have hb3 := h.1
      have h := h.2
      refine qi_ld 70 71 rfl (N := 32) (by decide +kernel) (by decide +kernel) hb3.1 hb3.2 dX12_laysOdd_70 ?_
      have hb4 := h.1
      have h := h.2
      refine qz_ld 71 72 rfl (N := 16) (by decide +kernel) (by decide +kernel) hb4.1 hb4.2 dX12_laysOdd_71 ?_
      refine qr_if_ne 72 75 79 rfl (by decide) dX12_laysOdd_72 (fun c72 => ?_) (fun c72 => ?_)
      · have h := h.1 c72
        refine qr_iconst 79 80 rfl (q_l32 _ rfl) dX12_laysOdd_79 ?_
        have hb5 := h.1
        have h := h.2
        refine qz_st 80 81 rfl (N := 16) (by decide +kernel) (by decide +kernel) hb5.1 hb5.2 dX12_laysOdd_80 (fun M6 e_M6 => ?_)
        have h := h M6 e_M6
        refine qr_iinc 81 84 rfl (by decide) (x := x2) rfl rfl rfl dX12_laysOdd_81 ?_
        refine qr_goto 84 25 (by decide) dX12_laysOdd_84 ?_
        exact h
      · have h := h.2 c72
        refine qr_iconst 75 76 rfl (q_l32 _ rfl) dX12_laysOdd_75 ?_
        refine qr_goto 76 80 (by decide) dX12_laysOdd_76 ?_
        have hb7 := h.1
        have h := h.2
        refine qz_st 80 81 rfl (N := 16) (by decide +kernel) (by decide +kernel) hb7.1 hb7.2 dX12_laysOdd_80 (fun M8 e_M8 => ?_)
        have h := h M8 e_M8
        refine qr_iinc 81 84 rfl (by decide) (x := x2) rfl rfl rfl dX12_laysOdd_81 ?_
        refine qr_goto 84 25 (by decide) dX12_laysOdd_84 ?_
        exact h
theorem dX12_isFace_0 : decode cX12_isFace 0 = .ok (.lload_n 1, 1) := by decide +kernel
theorem dX12_isFace_1 : decode cX12_isFace 1 = .ok (.lconst 0, 1) := by decide +kernel
theorem dX12_isFace_2 : decode cX12_isFace 2 = .ok (.aload_n 0, 1) := by decide +kernel
theorem dX12_isFace_3 : decode cX12_isFace 3 = .ok (.getfield 281, 3) := by decide +kernel
theorem dX12_isFace_6 : decode cX12_isFace 6 = .ok (.iconst 1, 1) := by decide +kernel
theorem dX12_isFace_7 : decode cX12_isFace 7 = .ok (.isub, 1) := by decide +kernel
theorem dX12_isFace_8 : decode cX12_isFace 8 = .ok (.i2l, 1) := by decide +kernel
theorem dX12_isFace_9 : decode cX12_isFace 9 = .ok (.invokestatic 176, 3) := by decide +kernel
theorem dX12_isFace_12 : decode cX12_isFace 12 = .ok (.ireturn, 1) := by decide +kernel
theorem bX12_isFace_0 {d : Nat} {P : Int → q_Mem → Prop} {M : q_Mem} (x1 : Int) (h : q_kI yX12_within mX12_within d [qL x1, qL 0, qL (q_sub (M 178 25) 1)] M (fun v2 M1 => (v2 = 0 ∨ v2 = 1) ∧ P v2 M1)) : q_v mX12_isFace d (qPI P) M 0 [some (qR 178), some (qL x1), none] [] := by
  refine qr_lload_n 0 1 rfl (x := x1) rfl dX12_isFace_0 ?_
  refine qr_lconst 1 2 rfl (w := 0) (q_l64 _ rfl) (by decide) dX12_isFace_1 ?_
  refine qr_aload_n 2 3 rfl (x := 178) rfl dX12_isFace_2 ?_
  refine qg_i 3 6 rfl ck12 25 (kk := 25) (by decide) (by decide +kernel) (by decide +kernel) rfl wm_1351 rfl dX12_isFace_3 ?_
  refine qr_iconst 6 7 rfl (q_l32 _ rfl) dX12_isFace_6 ?_
  refine qr_isub 7 8 rfl dX12_isFace_7 ?_
  refine qr_i2l 8 9 rfl dX12_isFace_8 ?_
  refine qs_I 9 12 rfl (av := [qL x1, qL 0, qL (q_sub (M 178 25) 1)]) ca_X12_within wm_1481 wm_1480 rfl rfl (Nat.le_of_ble_eq_true rfl) dX12_isFace_9 h (fun v2 M1 h => ?_)
  exact qe_z 12 rfl h.1 dX12_isFace_12 h.2
theorem dX12_meets_0 : decode cX12_meets 0 = .ok (.iconst 0, 1) := by decide +kernel
theorem dX12_meets_1 : decode cX12_meets 1 = .ok (.istore_n 2, 1) := by decide +kernel
theorem dX12_meets_2 : decode cX12_meets 2 = .ok (.iconst 0, 1) := by decide +kernel
theorem dX12_meets_3 : decode cX12_meets 3 = .ok (.istore_n 3, 1) := by decide +kernel
theorem dX12_meets_4 : decode cX12_meets 4 = .ok (.iconst 0, 1) := by decide +kernel
theorem dX12_meets_5 : decode cX12_meets 5 = .ok (.istore 4, 2) := by decide +kernel
theorem dX12_meets_7 : decode cX12_meets 7 = .ok (.iload 4, 2) := by decide +kernel
theorem dX12_meets_9 : decode cX12_meets 9 = .ok (.iconst 2, 1) := by decide +kernel
theorem dX12_meets_10 : decode cX12_meets 10 = .ok (.aload_n 0, 1) := by decide +kernel
theorem dX12_meets_11 : decode cX12_meets 11 = .ok (.getfield 13, 3) := by decide +kernel
theorem dX12_meets_14 : decode cX12_meets 14 = .ok (.bipush 52, 2) := by decide +kernel
theorem dX12_meets_16 : decode cX12_meets 16 = .ok (.iaload, 1) := by decide +kernel
theorem dX12_meets_17 : decode cX12_meets 17 = .ok (.imul, 1) := by decide +kernel
theorem dX12_meets_18 : decode cX12_meets 18 = .ok (.if_icmp .ge 31, 3) := by decide +kernel
theorem dX12_meets_21 : decode cX12_meets 21 = .ok (.aload_n 0, 1) := by decide +kernel
theorem dX12_meets_22 : decode cX12_meets 22 = .ok (.getfield 45, 3) := by decide +kernel
theorem dX12_meets_25 : decode cX12_meets 25 = .ok (.iload 4, 2) := by decide +kernel
theorem dX12_meets_27 : decode cX12_meets 27 = .ok (.iaload, 1) := by decide +kernel
theorem dX12_meets_28 : decode cX12_meets 28 = .ok (.iload_n 1, 1) := by decide +kernel
theorem dX12_meets_29 : decode cX12_meets 29 = .ok (.if_icmp .ne 14, 3) := by decide +kernel
theorem dX12_meets_32 : decode cX12_meets 32 = .ok (.iload_n 2, 1) := by decide +kernel
theorem dX12_meets_33 : decode cX12_meets 33 = .ok (.iconst 1, 1) := by decide +kernel
theorem dX12_meets_34 : decode cX12_meets 34 = .ok (.aload_n 0, 1) := by decide +kernel
theorem dX12_meets_35 : decode cX12_meets 35 = .ok (.iload 4, 2) := by decide +kernel
theorem dX12_meets_37 : decode cX12_meets 37 = .ok (.invokevirtual 275, 3) := by decide +kernel
theorem dX12_meets_40 : decode cX12_meets 40 = .ok (.ishl, 1) := by decide +kernel
theorem dX12_meets_41 : decode cX12_meets 41 = .ok (.ior, 1) := by decide +kernel
theorem dX12_meets_42 : decode cX12_meets 42 = .ok (.istore_n 2, 1) := by decide +kernel
theorem dX12_meets_43 : decode cX12_meets 43 = .ok (.iinc 4 1, 3) := by decide +kernel
theorem dX12_meets_46 : decode cX12_meets 46 = .ok (.goto (-39), 3) := by decide +kernel
theorem dX12_meets_49 : decode cX12_meets 49 = .ok (.iconst 0, 1) := by decide +kernel
theorem dX12_meets_50 : decode cX12_meets 50 = .ok (.istore 4, 2) := by decide +kernel
theorem dX12_meets_52 : decode cX12_meets 52 = .ok (.iload 4, 2) := by decide +kernel
theorem dX12_meets_54 : decode cX12_meets 54 = .ok (.bipush 10, 2) := by decide +kernel
theorem dX12_meets_56 : decode cX12_meets 56 = .ok (.if_icmp .ge 26, 3) := by decide +kernel
theorem dX12_meets_59 : decode cX12_meets 59 = .ok (.iload_n 3, 1) := by decide +kernel
theorem dX12_meets_60 : decode cX12_meets 60 = .ok (.iload_n 2, 1) := by decide +kernel
theorem dX12_meets_61 : decode cX12_meets 61 = .ok (.iload 4, 2) := by decide +kernel
theorem dX12_meets_63 : decode cX12_meets 63 = .ok (.invokestatic 263, 3) := by decide +kernel
theorem dX12_meets_66 : decode cX12_meets 66 = .ok (.ifCond .eq 7, 3) := by decide +kernel
theorem dX12_meets_69 : decode cX12_meets 69 = .ok (.iconst 1, 1) := by decide +kernel
theorem dX12_meets_70 : decode cX12_meets 70 = .ok (.goto 4, 3) := by decide +kernel
theorem dX12_meets_73 : decode cX12_meets 73 = .ok (.iconst 0, 1) := by decide +kernel
theorem dX12_meets_74 : decode cX12_meets 74 = .ok (.iadd, 1) := by decide +kernel
theorem dX12_meets_75 : decode cX12_meets 75 = .ok (.istore_n 3, 1) := by decide +kernel
theorem dX12_meets_76 : decode cX12_meets 76 = .ok (.iinc 4 1, 3) := by decide +kernel
theorem dX12_meets_79 : decode cX12_meets 79 = .ok (.goto (-27), 3) := by decide +kernel
theorem dX12_meets_82 : decode cX12_meets 82 = .ok (.iload_n 3, 1) := by decide +kernel
theorem dX12_meets_83 : decode cX12_meets 83 = .ok (.ireturn, 1) := by decide +kernel
theorem bX12_meets_0 {d : Nat} {P : Int → q_Mem → Prop} {M : q_Mem} (x1 : Int) (h : q_v mX12_meets d (qPI P) M 7 [some (qR 178), some (qI x1), some (qI 0), some (qI 0), some (qI 0)] []) : q_v mX12_meets d (qPI P) M 0 [some (qR 178), some (qI x1), none, none, none] [] := by
  refine qr_iconst 0 1 rfl (q_l32 _ rfl) dX12_meets_0 ?_
  refine qr_istore_n 1 2 rfl (by decide) rfl rfl dX12_meets_1 ?_
  refine qr_iconst 2 3 rfl (q_l32 _ rfl) dX12_meets_2 ?_
  refine qr_istore_n 3 4 rfl (by decide) rfl rfl dX12_meets_3 ?_
  refine qr_iconst 4 5 rfl (q_l32 _ rfl) dX12_meets_4 ?_
  refine qr_istore 5 7 rfl (by decide) rfl rfl dX12_meets_5 ?_
  exact h
theorem bX12_meets_7 {d : Nat} {P : Int → q_Mem → Prop} {M : q_Mem} (x1 x2 x3 x4 : Int) (h : ((((q_mul 2 (M 179 52)) ≤ x4) → q_v mX12_meets d (qPI P) M 52 [none, none, some (qI x2), some (qI x3), some (qI 0)] []) ∧ ((¬ ((q_mul 2 (M 179 52)) ≤ x4)) → (0 ≤ x4 ∧ x4 < (32 : Int)) ∧ (((¬ (M 188 x4) = x1) → q_v mX12_meets d (qPI P) M 7 [some (qR 178), some (qI x1), some (qI x2), some (qI x3), some (qI (q_add x4 1))] []) ∧ (((M 188 x4) = x1) → q_kI yX12_fromOf mX12_fromOf d [qR 178, qI x4] M (fun v3 M2 => ∀ x2_4 : Int, x2_4 = (q_or x2 (q_shl 1 v3)) → q_v mX12_meets d (qPI P) M2 7 [some (qR 178), some (qI x1), some (qI x2_4), some (qI x3), some (qI (q_add x4 1))] [])))))) : q_v mX12_meets d (qPI P) M 7 [some (qR 178), some (qI x1), some (qI x2), some (qI x3), some (qI x4)] [] := by
  refine qr_iload 7 9 rfl (x := x4) rfl dX12_meets_7 ?_
  refine qr_iconst 9 10 rfl (q_l32 _ rfl) dX12_meets_9 ?_
  refine qr_aload_n 10 11 rfl (x := 178) rfl dX12_meets_10 ?_
  refine qr_getF 11 14 rfl ck12 1 (by decide) (b := 179) (by decide +kernel) rfl (by decide +kernel) (by decide +kernel) wm_1327 rfl dX12_meets_11 ?_
  refine qr_bipush 14 16 rfl (q_l32 _ rfl) (by decide) dX12_meets_14 ?_
  refine qi_ld 16 17 rfl (N := 4512) (by decide +kernel) (by decide +kernel) (by decide) (by decide) dX12_meets_16 ?_
  refine qr_imul 17 18 rfl dX12_meets_17 ?_
  refine qr_icmp_ge 18 21 49 rfl (by decide) dX12_meets_18 (fun c18 => ?_) (fun c18 => ?_)
  · have h := h.1 c18
    refine qr_iconst 49 50 rfl (q_l32 _ rfl) dX12_meets_49 ?_
    refine qr_istore 50 52 rfl (by decide) rfl rfl dX12_meets_50 ?_
    exact qr_cut 52 (ls' := [none, none, some (qI x2), some (qI x3), some (qI 0)]) (And.intro rfl (And.intro rfl (And.intro rfl trivial))) h
  · have h := h.2 c18
    refine qr_aload_n 21 22 rfl (x := 178) rfl dX12_meets_21 ?_
    refine qr_getF 22 25 rfl ck12 20 (by decide) (b := 188) (by decide +kernel) rfl (by decide +kernel) (by decide +kernel) wm_1346 rfl dX12_meets_22 ?_
    refine qr_iload 25 27 rfl (x := x4) rfl dX12_meets_25 ?_
    have hb1 := h.1
    have h := h.2
    refine qi_ld 27 28 rfl (N := 32) (by decide +kernel) (by decide +kernel) hb1.1 hb1.2 dX12_meets_27 ?_
    refine qr_iload_n 28 29 rfl (x := x1) rfl dX12_meets_28 ?_
    refine qr_icmp_ne 29 32 43 rfl (by decide) dX12_meets_29 (fun c29 => ?_) (fun c29 => ?_)
    · have h := h.1 c29
      refine qr_iinc 43 46 rfl (by decide) (x := x4) rfl rfl rfl dX12_meets_43 ?_
      refine qr_goto 46 7 (by decide) dX12_meets_46 ?_
      exact h
    · have h := h.2 c29
      refine qr_iload_n 32 33 rfl (x := x2) rfl dX12_meets_32 ?_
      refine qr_iconst 33 34 rfl (q_l32 _ rfl) dX12_meets_33 ?_
      refine qr_aload_n 34 35 rfl (x := 178) rfl dX12_meets_34 ?_
      refine qr_iload 35 37 rfl (x := x4) rfl dX12_meets_35 ?_
      refine qw_I 37 40 rfl (av := [qI x4]) ca_X12_fromOf wm_1626 wp_104 wm_1624 ck12 (by decide +kernel) rfl rfl (Nat.le_of_ble_eq_true rfl) dX12_meets_37 h (fun v3 M2 h => ?_)
      refine qr_ishl 40 41 rfl dX12_meets_40 ?_
      refine qr_ior 41 42 rfl dX12_meets_41 ?_
      refine qn_i 42 (fun x2_4 e_x2_4 => ?_)
      have h := h x2_4 e_x2_4
      refine qr_istore_n 42 43 rfl (by decide) rfl rfl dX12_meets_42 ?_
      refine qr_iinc 43 46 rfl (by decide) (x := x4) rfl rfl rfl dX12_meets_43 ?_
      refine qr_goto 46 7 (by decide) dX12_meets_46 ?_
      exact h
theorem bX12_meets_52 {d : Nat} {P : Int → q_Mem → Prop} {M : q_Mem} (x2 x3 x4 : Int) (h : (((10 : Int) ≤ x4) → P x3 M) ∧ ((¬ ((10 : Int) ≤ x4)) → q_kI yX12_isIn mX12_isIn d [qI x2, qI x4] M (fun v2 M1 => ((v2 = 0) → ∀ x3_3 : Int, x3_3 = (q_add x3 0) → q_v mX12_meets d (qPI P) M1 52 [none, none, some (qI x2), some (qI x3_3), some (qI (q_add x4 1))] []) ∧ ((¬ (v2 = 0)) → ∀ x3_4 : Int, x3_4 = (q_add x3 1) → q_v mX12_meets d (qPI P) M1 52 [none, none, some (qI x2), some (qI x3_4), some (qI (q_add x4 1))] [])))) : q_v mX12_meets d (qPI P) M 52 [none, none, some (qI x2), some (qI x3), some (qI x4)] [] := by
  refine qr_iload 52 54 rfl (x := x4) rfl dX12_meets_52 ?_
  refine qr_bipush 54 56 rfl (q_l32 _ rfl) (by decide) dX12_meets_54 ?_
  refine qr_icmp_ge 56 59 82 rfl (by decide) dX12_meets_56 (fun c56 => ?_) (fun c56 => ?_)
  · have h := h.1 c56
    refine qr_iload_n 82 83 rfl (x := x3) rfl dX12_meets_82 ?_
    exact qe_i 83 rfl dX12_meets_83 h
  · have h := h.2 c56
    refine qr_iload_n 59 60 rfl (x := x3) rfl dX12_meets_59 ?_
    refine qr_iload_n 60 61 rfl (x := x2) rfl dX12_meets_60 ?_
    refine qr_iload 61 63 rfl (x := x4) rfl dX12_meets_61 ?_
    refine qs_I 63 66 rfl (av := [qI x2, qI x4]) ca_X12_isIn wm_1694 wm_1693 rfl rfl (Nat.le_of_ble_eq_true rfl) dX12_meets_63 h (fun v2 M1 h => ?_)
    refine qr_if_eq 66 69 73 rfl (by decide) dX12_meets_66 (fun c66 => ?_) (fun c66 => ?_)
    · have h := h.1 c66
      refine qr_iconst 73 74 rfl (q_l32 _ rfl) dX12_meets_73 ?_
      refine qr_iadd 74 75 rfl dX12_meets_74 ?_
      refine qn_i 75 (fun x3_3 e_x3_3 => ?_)
      have h := h x3_3 e_x3_3
      refine qr_istore_n 75 76 rfl (by decide) rfl rfl dX12_meets_75 ?_
      refine qr_iinc 76 79 rfl (by decide) (x := x4) rfl rfl rfl dX12_meets_76 ?_
      refine qr_goto 79 52 (by decide) dX12_meets_79 ?_
      exact h
    · have h := h.2 c66
      refine qr_iconst 69 70 rfl (q_l32 _ rfl) dX12_meets_69 ?_
      refine qr_goto 70 74 (by decide) dX12_meets_70 ?_
      refine qr_iadd 74 75 rfl dX12_meets_74 ?_
      refine qn_i 75 (fun x3_4 e_x3_4 => ?_)
      have h := h x3_4 e_x3_4
      refine qr_istore_n 75 76 rfl (by decide) rfl rfl dX12_meets_75 ?_
      refine qr_iinc 76 79 rfl (by decide) (x := x4) rfl rfl rfl dX12_meets_76 ?_
      refine qr_goto 79 52 (by decide) dX12_meets_79 ?_
      exact h
theorem dX12_dartAt_0 : decode cX12_dartAt 0 = .ok (.aload_n 0, 1) := by decide +kernel
theorem dX12_dartAt_1 : decode cX12_dartAt 1 = .ok (.getfield 48, 3) := by decide +kernel
theorem dX12_dartAt_4 : decode cX12_dartAt 4 = .ok (.iload_n 1, 1) := by decide +kernel
theorem dX12_dartAt_5 : decode cX12_dartAt 5 = .ok (.iaload, 1) := by decide +kernel
theorem dX12_dartAt_6 : decode cX12_dartAt 6 = .ok (.istore_n 3, 1) := by decide +kernel
theorem dX12_dartAt_7 : decode cX12_dartAt 7 = .ok (.iconst 0, 1) := by decide +kernel
theorem dX12_dartAt_8 : decode cX12_dartAt 8 = .ok (.istore 4, 2) := by decide +kernel
theorem dX12_dartAt_10 : decode cX12_dartAt 10 = .ok (.iload 4, 2) := by decide +kernel
theorem dX12_dartAt_12 : decode cX12_dartAt 12 = .ok (.iload_n 2, 1) := by decide +kernel
theorem dX12_dartAt_13 : decode cX12_dartAt 13 = .ok (.if_icmp .ge 15, 3) := by decide +kernel
theorem dX12_dartAt_16 : decode cX12_dartAt 16 = .ok (.aload_n 0, 1) := by decide +kernel
theorem dX12_dartAt_17 : decode cX12_dartAt 17 = .ok (.iload_n 3, 1) := by decide +kernel
theorem dX12_dartAt_18 : decode cX12_dartAt 18 = .ok (.invokevirtual 284, 3) := by decide +kernel
theorem dX12_dartAt_21 : decode cX12_dartAt 21 = .ok (.istore_n 3, 1) := by decide +kernel
theorem dX12_dartAt_22 : decode cX12_dartAt 22 = .ok (.iinc 4 1, 3) := by decide +kernel
theorem dX12_dartAt_25 : decode cX12_dartAt 25 = .ok (.goto (-15), 3) := by decide +kernel
theorem dX12_dartAt_28 : decode cX12_dartAt 28 = .ok (.iload_n 3, 1) := by decide +kernel
theorem dX12_dartAt_29 : decode cX12_dartAt 29 = .ok (.ireturn, 1) := by decide +kernel
theorem bX12_dartAt_0 {d : Nat} {P : Int → q_Mem → Prop} {M : q_Mem} (x1 x2 : Int) (h : (0 ≤ x1 ∧ x1 < (16 : Int)) ∧ (∀ x3_2 : Int, x3_2 = (M 189 x1) → q_v mX12_dartAt d (qPI P) M 10 [some (qR 178), none, some (qI x2), some (qI x3_2), some (qI 0)] [])) : q_v mX12_dartAt d (qPI P) M 0 [some (qR 178), some (qI x1), some (qI x2), none, none] [] := by
  refine qr_aload_n 0 1 rfl (x := 178) rfl dX12_dartAt_0 ?_
  refine qr_getF 1 4 rfl ck12 21 (by decide) (b := 189) (by decide +kernel) rfl (by decide +kernel) (by decide +kernel) wm_1347 rfl dX12_dartAt_1 ?_
  refine qr_iload_n 4 5 rfl (x := x1) rfl dX12_dartAt_4 ?_
  have hb1 := h.1
  have h := h.2
  refine qi_ld 5 6 rfl (N := 16) (by decide +kernel) (by decide +kernel) hb1.1 hb1.2 dX12_dartAt_5 ?_
  refine qn_i 6 (fun x3_2 e_x3_2 => ?_)
  have h := h x3_2 e_x3_2
  refine qr_istore_n 6 7 rfl (by decide) rfl rfl dX12_dartAt_6 ?_
  refine qr_iconst 7 8 rfl (q_l32 _ rfl) dX12_dartAt_7 ?_
  refine qr_istore 8 10 rfl (by decide) rfl rfl dX12_dartAt_8 ?_
  exact qr_cut 10 (ls' := [some (qR 178), none, some (qI x2), some (qI x3_2), some (qI 0)]) (And.intro rfl (And.intro rfl (And.intro rfl (And.intro rfl trivial)))) h
theorem bX12_dartAt_10 {d : Nat} {P : Int → q_Mem → Prop} {M : q_Mem} (x2 x3 x4 : Int) (h : ((x2 ≤ x4) → P x3 M) ∧ ((¬ (x2 ≤ x4)) → q_kI yX12_nextOf mX12_nextOf d [qR 178, qI x3] M (fun v2 M1 => q_v mX12_dartAt d (qPI P) M1 10 [some (qR 178), none, some (qI x2), some (qI v2), some (qI (q_add x4 1))] []))) : q_v mX12_dartAt d (qPI P) M 10 [some (qR 178), none, some (qI x2), some (qI x3), some (qI x4)] [] := by
  refine qr_iload 10 12 rfl (x := x4) rfl dX12_dartAt_10 ?_
  refine qr_iload_n 12 13 rfl (x := x2) rfl dX12_dartAt_12 ?_
  refine qr_icmp_ge 13 16 28 rfl (by decide) dX12_dartAt_13 (fun c13 => ?_) (fun c13 => ?_)
  · have h := h.1 c13
    refine qr_iload_n 28 29 rfl (x := x3) rfl dX12_dartAt_28 ?_
    exact qe_i 29 rfl dX12_dartAt_29 h
  · have h := h.2 c13
    refine qr_aload_n 16 17 rfl (x := 178) rfl dX12_dartAt_16 ?_
    refine qr_iload_n 17 18 rfl (x := x3) rfl dX12_dartAt_17 ?_
    refine qw_I 18 21 rfl (av := [qI x3]) ca_X12_nextOf wm_1619 wp_103 wm_1617 ck12 (by decide +kernel) rfl rfl (Nat.le_of_ble_eq_true rfl) dX12_dartAt_18 h (fun v2 M1 h => ?_)
    refine qr_istore_n 21 22 rfl (by decide) rfl rfl dX12_dartAt_21 ?_
    refine qr_iinc 22 25 rfl (by decide) (x := x4) rfl rfl rfl dX12_dartAt_22 ?_
    refine qr_goto 25 10 (by decide) dX12_dartAt_25 ?_
    exact h
theorem dX12_link_0 : decode cX12_link 0 = .ok (.aload_n 0, 1) := by decide +kernel
theorem dX12_link_1 : decode cX12_link 1 = .ok (.iconst 0, 1) := by decide +kernel
theorem dX12_link_2 : decode cX12_link 2 = .ok (.putfield 1, 3) := by decide +kernel
theorem dX12_link_5 : decode cX12_link 5 = .ok (.aload_n 0, 1) := by decide +kernel
theorem dX12_link_6 : decode cX12_link 6 = .ok (.iload_n 1, 1) := by decide +kernel
theorem dX12_link_7 : decode cX12_link 7 = .ok (.i2l, 1) := by decide +kernel
theorem dX12_link_8 : decode cX12_link 8 = .ok (.invokevirtual 296, 3) := by decide +kernel
theorem dX12_link_11 : decode cX12_link 11 = .ok (.ifCond .eq 15, 3) := by decide +kernel
theorem dX12_link_14 : decode cX12_link 14 = .ok (.iload_n 2, 1) := by decide +kernel
theorem dX12_link_15 : decode cX12_link 15 = .ok (.i2l, 1) := by decide +kernel
theorem dX12_link_16 : decode cX12_link 16 = .ok (.lconst 0, 1) := by decide +kernel
theorem dX12_link_17 : decode cX12_link 17 = .ok (.ldc2_w 300, 3) := by decide +kernel
theorem dX12_link_20 : decode cX12_link 20 = .ok (.invokestatic 176, 3) := by decide +kernel
theorem dX12_link_23 : decode cX12_link 23 = .ok (.ifCond .ne 6, 3) := by decide +kernel
theorem dX12_link_26 : decode cX12_link 26 = .ok (.bipush (-2), 2) := by decide +kernel
theorem dX12_link_28 : decode cX12_link 28 = .ok (.ireturn, 1) := by decide +kernel
theorem dX12_link_29 : decode cX12_link 29 = .ok (.aload_n 0, 1) := by decide +kernel
theorem dX12_link_30 : decode cX12_link 30 = .ok (.invokevirtual 290, 3) := by decide +kernel
theorem dX12_link_33 : decode cX12_link 33 = .ok (.iload_n 2, 1) := by decide +kernel
theorem dX12_link_34 : decode cX12_link 34 = .ok (.ifCond .ne 15, 3) := by decide +kernel
theorem dX12_link_37 : decode cX12_link 37 = .ok (.aload_n 0, 1) := by decide +kernel
theorem dX12_link_38 : decode cX12_link 38 = .ok (.getfield 13, 3) := by decide +kernel
theorem dX12_link_41 : decode cX12_link 41 = .ok (.bipush 53, 2) := by decide +kernel
theorem dX12_link_43 : decode cX12_link 43 = .ok (.iload_n 1, 1) := by decide +kernel
theorem dX12_link_44 : decode cX12_link 44 = .ok (.iadd, 1) := by decide +kernel
theorem dX12_link_45 : decode cX12_link 45 = .ok (.iaload, 1) := by decide +kernel
theorem dX12_link_46 : decode cX12_link 46 = .ok (.goto 32, 3) := by decide +kernel
theorem dX12_link_49 : decode cX12_link 49 = .ok (.iload_n 2, 1) := by decide +kernel
theorem dX12_link_50 : decode cX12_link 50 = .ok (.iconst 1, 1) := by decide +kernel
theorem dX12_link_51 : decode cX12_link 51 = .ok (.if_icmp .ne 15, 3) := by decide +kernel
theorem dX12_link_54 : decode cX12_link 54 = .ok (.aload_n 0, 1) := by decide +kernel
theorem dX12_link_55 : decode cX12_link 55 = .ok (.getfield 13, 3) := by decide +kernel
theorem dX12_link_58 : decode cX12_link 58 = .ok (.bipush 69, 2) := by decide +kernel
theorem dX12_link_60 : decode cX12_link 60 = .ok (.iload_n 1, 1) := by decide +kernel
theorem dX12_link_61 : decode cX12_link 61 = .ok (.iadd, 1) := by decide +kernel
theorem dX12_link_62 : decode cX12_link 62 = .ok (.iaload, 1) := by decide +kernel
theorem dX12_link_63 : decode cX12_link 63 = .ok (.goto 15, 3) := by decide +kernel
theorem dX12_link_66 : decode cX12_link 66 = .ok (.aload_n 0, 1) := by decide +kernel
theorem dX12_link_67 : decode cX12_link 67 = .ok (.getfield 45, 3) := by decide +kernel
theorem dX12_link_70 : decode cX12_link 70 = .ok (.iconst 2, 1) := by decide +kernel
theorem dX12_link_71 : decode cX12_link 71 = .ok (.iload_n 1, 1) := by decide +kernel
theorem dX12_link_72 : decode cX12_link 72 = .ok (.imul, 1) := by decide +kernel
theorem dX12_link_73 : decode cX12_link 73 = .ok (.iload_n 2, 1) := by decide +kernel
theorem dX12_link_74 : decode cX12_link 74 = .ok (.iadd, 1) := by decide +kernel
theorem dX12_link_75 : decode cX12_link 75 = .ok (.iconst 2, 1) := by decide +kernel
theorem dX12_link_76 : decode cX12_link 76 = .ok (.isub, 1) := by decide +kernel
theorem dX12_link_77 : decode cX12_link 77 = .ok (.iaload, 1) := by decide +kernel
theorem dX12_link_78 : decode cX12_link 78 = .ok (.ireturn, 1) := by decide +kernel
theorem bX12_link_0 {d : Nat} {P : Int → q_Mem → Prop} {M : q_Mem} (x1 x2 : Int) (h : (∀ M1 : q_Mem, M1 = q_up M 178 0 0 → q_kI yX12_isLink mX12_isLink d [qR 178, qL x1] M1 (fun v3 M2 => ((v3 = 0) → P (-2) M2) ∧ ((¬ (v3 = 0)) → q_kI yX12_within mX12_within d [qL x2, qL 0, qL 3] M2 (fun v5 M4 => ((¬ v5 = 0) → q_kU yX12_laysFaces mX12_laysFaces d [qR 178] M4 (fun M6 => ((¬ x2 = 0) → ((¬ x2 = (1 : Int)) → (0 ≤ (q_sub (q_add (q_mul 2 x1) x2) 2) ∧ (q_sub (q_add (q_mul 2 x1) x2) 2) < (32 : Int)) ∧ (P (M6 188 (q_sub (q_add (q_mul 2 x1) x2) 2)) M6)) ∧ ((x2 = (1 : Int)) → (0 ≤ (q_add 69 x1) ∧ (q_add 69 x1) < (4512 : Int)) ∧ (P (M6 179 (q_add 69 x1)) M6))) ∧ ((x2 = 0) → (0 ≤ (q_add 53 x1) ∧ (q_add 53 x1) < (4512 : Int)) ∧ (P (M6 179 (q_add 53 x1)) M6)))) ∧ ((v5 = 0) → P (-2) M4)))))) : q_v mX12_link d (qPI P) M 0 [some (qR 178), some (qI x1), some (qI x2)] [] := by
  refine qr_aload_n 0 1 rfl (x := 178) rfl dX12_link_0 ?_
  refine qr_iconst 1 2 rfl (q_l32 _ rfl) dX12_link_1 ?_
  refine qp_i 2 5 rfl ck12 0 (kk := 0) (by decide) (by decide +kernel) (by decide) rfl rfl wm_1326 rfl dX12_link_2 (fun M1 e_M1 => ?_)
  have h := h M1 e_M1
  refine qr_aload_n 5 6 rfl (x := 178) rfl dX12_link_5 ?_
  refine qr_iload_n 6 7 rfl (x := x1) rfl dX12_link_6 ?_
  refine qr_i2l 7 8 rfl dX12_link_7 ?_
  refine qw_I 8 11 rfl (av := [qL x1]) ca_X12_isLink wm_1610 wp_101 wm_1608 ck12 (by decide +kernel) rfl rfl (Nat.le_of_ble_eq_true rfl) dX12_link_8 h (fun v3 M2 h => ?_)
  refine qr_if_eq 11 14 26 rfl (by decide) dX12_link_11 (fun c11 => ?_) (fun c11 => ?_)
  · have h := h.1 c11
    refine qr_bipush 26 28 rfl (q_l32 _ rfl) (by decide) dX12_link_26 ?_
    exact qe_i 28 rfl dX12_link_28 h
  · have h := h.2 c11
    refine qr_iload_n 14 15 rfl (x := x2) rfl dX12_link_14 ?_
    refine qr_i2l 15 16 rfl dX12_link_15 ?_
    refine qr_lconst 16 17 rfl (w := 0) (q_l64 _ rfl) (by decide) dX12_link_16 ?_
    refine qr_ldc2 17 20 rfl (v := 3) (q_l64 _ rfl) wm_1612 dX12_link_17 ?_
    refine qs_I 20 23 rfl (av := [qL x2, qL 0, qL 3]) ca_X12_within wm_1481 wm_1480 rfl rfl (Nat.le_of_ble_eq_true rfl) dX12_link_20 h (fun v5 M4 h => ?_)
    refine qr_if_ne 23 26 29 rfl (by decide) dX12_link_23 (fun c23 => ?_) (fun c23 => ?_)
    · have h := h.1 c23
      refine qr_aload_n 29 30 rfl (x := 178) rfl dX12_link_29 ?_
      refine qw_U 30 33 rfl (av := []) ca_X12_laysFaces wm_1615 wp_102 wm_1613 ck12 (by decide +kernel) rfl rfl (Nat.le_of_ble_eq_true rfl) dX12_link_30 h (fun M6 h => ?_)
      refine qr_iload_n 33 34 rfl (x := x2) rfl dX12_link_33 ?_
      refine qr_if_ne 34 37 49 rfl (by decide) dX12_link_34 (fun c34 => ?_) (fun c34 => ?_)
      · have h := h.1 c34
        refine qr_iload_n 49 50 rfl (x := x2) rfl dX12_link_49 ?_
        refine qr_iconst 50 51 rfl (q_l32 _ rfl) dX12_link_50 ?_
        refine qr_icmp_ne 51 54 66 rfl (by decide) dX12_link_51 (fun c51 => ?_) (fun c51 => ?_)
        · have h := h.1 c51
          refine qr_aload_n 66 67 rfl (x := 178) rfl dX12_link_66 ?_
          refine qr_getF 67 70 rfl ck12 20 (by decide) (b := 188) (by decide +kernel) rfl (by decide +kernel) (by decide +kernel) wm_1346 rfl dX12_link_67 ?_
          refine qr_iconst 70 71 rfl (q_l32 _ rfl) dX12_link_70 ?_
          refine qr_iload_n 71 72 rfl (x := x1) rfl dX12_link_71 ?_
          refine qr_imul 72 73 rfl dX12_link_72 ?_
          refine qr_iload_n 73 74 rfl (x := x2) rfl dX12_link_73 ?_
          refine qr_iadd 74 75 rfl dX12_link_74 ?_
          refine qr_iconst 75 76 rfl (q_l32 _ rfl) dX12_link_75 ?_
          refine qr_isub 76 77 rfl dX12_link_76 ?_
          have hb7 := h.1
          have h := h.2
          refine qi_ld 77 78 rfl (N := 32) (by decide +kernel) (by decide +kernel) hb7.1 hb7.2 dX12_link_77 ?_
          exact qe_i 78 rfl dX12_link_78 h
        · have h := h.2 c51
          refine qr_aload_n 54 55 rfl (x := 178) rfl dX12_link_54 ?_
          refine qr_getF 55 58 rfl ck12 1 (by decide) (b := 179) (by decide +kernel) rfl (by decide +kernel) (by decide +kernel) wm_1327 rfl dX12_link_55 ?_
          refine qr_bipush 58 60 rfl (q_l32 _ rfl) (by decide) dX12_link_58 ?_
          refine qr_iload_n 60 61 rfl (x := x1) rfl dX12_link_60 ?_
          refine qr_iadd 61 62 rfl dX12_link_61 ?_
          have hb8 := h.1
          have h := h.2
          refine qi_ld 62 63 rfl (N := 4512) (by decide +kernel) (by decide +kernel) hb8.1 hb8.2 dX12_link_62 ?_
          refine qr_goto 63 78 (by decide) dX12_link_63 ?_
          exact qe_i 78 rfl dX12_link_78 h
      · have h := h.2 c34
        refine qr_aload_n 37 38 rfl (x := 178) rfl dX12_link_37 ?_
        refine qr_getF 38 41 rfl ck12 1 (by decide) (b := 179) (by decide +kernel) rfl (by decide +kernel) (by decide +kernel) wm_1327 rfl dX12_link_38 ?_
        refine qr_bipush 41 43 rfl (q_l32 _ rfl) (by decide) dX12_link_41 ?_
        refine qr_iload_n 43 44 rfl (x := x1) rfl dX12_link_43 ?_
        refine qr_iadd 44 45 rfl dX12_link_44 ?_
        have hb9 := h.1
        have h := h.2
        refine qi_ld 45 46 rfl (N := 4512) (by decide +kernel) (by decide +kernel) hb9.1 hb9.2 dX12_link_45 ?_
        refine qr_goto 46 78 (by decide) dX12_link_46 ?_
        exact qe_i 78 rfl dX12_link_78 h
    · have h := h.2 c23
      refine qr_bipush 26 28 rfl (q_l32 _ rfl) (by decide) dX12_link_26 ?_
      exact qe_i 28 rfl dX12_link_28 h
theorem dX12_weight_0 : decode cX12_weight 0 = .ok (.aload_n 0, 1) := by decide +kernel
theorem dX12_weight_1 : decode cX12_weight 1 = .ok (.iconst 0, 1) := by decide +kernel
theorem dX12_weight_2 : decode cX12_weight 2 = .ok (.putfield 1, 3) := by decide +kernel
theorem dX12_weight_5 : decode cX12_weight 5 = .ok (.aload_n 0, 1) := by decide +kernel
theorem dX12_weight_6 : decode cX12_weight 6 = .ok (.iload_n 1, 1) := by decide +kernel
theorem dX12_weight_7 : decode cX12_weight 7 = .ok (.i2l, 1) := by decide +kernel
theorem dX12_weight_8 : decode cX12_weight 8 = .ok (.invokevirtual 296, 3) := by decide +kernel
theorem dX12_weight_11 : decode cX12_weight 11 = .ok (.ifCond .eq 17, 3) := by decide +kernel
theorem dX12_weight_14 : decode cX12_weight 14 = .ok (.aload_n 0, 1) := by decide +kernel
theorem dX12_weight_15 : decode cX12_weight 15 = .ok (.iload_n 1, 1) := by decide +kernel
theorem dX12_weight_16 : decode cX12_weight 16 = .ok (.aload_n 0, 1) := by decide +kernel
theorem dX12_weight_17 : decode cX12_weight 17 = .ok (.getfield 13, 3) := by decide +kernel
theorem dX12_weight_20 : decode cX12_weight 20 = .ok (.iconst 1, 1) := by decide +kernel
theorem dX12_weight_21 : decode cX12_weight 21 = .ok (.iaload, 1) := by decide +kernel
theorem dX12_weight_22 : decode cX12_weight 22 = .ok (.invokevirtual 260, 3) := by decide +kernel
theorem dX12_weight_25 : decode cX12_weight 25 = .ok (.goto 6, 3) := by decide +kernel
theorem dX12_weight_28 : decode cX12_weight 28 = .ok (.ldc_w 302, 3) := by decide +kernel
theorem dX12_weight_31 : decode cX12_weight 31 = .ok (.ireturn, 1) := by decide +kernel
theorem bX12_weight_0 {d : Nat} {P : Int → q_Mem → Prop} {M : q_Mem} (x1 : Int) (h : (∀ M1 : q_Mem, M1 = q_up M 178 0 0 → q_kI yX12_isLink mX12_isLink d [qR 178, qL x1] M1 (fun v3 M2 => ((v3 = 0) → P (-99000002) M2) ∧ ((¬ (v3 = 0)) → (q_kI yX12_weightOf mX12_weightOf d [qR 178, qI x1, qI (M2 179 1)] M2 (fun v5 M4 => P v5 M4)))))) : q_v mX12_weight d (qPI P) M 0 [some (qR 178), some (qI x1)] [] := by
  refine qr_aload_n 0 1 rfl (x := 178) rfl dX12_weight_0 ?_
  refine qr_iconst 1 2 rfl (q_l32 _ rfl) dX12_weight_1 ?_
  refine qp_i 2 5 rfl ck12 0 (kk := 0) (by decide) (by decide +kernel) (by decide) rfl rfl wm_1326 rfl dX12_weight_2 (fun M1 e_M1 => ?_)
  have h := h M1 e_M1
  refine qr_aload_n 5 6 rfl (x := 178) rfl dX12_weight_5 ?_
  refine qr_iload_n 6 7 rfl (x := x1) rfl dX12_weight_6 ?_
  refine qr_i2l 7 8 rfl dX12_weight_7 ?_
  refine qw_I 8 11 rfl (av := [qL x1]) ca_X12_isLink wm_1610 wp_101 wm_1608 ck12 (by decide +kernel) rfl rfl (Nat.le_of_ble_eq_true rfl) dX12_weight_8 h (fun v3 M2 h => ?_)
  refine qr_if_eq 11 14 28 rfl (by decide) dX12_weight_11 (fun c11 => ?_) (fun c11 => ?_)
  · have h := h.1 c11
    refine qr_ldc_w 28 31 rfl (v := (-99000002)) (q_l32 _ rfl) wm_1649 dX12_weight_28 ?_
    exact qe_i 31 rfl dX12_weight_31 h
  · have h := h.2 c11
    refine qr_aload_n 14 15 rfl (x := 178) rfl dX12_weight_14 ?_
    refine qr_iload_n 15 16 rfl (x := x1) rfl dX12_weight_15 ?_
    refine qr_aload_n 16 17 rfl (x := 178) rfl dX12_weight_16 ?_
    refine qr_getF 17 20 rfl ck12 1 (by decide) (b := 179) (by decide +kernel) rfl (by decide +kernel) (by decide +kernel) wm_1327 rfl dX12_weight_17 ?_
    refine qr_iconst 20 21 rfl (q_l32 _ rfl) dX12_weight_20 ?_
    refine qi_ld 21 22 rfl (N := 4512) (by decide +kernel) (by decide +kernel) (by decide) (by decide) dX12_weight_21 ?_
    refine qw_I 22 25 rfl (av := [qI x1, qI (M2 179 1)]) ca_X12_weightOf wm_1638 wp_106 wm_1636 ck12 (by decide +kernel) rfl rfl (Nat.le_of_ble_eq_true rfl) dX12_weight_22 h (fun v5 M4 h => ?_)
    refine qr_goto 25 31 (by decide) dX12_weight_25 ?_
    exact qe_i 31 rfl dX12_weight_31 h
theorem dX12_round_0 : decode cX12_round 0 = .ok (.aload_n 0, 1) := by decide +kernel
theorem dX12_round_1 : decode cX12_round 1 = .ok (.iconst 0, 1) := by decide +kernel
theorem dX12_round_2 : decode cX12_round 2 = .ok (.putfield 1, 3) := by decide +kernel
theorem dX12_round_5 : decode cX12_round 5 = .ok (.aload_n 0, 1) := by decide +kernel
theorem dX12_round_6 : decode cX12_round 6 = .ok (.iload_n 1, 1) := by decide +kernel
theorem dX12_round_7 : decode cX12_round 7 = .ok (.i2l, 1) := by decide +kernel
theorem dX12_round_8 : decode cX12_round 8 = .ok (.invokevirtual 303, 3) := by decide +kernel
theorem dX12_round_11 : decode cX12_round 11 = .ok (.ifCond .ne 6, 3) := by decide +kernel
theorem dX12_round_14 : decode cX12_round 14 = .ok (.bipush (-2), 2) := by decide +kernel
theorem dX12_round_16 : decode cX12_round 16 = .ok (.ireturn, 1) := by decide +kernel
theorem dX12_round_17 : decode cX12_round 17 = .ok (.iload_n 2, 1) := by decide +kernel
theorem dX12_round_18 : decode cX12_round 18 = .ok (.ifCond .ge 6, 3) := by decide +kernel
theorem dX12_round_21 : decode cX12_round 21 = .ok (.bipush (-3), 2) := by decide +kernel
theorem dX12_round_23 : decode cX12_round 23 = .ok (.ireturn, 1) := by decide +kernel
theorem dX12_round_24 : decode cX12_round 24 = .ok (.iload_n 2, 1) := by decide +kernel
theorem dX12_round_25 : decode cX12_round 25 = .ok (.aload_n 0, 1) := by decide +kernel
theorem dX12_round_26 : decode cX12_round 26 = .ok (.iload_n 1, 1) := by decide +kernel
theorem dX12_round_27 : decode cX12_round 27 = .ok (.invokevirtual 278, 3) := by decide +kernel
theorem dX12_round_30 : decode cX12_round 30 = .ok (.if_icmp .ge 25, 3) := by decide +kernel
theorem dX12_round_33 : decode cX12_round 33 = .ok (.aload_n 0, 1) := by decide +kernel
theorem dX12_round_34 : decode cX12_round 34 = .ok (.getfield 13, 3) := by decide +kernel
theorem dX12_round_37 : decode cX12_round 37 = .ok (.bipush 19, 2) := by decide +kernel
theorem dX12_round_39 : decode cX12_round 39 = .ok (.aload_n 0, 1) := by decide +kernel
theorem dX12_round_40 : decode cX12_round 40 = .ok (.getfield 13, 3) := by decide +kernel
theorem dX12_round_43 : decode cX12_round 43 = .ok (.bipush 85, 2) := by decide +kernel
theorem dX12_round_45 : decode cX12_round 45 = .ok (.iload_n 1, 1) := by decide +kernel
theorem dX12_round_46 : decode cX12_round 46 = .ok (.iadd, 1) := by decide +kernel
theorem dX12_round_47 : decode cX12_round 47 = .ok (.iaload, 1) := by decide +kernel
theorem dX12_round_48 : decode cX12_round 48 = .ok (.iadd, 1) := by decide +kernel
theorem dX12_round_49 : decode cX12_round 49 = .ok (.iload_n 2, 1) := by decide +kernel
theorem dX12_round_50 : decode cX12_round 50 = .ok (.iadd, 1) := by decide +kernel
theorem dX12_round_51 : decode cX12_round 51 = .ok (.iaload, 1) := by decide +kernel
theorem dX12_round_52 : decode cX12_round 52 = .ok (.goto 4, 3) := by decide +kernel
theorem dX12_round_55 : decode cX12_round 55 = .ok (.iconst (-1), 1) := by decide +kernel
theorem dX12_round_56 : decode cX12_round 56 = .ok (.ireturn, 1) := by decide +kernel
theorem bX12_round_0 {d : Nat} {P : Int → q_Mem → Prop} {M : q_Mem} (x1 x2 : Int) (h : (∀ M1 : q_Mem, M1 = q_up M 178 0 0 → q_kI yX12_isNode mX12_isNode d [qR 178, qL x1] M1 (fun v3 M2 => ((¬ v3 = 0) → ((0 ≤ x2) → q_kI yX12_degreeOf mX12_degreeOf d [qR 178, qI x1] M2 (fun v5 M4 => ((v5 ≤ x2) → P (-1) M4) ∧ ((¬ (v5 ≤ x2)) → (0 ≤ (q_add 85 x1) ∧ (q_add 85 x1) < (4512 : Int)) ∧ ((0 ≤ (q_add (q_add 19 (M4 179 (q_add 85 x1))) x2) ∧ (q_add (q_add 19 (M4 179 (q_add 85 x1))) x2) < (4512 : Int)) ∧ (P (M4 179 (q_add (q_add 19 (M4 179 (q_add 85 x1))) x2)) M4))))) ∧ ((¬ (0 ≤ x2)) → P (-3) M2)) ∧ ((v3 = 0) → P (-2) M2)))) : q_v mX12_round d (qPI P) M 0 [some (qR 178), some (qI x1), some (qI x2)] [] := by
  refine qr_aload_n 0 1 rfl (x := 178) rfl dX12_round_0 ?_
  refine qr_iconst 1 2 rfl (q_l32 _ rfl) dX12_round_1 ?_
  refine qp_i 2 5 rfl ck12 0 (kk := 0) (by decide) (by decide +kernel) (by decide) rfl rfl wm_1326 rfl dX12_round_2 (fun M1 e_M1 => ?_)
  have h := h M1 e_M1
  refine qr_aload_n 5 6 rfl (x := 178) rfl dX12_round_5 ?_
  refine qr_iload_n 6 7 rfl (x := x1) rfl dX12_round_6 ?_
  refine qr_i2l 7 8 rfl dX12_round_7 ?_
  refine qw_I 8 11 rfl (av := [qL x1]) ca_X12_isNode wm_1656 wp_108 wm_1654 ck12 (by decide +kernel) rfl rfl (Nat.le_of_ble_eq_true rfl) dX12_round_8 h (fun v3 M2 h => ?_)
  refine qr_if_ne 11 14 17 rfl (by decide) dX12_round_11 (fun c11 => ?_) (fun c11 => ?_)
  · have h := h.1 c11
    refine qr_iload_n 17 18 rfl (x := x2) rfl dX12_round_17 ?_
    refine qr_if_ge 18 21 24 rfl (by decide) dX12_round_18 (fun c18 => ?_) (fun c18 => ?_)
    · have h := h.1 c18
      refine qr_iload_n 24 25 rfl (x := x2) rfl dX12_round_24 ?_
      refine qr_aload_n 25 26 rfl (x := 178) rfl dX12_round_25 ?_
      refine qr_iload_n 26 27 rfl (x := x1) rfl dX12_round_26 ?_
      refine qw_I 27 30 rfl (av := [qI x1]) ca_X12_degreeOf wm_1630 wp_105 wm_1628 ck12 (by decide +kernel) rfl rfl (Nat.le_of_ble_eq_true rfl) dX12_round_27 h (fun v5 M4 h => ?_)
      refine qr_icmp_ge 30 33 55 rfl (by decide) dX12_round_30 (fun c30 => ?_) (fun c30 => ?_)
      · have h := h.1 c30
        refine qr_iconst 55 56 rfl (q_l32 _ rfl) dX12_round_55 ?_
        exact qe_i 56 rfl dX12_round_56 h
      · have h := h.2 c30
        refine qr_aload_n 33 34 rfl (x := 178) rfl dX12_round_33 ?_
        refine qr_getF 34 37 rfl ck12 1 (by decide) (b := 179) (by decide +kernel) rfl (by decide +kernel) (by decide +kernel) wm_1327 rfl dX12_round_34 ?_
        refine qr_bipush 37 39 rfl (q_l32 _ rfl) (by decide) dX12_round_37 ?_
        refine qr_aload_n 39 40 rfl (x := 178) rfl dX12_round_39 ?_
        refine qr_getF 40 43 rfl ck12 1 (by decide) (b := 179) (by decide +kernel) rfl (by decide +kernel) (by decide +kernel) wm_1327 rfl dX12_round_40 ?_
        refine qr_bipush 43 45 rfl (q_l32 _ rfl) (by decide) dX12_round_43 ?_
        refine qr_iload_n 45 46 rfl (x := x1) rfl dX12_round_45 ?_
        refine qr_iadd 46 47 rfl dX12_round_46 ?_
        have hb6 := h.1
        have h := h.2
        refine qi_ld 47 48 rfl (N := 4512) (by decide +kernel) (by decide +kernel) hb6.1 hb6.2 dX12_round_47 ?_
        refine qr_iadd 48 49 rfl dX12_round_48 ?_
        refine qr_iload_n 49 50 rfl (x := x2) rfl dX12_round_49 ?_
        refine qr_iadd 50 51 rfl dX12_round_50 ?_
        have hb7 := h.1
        have h := h.2
        refine qi_ld 51 52 rfl (N := 4512) (by decide +kernel) (by decide +kernel) hb7.1 hb7.2 dX12_round_51 ?_
        refine qr_goto 52 56 (by decide) dX12_round_52 ?_
        exact qe_i 56 rfl dX12_round_56 h
    · have h := h.2 c18
      refine qr_bipush 21 23 rfl (q_l32 _ rfl) (by decide) dX12_round_21 ?_
      exact qe_i 23 rfl dX12_round_23 h
  · have h := h.2 c11
    refine qr_bipush 14 16 rfl (q_l32 _ rfl) (by decide) dX12_round_14 ?_
    exact qe_i 16 rfl dX12_round_16 h
theorem dX12_next_0 : decode cX12_next 0 = .ok (.aload_n 0, 1) := by decide +kernel
theorem dX12_next_1 : decode cX12_next 1 = .ok (.iconst 0, 1) := by decide +kernel
theorem dX12_next_2 : decode cX12_next 2 = .ok (.putfield 1, 3) := by decide +kernel
theorem dX12_next_5 : decode cX12_next 5 = .ok (.iload_n 1, 1) := by decide +kernel
theorem dX12_next_6 : decode cX12_next 6 = .ok (.i2l, 1) := by decide +kernel
theorem dX12_next_7 : decode cX12_next 7 = .ok (.lconst 0, 1) := by decide +kernel
theorem dX12_next_8 : decode cX12_next 8 = .ok (.iconst 2, 1) := by decide +kernel
theorem dX12_next_9 : decode cX12_next 9 = .ok (.aload_n 0, 1) := by decide +kernel
theorem dX12_next_10 : decode cX12_next 10 = .ok (.getfield 13, 3) := by decide +kernel
theorem dX12_next_13 : decode cX12_next 13 = .ok (.bipush 52, 2) := by decide +kernel
theorem dX12_next_15 : decode cX12_next 15 = .ok (.iaload, 1) := by decide +kernel
theorem dX12_next_16 : decode cX12_next 16 = .ok (.imul, 1) := by decide +kernel
theorem dX12_next_17 : decode cX12_next 17 = .ok (.iconst 1, 1) := by decide +kernel
theorem dX12_next_18 : decode cX12_next 18 = .ok (.isub, 1) := by decide +kernel
theorem dX12_next_19 : decode cX12_next 19 = .ok (.i2l, 1) := by decide +kernel
theorem dX12_next_20 : decode cX12_next 20 = .ok (.invokestatic 176, 3) := by decide +kernel
theorem dX12_next_23 : decode cX12_next 23 = .ok (.ifCond .eq 11, 3) := by decide +kernel
theorem dX12_next_26 : decode cX12_next 26 = .ok (.aload_n 0, 1) := by decide +kernel
theorem dX12_next_27 : decode cX12_next 27 = .ok (.iload_n 1, 1) := by decide +kernel
theorem dX12_next_28 : decode cX12_next 28 = .ok (.invokevirtual 284, 3) := by decide +kernel
theorem dX12_next_31 : decode cX12_next 31 = .ok (.goto 5, 3) := by decide +kernel
theorem dX12_next_34 : decode cX12_next 34 = .ok (.bipush (-2), 2) := by decide +kernel
theorem dX12_next_36 : decode cX12_next 36 = .ok (.ireturn, 1) := by decide +kernel
theorem bX12_next_0 {d : Nat} {P : Int → q_Mem → Prop} {M : q_Mem} (x1 : Int) (h : (∀ M1 : q_Mem, M1 = q_up M 178 0 0 → (q_kI yX12_within mX12_within d [qL x1, qL 0, qL (q_sub (q_mul 2 (M1 179 52)) 1)] M1 (fun v3 M2 => ((v3 = 0) → P (-2) M2) ∧ ((¬ (v3 = 0)) → q_kI yX12_nextOf mX12_nextOf d [qR 178, qI x1] M2 (fun v5 M4 => P v5 M4)))))) : q_v mX12_next d (qPI P) M 0 [some (qR 178), some (qI x1)] [] := by
  refine qr_aload_n 0 1 rfl (x := 178) rfl dX12_next_0 ?_
  refine qr_iconst 1 2 rfl (q_l32 _ rfl) dX12_next_1 ?_
  refine qp_i 2 5 rfl ck12 0 (kk := 0) (by decide) (by decide +kernel) (by decide) rfl rfl wm_1326 rfl dX12_next_2 (fun M1 e_M1 => ?_)
  have h := h M1 e_M1
  refine qr_iload_n 5 6 rfl (x := x1) rfl dX12_next_5 ?_
  refine qr_i2l 6 7 rfl dX12_next_6 ?_
  refine qr_lconst 7 8 rfl (w := 0) (q_l64 _ rfl) (by decide) dX12_next_7 ?_
  refine qr_iconst 8 9 rfl (q_l32 _ rfl) dX12_next_8 ?_
  refine qr_aload_n 9 10 rfl (x := 178) rfl dX12_next_9 ?_
  refine qr_getF 10 13 rfl ck12 1 (by decide) (b := 179) (by decide +kernel) rfl (by decide +kernel) (by decide +kernel) wm_1327 rfl dX12_next_10 ?_
  refine qr_bipush 13 15 rfl (q_l32 _ rfl) (by decide) dX12_next_13 ?_
  refine qi_ld 15 16 rfl (N := 4512) (by decide +kernel) (by decide +kernel) (by decide) (by decide) dX12_next_15 ?_
  refine qr_imul 16 17 rfl dX12_next_16 ?_
  refine qr_iconst 17 18 rfl (q_l32 _ rfl) dX12_next_17 ?_
  refine qr_isub 18 19 rfl dX12_next_18 ?_
  refine qr_i2l 19 20 rfl dX12_next_19 ?_
  refine qs_I 20 23 rfl (av := [qL x1, qL 0, qL (q_sub (q_mul 2 (M1 179 52)) 1)]) ca_X12_within wm_1481 wm_1480 rfl rfl (Nat.le_of_ble_eq_true rfl) dX12_next_20 h (fun v3 M2 h => ?_)
  refine qr_if_eq 23 26 34 rfl (by decide) dX12_next_23 (fun c23 => ?_) (fun c23 => ?_)
  · have h := h.1 c23
    refine qr_bipush 34 36 rfl (q_l32 _ rfl) (by decide) dX12_next_34 ?_
    exact qe_i 36 rfl dX12_next_36 h
  · have h := h.2 c23
    refine qr_aload_n 26 27 rfl (x := 178) rfl dX12_next_26 ?_
    refine qr_iload_n 27 28 rfl (x := x1) rfl dX12_next_27 ?_
    refine qw_I 28 31 rfl (av := [qI x1]) ca_X12_nextOf wm_1619 wp_103 wm_1617 ck12 (by decide +kernel) rfl rfl (Nat.le_of_ble_eq_true rfl) dX12_next_28 h (fun v5 M4 h => ?_)
    refine qr_goto 31 36 (by decide) dX12_next_31 ?_
    exact qe_i 36 rfl dX12_next_36 h
theorem dX12_stores_0 : decode cX12_stores 0 = .ok (.iconst 0, 1) := by decide +kernel
theorem dX12_stores_1 : decode cX12_stores 1 = .ok (.istore_n 1, 1) := by decide +kernel
theorem dX12_stores_2 : decode cX12_stores 2 = .ok (.iload_n 1, 1) := by decide +kernel
theorem dX12_stores_3 : decode cX12_stores 3 = .ok (.bipush 50, 2) := by decide +kernel
theorem dX12_stores_5 : decode cX12_stores 5 = .ok (.if_icmp .ge 23, 3) := by decide +kernel
theorem dX12_stores_8 : decode cX12_stores 8 = .ok (.aload_n 0, 1) := by decide +kernel
theorem dX12_stores_9 : decode cX12_stores 9 = .ok (.getfield 60, 3) := by decide +kernel
theorem dX12_stores_12 : decode cX12_stores 12 = .ok (.iload_n 1, 1) := by decide +kernel
theorem dX12_stores_13 : decode cX12_stores 13 = .ok (.aload_n 0, 1) := by decide +kernel
theorem dX12_stores_14 : decode cX12_stores 14 = .ok (.getfield 13, 3) := by decide +kernel
theorem dX12_stores_17 : decode cX12_stores 17 = .ok (.iconst 1, 1) := by decide +kernel
theorem dX12_stores_18 : decode cX12_stores 18 = .ok (.iload_n 1, 1) := by decide +kernel
theorem dX12_stores_19 : decode cX12_stores 19 = .ok (.iadd, 1) := by decide +kernel
theorem dX12_stores_20 : decode cX12_stores 20 = .ok (.iaload, 1) := by decide +kernel
theorem dX12_stores_21 : decode cX12_stores 21 = .ok (.iastore, 1) := by decide +kernel
theorem dX12_stores_22 : decode cX12_stores 22 = .ok (.iinc 1 1, 3) := by decide +kernel
theorem dX12_stores_25 : decode cX12_stores 25 = .ok (.goto (-23), 3) := by decide +kernel
theorem dX12_stores_28 : decode cX12_stores 28 = .ok (.return_, 1) := by decide +kernel
theorem bX12_stores_0 {d : Nat} {P : q_Mem → Prop} {M : q_Mem} (h : q_v mX12_stores d (qPU P) M 2 [some (qR 178), some (qI 0)] []) : q_v mX12_stores d (qPU P) M 0 [some (qR 178), none] [] := by
  refine qr_iconst 0 1 rfl (q_l32 _ rfl) dX12_stores_0 ?_
  refine qr_istore_n 1 2 rfl (by decide) rfl rfl dX12_stores_1 ?_
  exact h
theorem bX12_stores_2 {d : Nat} {P : q_Mem → Prop} {M : q_Mem} (x1 : Int) (h : (((50 : Int) ≤ x1) → P M) ∧ ((¬ ((50 : Int) ≤ x1)) → (0 ≤ (q_add 1 x1) ∧ (q_add 1 x1) < (4512 : Int)) ∧ ((0 ≤ x1 ∧ x1 < (50 : Int)) ∧ (∀ M3 : q_Mem, M3 = q_up M 193 x1 (M 179 (q_add 1 x1)) → q_v mX12_stores d (qPU P) M3 2 [some (qR 178), some (qI (q_add x1 1))] [])))) : q_v mX12_stores d (qPU P) M 2 [some (qR 178), some (qI x1)] [] := by
  refine qr_iload_n 2 3 rfl (x := x1) rfl dX12_stores_2 ?_
  refine qr_bipush 3 5 rfl (q_l32 _ rfl) (by decide) dX12_stores_3 ?_
  refine qr_icmp_ge 5 8 28 rfl (by decide) dX12_stores_5 (fun c5 => ?_) (fun c5 => ?_)
  · have h := h.1 c5
    exact qe_u 28 rfl dX12_stores_28 h
  · have h := h.2 c5
    refine qr_aload_n 8 9 rfl (x := 178) rfl dX12_stores_8 ?_
    refine qr_getF 9 12 rfl ck12 27 (by decide) (b := 193) (by decide +kernel) rfl (by decide +kernel) (by decide +kernel) wm_1353 rfl dX12_stores_9 ?_
    refine qr_iload_n 12 13 rfl (x := x1) rfl dX12_stores_12 ?_
    refine qr_aload_n 13 14 rfl (x := 178) rfl dX12_stores_13 ?_
    refine qr_getF 14 17 rfl ck12 1 (by decide) (b := 179) (by decide +kernel) rfl (by decide +kernel) (by decide +kernel) wm_1327 rfl dX12_stores_14 ?_
    refine qr_iconst 17 18 rfl (q_l32 _ rfl) dX12_stores_17 ?_
    refine qr_iload_n 18 19 rfl (x := x1) rfl dX12_stores_18 ?_
    refine qr_iadd 19 20 rfl dX12_stores_19 ?_
    have hb1 := h.1
    have h := h.2
    refine qi_ld 20 21 rfl (N := 4512) (by decide +kernel) (by decide +kernel) hb1.1 hb1.2 dX12_stores_20 ?_
    have hb2 := h.1
    have h := h.2
    refine qi_st 21 22 rfl (N := 50) (by decide +kernel) (by decide +kernel) hb2.1 hb2.2 dX12_stores_21 (fun M3 e_M3 => ?_)
    have h := h M3 e_M3
    refine qr_iinc 22 25 rfl (by decide) (x := x1) rfl rfl rfl dX12_stores_22 ?_
    refine qr_goto 25 2 (by decide) dX12_stores_25 ?_
    exact h
theorem dX12_isAgain_0 : decode cX12_isAgain 0 = .ok (.iconst 0, 1) := by decide +kernel
theorem dX12_isAgain_1 : decode cX12_isAgain 1 = .ok (.istore_n 1, 1) := by decide +kernel
theorem dX12_isAgain_2 : decode cX12_isAgain 2 = .ok (.iload_n 1, 1) := by decide +kernel
theorem dX12_isAgain_3 : decode cX12_isAgain 3 = .ok (.bipush 50, 2) := by decide +kernel
theorem dX12_isAgain_5 : decode cX12_isAgain 5 = .ok (.if_icmp .ge 23, 3) := by decide +kernel
theorem dX12_isAgain_8 : decode cX12_isAgain 8 = .ok (.aload_n 0, 1) := by decide +kernel
theorem dX12_isAgain_9 : decode cX12_isAgain 9 = .ok (.getfield 13, 3) := by decide +kernel
theorem dX12_isAgain_12 : decode cX12_isAgain 12 = .ok (.iconst 1, 1) := by decide +kernel
theorem dX12_isAgain_13 : decode cX12_isAgain 13 = .ok (.iload_n 1, 1) := by decide +kernel
theorem dX12_isAgain_14 : decode cX12_isAgain 14 = .ok (.iadd, 1) := by decide +kernel
theorem dX12_isAgain_15 : decode cX12_isAgain 15 = .ok (.aload_n 0, 1) := by decide +kernel
theorem dX12_isAgain_16 : decode cX12_isAgain 16 = .ok (.getfield 60, 3) := by decide +kernel
theorem dX12_isAgain_19 : decode cX12_isAgain 19 = .ok (.iload_n 1, 1) := by decide +kernel
theorem dX12_isAgain_20 : decode cX12_isAgain 20 = .ok (.iaload, 1) := by decide +kernel
theorem dX12_isAgain_21 : decode cX12_isAgain 21 = .ok (.iastore, 1) := by decide +kernel
theorem dX12_isAgain_22 : decode cX12_isAgain 22 = .ok (.iinc 1 1, 3) := by decide +kernel
theorem dX12_isAgain_25 : decode cX12_isAgain 25 = .ok (.goto (-23), 3) := by decide +kernel
theorem dX12_isAgain_28 : decode cX12_isAgain 28 = .ok (.return_, 1) := by decide +kernel
theorem bX12_isAgain_0 {d : Nat} {P : q_Mem → Prop} {M : q_Mem} (h : q_v mX12_isAgain d (qPU P) M 2 [some (qR 178), some (qI 0)] []) : q_v mX12_isAgain d (qPU P) M 0 [some (qR 178), none] [] := by
  refine qr_iconst 0 1 rfl (q_l32 _ rfl) dX12_isAgain_0 ?_
  refine qr_istore_n 1 2 rfl (by decide) rfl rfl dX12_isAgain_1 ?_
  exact h
theorem bX12_isAgain_2 {d : Nat} {P : q_Mem → Prop} {M : q_Mem} (x1 : Int) (h : (((50 : Int) ≤ x1) → P M) ∧ ((¬ ((50 : Int) ≤ x1)) → (0 ≤ x1 ∧ x1 < (50 : Int)) ∧ ((0 ≤ (q_add 1 x1) ∧ (q_add 1 x1) < (4512 : Int)) ∧ (∀ M3 : q_Mem, M3 = q_up M 179 (q_add 1 x1) (M 193 x1) → q_v mX12_isAgain d (qPU P) M3 2 [some (qR 178), some (qI (q_add x1 1))] [])))) : q_v mX12_isAgain d (qPU P) M 2 [some (qR 178), some (qI x1)] [] := by
  refine qr_iload_n 2 3 rfl (x := x1) rfl dX12_isAgain_2 ?_
  refine qr_bipush 3 5 rfl (q_l32 _ rfl) (by decide) dX12_isAgain_3 ?_
  refine qr_icmp_ge 5 8 28 rfl (by decide) dX12_isAgain_5 (fun c5 => ?_) (fun c5 => ?_)
  · have h := h.1 c5
    exact qe_u 28 rfl dX12_isAgain_28 h
  · have h := h.2 c5
    refine qr_aload_n 8 9 rfl (x := 178) rfl dX12_isAgain_8 ?_
    refine qr_getF 9 12 rfl ck12 1 (by decide) (b := 179) (by decide +kernel) rfl (by decide +kernel) (by decide +kernel) wm_1327 rfl dX12_isAgain_9 ?_
    refine qr_iconst 12 13 rfl (q_l32 _ rfl) dX12_isAgain_12 ?_
    refine qr_iload_n 13 14 rfl (x := x1) rfl dX12_isAgain_13 ?_
    refine qr_iadd 14 15 rfl dX12_isAgain_14 ?_
    refine qr_aload_n 15 16 rfl (x := 178) rfl dX12_isAgain_15 ?_
    refine qr_getF 16 19 rfl ck12 27 (by decide) (b := 193) (by decide +kernel) rfl (by decide +kernel) (by decide +kernel) wm_1353 rfl dX12_isAgain_16 ?_
    refine qr_iload_n 19 20 rfl (x := x1) rfl dX12_isAgain_19 ?_
    have hb1 := h.1
    have h := h.2
    refine qi_ld 20 21 rfl (N := 50) (by decide +kernel) (by decide +kernel) hb1.1 hb1.2 dX12_isAgain_20 ?_
    have hb2 := h.1
    have h := h.2
    refine qi_st 21 22 rfl (N := 4512) (by decide +kernel) (by decide +kernel) hb2.1 hb2.2 dX12_isAgain_21 (fun M3 e_M3 => ?_)
    have h := h M3 e_M3
    refine qr_iinc 22 25 rfl (by decide) (x := x1) rfl rfl rfl dX12_isAgain_22 ?_
    refine qr_goto 25 2 (by decide) dX12_isAgain_25 ?_
    exact h
theorem dX12_notes_0 : decode cX12_notes 0 = .ok (.aload_n 0, 1) := by decide +kernel
theorem dX12_notes_1 : decode cX12_notes 1 = .ok (.getfield 13, 3) := by decide +kernel
theorem dX12_notes_4 : decode cX12_notes 4 = .ok (.bipush 102, 2) := by decide +kernel
theorem dX12_notes_6 : decode cX12_notes 6 = .ok (.iaload, 1) := by decide +kernel
theorem dX12_notes_7 : decode cX12_notes 7 = .ok (.bipush 10, 2) := by decide +kernel
theorem dX12_notes_9 : decode cX12_notes 9 = .ok (.if_icmp .ne 48, 3) := by decide +kernel
theorem dX12_notes_12 : decode cX12_notes 12 = .ok (.iconst 0, 1) := by decide +kernel
theorem dX12_notes_13 : decode cX12_notes 13 = .ok (.istore_n 1, 1) := by decide +kernel
theorem dX12_notes_14 : decode cX12_notes 14 = .ok (.iload_n 1, 1) := by decide +kernel
theorem dX12_notes_15 : decode cX12_notes 15 = .ok (.sipush 450, 3) := by decide +kernel
theorem dX12_notes_18 : decode cX12_notes 18 = .ok (.if_icmp .ge 28, 3) := by decide +kernel
theorem dX12_notes_21 : decode cX12_notes 21 = .ok (.aload_n 0, 1) := by decide +kernel
theorem dX12_notes_22 : decode cX12_notes 22 = .ok (.getfield 13, 3) := by decide +kernel
theorem dX12_notes_25 : decode cX12_notes 25 = .ok (.bipush 103, 2) := by decide +kernel
theorem dX12_notes_27 : decode cX12_notes 27 = .ok (.iload_n 1, 1) := by decide +kernel
theorem dX12_notes_28 : decode cX12_notes 28 = .ok (.iadd, 1) := by decide +kernel
theorem dX12_notes_29 : decode cX12_notes 29 = .ok (.aload_n 0, 1) := by decide +kernel
theorem dX12_notes_30 : decode cX12_notes 30 = .ok (.getfield 13, 3) := by decide +kernel
theorem dX12_notes_33 : decode cX12_notes 33 = .ok (.sipush 153, 3) := by decide +kernel
theorem dX12_notes_36 : decode cX12_notes 36 = .ok (.iload_n 1, 1) := by decide +kernel
theorem dX12_notes_37 : decode cX12_notes 37 = .ok (.iadd, 1) := by decide +kernel
theorem dX12_notes_38 : decode cX12_notes 38 = .ok (.iaload, 1) := by decide +kernel
theorem dX12_notes_39 : decode cX12_notes 39 = .ok (.iastore, 1) := by decide +kernel
theorem dX12_notes_40 : decode cX12_notes 40 = .ok (.iinc 1 1, 3) := by decide +kernel
theorem dX12_notes_43 : decode cX12_notes 43 = .ok (.goto (-29), 3) := by decide +kernel
theorem dX12_notes_46 : decode cX12_notes 46 = .ok (.aload_n 0, 1) := by decide +kernel
theorem dX12_notes_47 : decode cX12_notes 47 = .ok (.getfield 13, 3) := by decide +kernel
theorem dX12_notes_50 : decode cX12_notes 50 = .ok (.bipush 102, 2) := by decide +kernel
theorem dX12_notes_52 : decode cX12_notes 52 = .ok (.dup2, 1) := by decide +kernel
theorem dX12_notes_53 : decode cX12_notes 53 = .ok (.iaload, 1) := by decide +kernel
theorem dX12_notes_54 : decode cX12_notes 54 = .ok (.iconst 1, 1) := by decide +kernel
theorem dX12_notes_55 : decode cX12_notes 55 = .ok (.isub, 1) := by decide +kernel
theorem dX12_notes_56 : decode cX12_notes 56 = .ok (.iastore, 1) := by decide +kernel
theorem dX12_notes_57 : decode cX12_notes 57 = .ok (.iconst 0, 1) := by decide +kernel
theorem dX12_notes_58 : decode cX12_notes 58 = .ok (.istore_n 1, 1) := by decide +kernel
theorem dX12_notes_59 : decode cX12_notes 59 = .ok (.iload_n 1, 1) := by decide +kernel
theorem dX12_notes_60 : decode cX12_notes 60 = .ok (.bipush 50, 2) := by decide +kernel
theorem dX12_notes_62 : decode cX12_notes 62 = .ok (.if_icmp .ge 35, 3) := by decide +kernel
theorem dX12_notes_65 : decode cX12_notes 65 = .ok (.aload_n 0, 1) := by decide +kernel
theorem dX12_notes_66 : decode cX12_notes 66 = .ok (.getfield 13, 3) := by decide +kernel
theorem dX12_notes_69 : decode cX12_notes 69 = .ok (.bipush 103, 2) := by decide +kernel
theorem dX12_notes_71 : decode cX12_notes 71 = .ok (.bipush 50, 2) := by decide +kernel
theorem dX12_notes_73 : decode cX12_notes 73 = .ok (.aload_n 0, 1) := by decide +kernel
theorem dX12_notes_74 : decode cX12_notes 74 = .ok (.getfield 13, 3) := by decide +kernel
theorem dX12_notes_77 : decode cX12_notes 77 = .ok (.bipush 102, 2) := by decide +kernel
theorem dX12_notes_79 : decode cX12_notes 79 = .ok (.iaload, 1) := by decide +kernel
theorem dX12_notes_80 : decode cX12_notes 80 = .ok (.imul, 1) := by decide +kernel
theorem dX12_notes_81 : decode cX12_notes 81 = .ok (.iadd, 1) := by decide +kernel
theorem dX12_notes_82 : decode cX12_notes 82 = .ok (.iload_n 1, 1) := by decide +kernel
theorem dX12_notes_83 : decode cX12_notes 83 = .ok (.iadd, 1) := by decide +kernel
theorem dX12_notes_84 : decode cX12_notes 84 = .ok (.aload_n 0, 1) := by decide +kernel
theorem dX12_notes_85 : decode cX12_notes 85 = .ok (.getfield 60, 3) := by decide +kernel
theorem dX12_notes_88 : decode cX12_notes 88 = .ok (.iload_n 1, 1) := by decide +kernel
theorem dX12_notes_89 : decode cX12_notes 89 = .ok (.iaload, 1) := by decide +kernel
theorem dX12_notes_90 : decode cX12_notes 90 = .ok (.iastore, 1) := by decide +kernel
theorem dX12_notes_91 : decode cX12_notes 91 = .ok (.iinc 1 1, 3) := by decide +kernel
theorem dX12_notes_94 : decode cX12_notes 94 = .ok (.goto (-35), 3) := by decide +kernel
theorem dX12_notes_97 : decode cX12_notes 97 = .ok (.aload_n 0, 1) := by decide +kernel
theorem dX12_notes_98 : decode cX12_notes 98 = .ok (.getfield 13, 3) := by decide +kernel
theorem dX12_notes_101 : decode cX12_notes 101 = .ok (.bipush 102, 2) := by decide +kernel
theorem dX12_notes_103 : decode cX12_notes 103 = .ok (.dup2, 1) := by decide +kernel
theorem dX12_notes_104 : decode cX12_notes 104 = .ok (.iaload, 1) := by decide +kernel
theorem dX12_notes_105 : decode cX12_notes 105 = .ok (.iconst 1, 1) := by decide +kernel
theorem dX12_notes_106 : decode cX12_notes 106 = .ok (.iadd, 1) := by decide +kernel
theorem dX12_notes_107 : decode cX12_notes 107 = .ok (.iastore, 1) := by decide +kernel
theorem dX12_notes_108 : decode cX12_notes 108 = .ok (.return_, 1) := by decide +kernel
theorem bX12_notes_0 {d : Nat} {P : q_Mem → Prop} {M : q_Mem} (h : (((¬ (M 179 102) = (10 : Int)) → q_v mX12_notes d (qPU P) M 59 [some (qR 178), some (qI 0)] []) ∧ (((M 179 102) = (10 : Int)) → q_v mX12_notes d (qPU P) M 14 [some (qR 178), some (qI 0)] []))) : q_v mX12_notes d (qPU P) M 0 [some (qR 178), none] [] := by
  refine qr_aload_n 0 1 rfl (x := 178) rfl dX12_notes_0 ?_
  refine qr_getF 1 4 rfl ck12 1 (by decide) (b := 179) (by decide +kernel) rfl (by decide +kernel) (by decide +kernel) wm_1327 rfl dX12_notes_1 ?_
  refine qr_bipush 4 6 rfl (q_l32 _ rfl) (by decide) dX12_notes_4 ?_
  refine qi_ld 6 7 rfl (N := 4512) (by decide +kernel) (by decide +kernel) (by decide) (by decide) dX12_notes_6 ?_
  refine qr_bipush 7 9 rfl (q_l32 _ rfl) (by decide) dX12_notes_7 ?_
  refine qr_icmp_ne 9 12 57 rfl (by decide) dX12_notes_9 (fun c9 => ?_) (fun c9 => ?_)
  · have h := h.1 c9
    refine qr_iconst 57 58 rfl (q_l32 _ rfl) dX12_notes_57 ?_
    refine qr_istore_n 58 59 rfl (by decide) rfl rfl dX12_notes_58 ?_
    exact h
  · have h := h.2 c9
    refine qr_iconst 12 13 rfl (q_l32 _ rfl) dX12_notes_12 ?_
    refine qr_istore_n 13 14 rfl (by decide) rfl rfl dX12_notes_13 ?_
    exact h
theorem bX12_notes_14 {d : Nat} {P : q_Mem → Prop} {M : q_Mem} (x1 : Int) (h : (((450 : Int) ≤ x1) → ((∀ M1 : q_Mem, M1 = q_up M 179 102 (q_sub (M 179 102) 1) → q_v mX12_notes d (qPU P) M1 59 [some (qR 178), some (qI 0)] []))) ∧ ((¬ ((450 : Int) ≤ x1)) → (0 ≤ (q_add 153 x1) ∧ (q_add 153 x1) < (4512 : Int)) ∧ ((0 ≤ (q_add 103 x1) ∧ (q_add 103 x1) < (4512 : Int)) ∧ (∀ M4 : q_Mem, M4 = q_up M 179 (q_add 103 x1) (M 179 (q_add 153 x1)) → q_v mX12_notes d (qPU P) M4 14 [some (qR 178), some (qI (q_add x1 1))] [])))) : q_v mX12_notes d (qPU P) M 14 [some (qR 178), some (qI x1)] [] := by
  refine qr_iload_n 14 15 rfl (x := x1) rfl dX12_notes_14 ?_
  refine qr_sipush 15 18 rfl (q_l32 _ rfl) (by decide) dX12_notes_15 ?_
  refine qr_icmp_ge 18 21 46 rfl (by decide) dX12_notes_18 (fun c18 => ?_) (fun c18 => ?_)
  · have h := h.1 c18
    refine qr_aload_n 46 47 rfl (x := 178) rfl dX12_notes_46 ?_
    refine qr_getF 47 50 rfl ck12 1 (by decide) (b := 179) (by decide +kernel) rfl (by decide +kernel) (by decide +kernel) wm_1327 rfl dX12_notes_47 ?_
    refine qr_bipush 50 52 rfl (q_l32 _ rfl) (by decide) dX12_notes_50 ?_
    refine qr_dup2 52 53 rfl rfl rfl dX12_notes_52 ?_
    refine qi_ld 53 54 rfl (N := 4512) (by decide +kernel) (by decide +kernel) (by decide) (by decide) dX12_notes_53 ?_
    refine qr_iconst 54 55 rfl (q_l32 _ rfl) dX12_notes_54 ?_
    refine qr_isub 55 56 rfl dX12_notes_55 ?_
    refine qi_st 56 57 rfl (N := 4512) (by decide +kernel) (by decide +kernel) (by decide) (by decide) dX12_notes_56 (fun M1 e_M1 => ?_)
    have h := h M1 e_M1
    refine qr_iconst 57 58 rfl (q_l32 _ rfl) dX12_notes_57 ?_
    refine qr_istore_n 58 59 rfl (by decide) rfl rfl dX12_notes_58 ?_
    exact h
  · have h := h.2 c18
    refine qr_aload_n 21 22 rfl (x := 178) rfl dX12_notes_21 ?_
    refine qr_getF 22 25 rfl ck12 1 (by decide) (b := 179) (by decide +kernel) rfl (by decide +kernel) (by decide +kernel) wm_1327 rfl dX12_notes_22 ?_
    refine qr_bipush 25 27 rfl (q_l32 _ rfl) (by decide) dX12_notes_25 ?_
    refine qr_iload_n 27 28 rfl (x := x1) rfl dX12_notes_27 ?_
    refine qr_iadd 28 29 rfl dX12_notes_28 ?_
    refine qr_aload_n 29 30 rfl (x := 178) rfl dX12_notes_29 ?_
    refine qr_getF 30 33 rfl ck12 1 (by decide) (b := 179) (by decide +kernel) rfl (by decide +kernel) (by decide +kernel) wm_1327 rfl dX12_notes_30 ?_
    refine qr_sipush 33 36 rfl (q_l32 _ rfl) (by decide) dX12_notes_33 ?_
    refine qr_iload_n 36 37 rfl (x := x1) rfl dX12_notes_36 ?_
    refine qr_iadd 37 38 rfl dX12_notes_37 ?_
    have hb2 := h.1
    have h := h.2
    refine qi_ld 38 39 rfl (N := 4512) (by decide +kernel) (by decide +kernel) hb2.1 hb2.2 dX12_notes_38 ?_
    have hb3 := h.1
    have h := h.2
    refine qi_st 39 40 rfl (N := 4512) (by decide +kernel) (by decide +kernel) hb3.1 hb3.2 dX12_notes_39 (fun M4 e_M4 => ?_)
    have h := h M4 e_M4
    refine qr_iinc 40 43 rfl (by decide) (x := x1) rfl rfl rfl dX12_notes_40 ?_
    refine qr_goto 43 14 (by decide) dX12_notes_43 ?_
    exact h
theorem bX12_notes_59 {d : Nat} {P : q_Mem → Prop} {M : q_Mem} (x1 : Int) (h : (((50 : Int) ≤ x1) → ((∀ M1 : q_Mem, M1 = q_up M 179 102 (q_add (M 179 102) 1) → P M1))) ∧ ((¬ ((50 : Int) ≤ x1)) → ((0 ≤ x1 ∧ x1 < (50 : Int)) ∧ ((0 ≤ (q_add (q_add 103 (q_mul 50 (M 179 102))) x1) ∧ (q_add (q_add 103 (q_mul 50 (M 179 102))) x1) < (4512 : Int)) ∧ (∀ M4 : q_Mem, M4 = q_up M 179 (q_add (q_add 103 (q_mul 50 (M 179 102))) x1) (M 193 x1) → q_v mX12_notes d (qPU P) M4 59 [some (qR 178), some (qI (q_add x1 1))] []))))) : q_v mX12_notes d (qPU P) M 59 [some (qR 178), some (qI x1)] [] := by
  refine qr_iload_n 59 60 rfl (x := x1) rfl dX12_notes_59 ?_
  refine qr_bipush 60 62 rfl (q_l32 _ rfl) (by decide) dX12_notes_60 ?_
  refine qr_icmp_ge 62 65 97 rfl (by decide) dX12_notes_62 (fun c62 => ?_) (fun c62 => ?_)
  · have h := h.1 c62
    refine qr_aload_n 97 98 rfl (x := 178) rfl dX12_notes_97 ?_
    refine qr_getF 98 101 rfl ck12 1 (by decide) (b := 179) (by decide +kernel) rfl (by decide +kernel) (by decide +kernel) wm_1327 rfl dX12_notes_98 ?_
    refine qr_bipush 101 103 rfl (q_l32 _ rfl) (by decide) dX12_notes_101 ?_
    refine qr_dup2 103 104 rfl rfl rfl dX12_notes_103 ?_
    refine qi_ld 104 105 rfl (N := 4512) (by decide +kernel) (by decide +kernel) (by decide) (by decide) dX12_notes_104 ?_
    refine qr_iconst 105 106 rfl (q_l32 _ rfl) dX12_notes_105 ?_
    refine qr_iadd 106 107 rfl dX12_notes_106 ?_
    refine qi_st 107 108 rfl (N := 4512) (by decide +kernel) (by decide +kernel) (by decide) (by decide) dX12_notes_107 (fun M1 e_M1 => ?_)
    have h := h M1 e_M1
    exact qe_u 108 rfl dX12_notes_108 h
  · have h := h.2 c62
    refine qr_aload_n 65 66 rfl (x := 178) rfl dX12_notes_65 ?_
    refine qr_getF 66 69 rfl ck12 1 (by decide) (b := 179) (by decide +kernel) rfl (by decide +kernel) (by decide +kernel) wm_1327 rfl dX12_notes_66 ?_
    refine qr_bipush 69 71 rfl (q_l32 _ rfl) (by decide) dX12_notes_69 ?_
    refine qr_bipush 71 73 rfl (q_l32 _ rfl) (by decide) dX12_notes_71 ?_
    refine qr_aload_n 73 74 rfl (x := 178) rfl dX12_notes_73 ?_
    refine qr_getF 74 77 rfl ck12 1 (by decide) (b := 179) (by decide +kernel) rfl (by decide +kernel) (by decide +kernel) wm_1327 rfl dX12_notes_74 ?_
    refine qr_bipush 77 79 rfl (q_l32 _ rfl) (by decide) dX12_notes_77 ?_
    refine qi_ld 79 80 rfl (N := 4512) (by decide +kernel) (by decide +kernel) (by decide) (by decide) dX12_notes_79 ?_
    refine qr_imul 80 81 rfl dX12_notes_80 ?_
    refine qr_iadd 81 82 rfl dX12_notes_81 ?_
    refine qr_iload_n 82 83 rfl (x := x1) rfl dX12_notes_82 ?_
    refine qr_iadd 83 84 rfl dX12_notes_83 ?_
    refine qr_aload_n 84 85 rfl (x := 178) rfl dX12_notes_84 ?_
    refine qr_getF 85 88 rfl ck12 27 (by decide) (b := 193) (by decide +kernel) rfl (by decide +kernel) (by decide +kernel) wm_1353 rfl dX12_notes_85 ?_
    refine qr_iload_n 88 89 rfl (x := x1) rfl dX12_notes_88 ?_
    have hb2 := h.1
    have h := h.2
    refine qi_ld 89 90 rfl (N := 50) (by decide +kernel) (by decide +kernel) hb2.1 hb2.2 dX12_notes_89 ?_
    have hb3 := h.1
    have h := h.2
    refine qi_st 90 91 rfl (N := 4512) (by decide +kernel) (by decide +kernel) hb3.1 hb3.2 dX12_notes_90 (fun M4 e_M4 => ?_)
    have h := h M4 e_M4
    refine qr_iinc 91 94 rfl (by decide) (x := x1) rfl rfl rfl dX12_notes_91 ?_
    refine qr_goto 94 59 (by decide) dX12_notes_94 ?_
    exact h
theorem dX12_canTurn_0 : decode cX12_canTurn 0 = .ok (.aload_n 0, 1) := by decide +kernel
theorem dX12_canTurn_1 : decode cX12_canTurn 1 = .ok (.iload_n 1, 1) := by decide +kernel
theorem dX12_canTurn_2 : decode cX12_canTurn 2 = .ok (.i2l, 1) := by decide +kernel
theorem dX12_canTurn_3 : decode cX12_canTurn 3 = .ok (.invokevirtual 303, 3) := by decide +kernel
theorem dX12_canTurn_6 : decode cX12_canTurn 6 = .ok (.ifCond .eq 22, 3) := by decide +kernel
theorem dX12_canTurn_9 : decode cX12_canTurn 9 = .ok (.iload_n 2, 1) := by decide +kernel
theorem dX12_canTurn_10 : decode cX12_canTurn 10 = .ok (.ifCond .lt 18, 3) := by decide +kernel
theorem dX12_canTurn_13 : decode cX12_canTurn 13 = .ok (.iload_n 2, 1) := by decide +kernel
theorem dX12_canTurn_14 : decode cX12_canTurn 14 = .ok (.aload_n 0, 1) := by decide +kernel
theorem dX12_canTurn_15 : decode cX12_canTurn 15 = .ok (.iload_n 1, 1) := by decide +kernel
theorem dX12_canTurn_16 : decode cX12_canTurn 16 = .ok (.invokevirtual 278, 3) := by decide +kernel
theorem dX12_canTurn_19 : decode cX12_canTurn 19 = .ok (.iconst 1, 1) := by decide +kernel
theorem dX12_canTurn_20 : decode cX12_canTurn 20 = .ok (.isub, 1) := by decide +kernel
theorem dX12_canTurn_21 : decode cX12_canTurn 21 = .ok (.if_icmp .ge 7, 3) := by decide +kernel
theorem dX12_canTurn_24 : decode cX12_canTurn 24 = .ok (.iconst 1, 1) := by decide +kernel
theorem dX12_canTurn_25 : decode cX12_canTurn 25 = .ok (.goto 4, 3) := by decide +kernel
theorem dX12_canTurn_28 : decode cX12_canTurn 28 = .ok (.iconst 0, 1) := by decide +kernel
theorem dX12_canTurn_29 : decode cX12_canTurn 29 = .ok (.ireturn, 1) := by decide +kernel
theorem bX12_canTurn_0 {d : Nat} {P : Int → q_Mem → Prop} {M : q_Mem} (x1 x2 : Int) (h : q_kI yX12_isNode mX12_isNode d [qR 178, qL x1] M (fun v2 M1 => ((v2 = 0) → P 0 M1) ∧ ((¬ (v2 = 0)) → ((x2 < 0) → P 0 M1) ∧ ((¬ (x2 < 0)) → q_kI yX12_degreeOf mX12_degreeOf d [qR 178, qI x1] M1 (fun v4 M3 => (((q_sub v4 1) ≤ x2) → P 0 M3) ∧ ((¬ ((q_sub v4 1) ≤ x2)) → P 1 M3)))))) : q_v mX12_canTurn d (qPI P) M 0 [some (qR 178), some (qI x1), some (qI x2)] [] := by
  refine qr_aload_n 0 1 rfl (x := 178) rfl dX12_canTurn_0 ?_
  refine qr_iload_n 1 2 rfl (x := x1) rfl dX12_canTurn_1 ?_
  refine qr_i2l 2 3 rfl dX12_canTurn_2 ?_
  refine qw_I 3 6 rfl (av := [qL x1]) ca_X12_isNode wm_1656 wp_108 wm_1654 ck12 (by decide +kernel) rfl rfl (Nat.le_of_ble_eq_true rfl) dX12_canTurn_3 h (fun v2 M1 h => ?_)
  refine qr_if_eq 6 9 28 rfl (by decide) dX12_canTurn_6 (fun c6 => ?_) (fun c6 => ?_)
  · have h := h.1 c6
    refine qr_iconst 28 29 rfl (q_l32 _ rfl) dX12_canTurn_28 ?_
    exact qe_z 29 rfl (by decide) dX12_canTurn_29 h
  · have h := h.2 c6
    refine qr_iload_n 9 10 rfl (x := x2) rfl dX12_canTurn_9 ?_
    refine qr_if_lt 10 13 28 rfl (by decide) dX12_canTurn_10 (fun c10 => ?_) (fun c10 => ?_)
    · have h := h.1 c10
      refine qr_iconst 28 29 rfl (q_l32 _ rfl) dX12_canTurn_28 ?_
      exact qe_z 29 rfl (by decide) dX12_canTurn_29 h
    · have h := h.2 c10
      refine qr_iload_n 13 14 rfl (x := x2) rfl dX12_canTurn_13 ?_
      refine qr_aload_n 14 15 rfl (x := 178) rfl dX12_canTurn_14 ?_
      refine qr_iload_n 15 16 rfl (x := x1) rfl dX12_canTurn_15 ?_
      refine qw_I 16 19 rfl (av := [qI x1]) ca_X12_degreeOf wm_1630 wp_105 wm_1628 ck12 (by decide +kernel) rfl rfl (Nat.le_of_ble_eq_true rfl) dX12_canTurn_16 h (fun v4 M3 h => ?_)
      refine qr_iconst 19 20 rfl (q_l32 _ rfl) dX12_canTurn_19 ?_
      refine qr_isub 20 21 rfl dX12_canTurn_20 ?_
      refine qr_icmp_ge 21 24 28 rfl (by decide) dX12_canTurn_21 (fun c21 => ?_) (fun c21 => ?_)
      · have h := h.1 c21
        refine qr_iconst 28 29 rfl (q_l32 _ rfl) dX12_canTurn_28 ?_
        exact qe_z 29 rfl (by decide) dX12_canTurn_29 h
      · have h := h.2 c21
        refine qr_iconst 24 25 rfl (q_l32 _ rfl) dX12_canTurn_24 ?_
        refine qr_goto 25 29 (by decide) dX12_canTurn_25 ?_
        exact qe_z 29 rfl (by decide) dX12_canTurn_29 h
theorem dX12_turns_0 : decode cX12_turns 0 = .ok (.bipush 19, 2) := by decide +kernel
theorem dX12_turns_2 : decode cX12_turns 2 = .ok (.aload_n 0, 1) := by decide +kernel
theorem dX12_turns_3 : decode cX12_turns 3 = .ok (.getfield 13, 3) := by decide +kernel
theorem dX12_turns_6 : decode cX12_turns 6 = .ok (.bipush 85, 2) := by decide +kernel
theorem dX12_turns_8 : decode cX12_turns 8 = .ok (.iload_n 1, 1) := by decide +kernel
theorem dX12_turns_9 : decode cX12_turns 9 = .ok (.iadd, 1) := by decide +kernel
theorem dX12_turns_10 : decode cX12_turns 10 = .ok (.iaload, 1) := by decide +kernel
theorem dX12_turns_11 : decode cX12_turns 11 = .ok (.iadd, 1) := by decide +kernel
theorem dX12_turns_12 : decode cX12_turns 12 = .ok (.iload_n 2, 1) := by decide +kernel
theorem dX12_turns_13 : decode cX12_turns 13 = .ok (.iadd, 1) := by decide +kernel
theorem dX12_turns_14 : decode cX12_turns 14 = .ok (.istore_n 3, 1) := by decide +kernel
theorem dX12_turns_15 : decode cX12_turns 15 = .ok (.aload_n 0, 1) := by decide +kernel
theorem dX12_turns_16 : decode cX12_turns 16 = .ok (.getfield 13, 3) := by decide +kernel
theorem dX12_turns_19 : decode cX12_turns 19 = .ok (.iload_n 3, 1) := by decide +kernel
theorem dX12_turns_20 : decode cX12_turns 20 = .ok (.iaload, 1) := by decide +kernel
theorem dX12_turns_21 : decode cX12_turns 21 = .ok (.istore 4, 2) := by decide +kernel
theorem dX12_turns_23 : decode cX12_turns 23 = .ok (.aload_n 0, 1) := by decide +kernel
theorem dX12_turns_24 : decode cX12_turns 24 = .ok (.getfield 13, 3) := by decide +kernel
theorem dX12_turns_27 : decode cX12_turns 27 = .ok (.iload_n 3, 1) := by decide +kernel
theorem dX12_turns_28 : decode cX12_turns 28 = .ok (.aload_n 0, 1) := by decide +kernel
theorem dX12_turns_29 : decode cX12_turns 29 = .ok (.getfield 13, 3) := by decide +kernel
theorem dX12_turns_32 : decode cX12_turns 32 = .ok (.iload_n 3, 1) := by decide +kernel
theorem dX12_turns_33 : decode cX12_turns 33 = .ok (.iconst 1, 1) := by decide +kernel
theorem dX12_turns_34 : decode cX12_turns 34 = .ok (.iadd, 1) := by decide +kernel
theorem dX12_turns_35 : decode cX12_turns 35 = .ok (.iaload, 1) := by decide +kernel
theorem dX12_turns_36 : decode cX12_turns 36 = .ok (.iastore, 1) := by decide +kernel
theorem dX12_turns_37 : decode cX12_turns 37 = .ok (.aload_n 0, 1) := by decide +kernel
theorem dX12_turns_38 : decode cX12_turns 38 = .ok (.getfield 13, 3) := by decide +kernel
theorem dX12_turns_41 : decode cX12_turns 41 = .ok (.iload_n 3, 1) := by decide +kernel
theorem dX12_turns_42 : decode cX12_turns 42 = .ok (.iconst 1, 1) := by decide +kernel
theorem dX12_turns_43 : decode cX12_turns 43 = .ok (.iadd, 1) := by decide +kernel
theorem dX12_turns_44 : decode cX12_turns 44 = .ok (.iload 4, 2) := by decide +kernel
theorem dX12_turns_46 : decode cX12_turns 46 = .ok (.iastore, 1) := by decide +kernel
theorem dX12_turns_47 : decode cX12_turns 47 = .ok (.return_, 1) := by decide +kernel
theorem bX12_turns_0 {d : Nat} {P : q_Mem → Prop} {M : q_Mem} (x1 x2 : Int) (h : (0 ≤ (q_add 85 x1) ∧ (q_add 85 x1) < (4512 : Int)) ∧ (∀ x3_2 : Int, x3_2 = (q_add (q_add 19 (M 179 (q_add 85 x1))) x2) → (0 ≤ x3_2 ∧ x3_2 < (4512 : Int)) ∧ (∀ x4_4 : Int, x4_4 = (M 179 x3_2) → (0 ≤ (q_add x3_2 1) ∧ (q_add x3_2 1) < (4512 : Int)) ∧ ((0 ≤ x3_2 ∧ x3_2 < (4512 : Int)) ∧ (∀ M7 : q_Mem, M7 = q_up M 179 x3_2 (M 179 (q_add x3_2 1)) → (0 ≤ (q_add x3_2 1) ∧ (q_add x3_2 1) < (4512 : Int)) ∧ (∀ M9 : q_Mem, M9 = q_up M7 179 (q_add x3_2 1) x4_4 → P M9)))))) : q_v mX12_turns d (qPU P) M 0 [some (qR 178), some (qI x1), some (qI x2), none, none] [] := by
  refine qr_bipush 0 2 rfl (q_l32 _ rfl) (by decide) dX12_turns_0 ?_
  refine qr_aload_n 2 3 rfl (x := 178) rfl dX12_turns_2 ?_
  refine qr_getF 3 6 rfl ck12 1 (by decide) (b := 179) (by decide +kernel) rfl (by decide +kernel) (by decide +kernel) wm_1327 rfl dX12_turns_3 ?_
  refine qr_bipush 6 8 rfl (q_l32 _ rfl) (by decide) dX12_turns_6 ?_
  refine qr_iload_n 8 9 rfl (x := x1) rfl dX12_turns_8 ?_
  refine qr_iadd 9 10 rfl dX12_turns_9 ?_
  have hb1 := h.1
  have h := h.2
  refine qi_ld 10 11 rfl (N := 4512) (by decide +kernel) (by decide +kernel) hb1.1 hb1.2 dX12_turns_10 ?_
  refine qr_iadd 11 12 rfl dX12_turns_11 ?_
  refine qr_iload_n 12 13 rfl (x := x2) rfl dX12_turns_12 ?_
  refine qr_iadd 13 14 rfl dX12_turns_13 ?_
  refine qn_i 14 (fun x3_2 e_x3_2 => ?_)
  have h := h x3_2 e_x3_2
  refine qr_istore_n 14 15 rfl (by decide) rfl rfl dX12_turns_14 ?_
  refine qr_aload_n 15 16 rfl (x := 178) rfl dX12_turns_15 ?_
  refine qr_getF 16 19 rfl ck12 1 (by decide) (b := 179) (by decide +kernel) rfl (by decide +kernel) (by decide +kernel) wm_1327 rfl dX12_turns_16 ?_
  refine qr_iload_n 19 20 rfl (x := x3_2) rfl dX12_turns_19 ?_
  have hb3 := h.1
  have h := h.2
  refine qi_ld 20 21 rfl (N := 4512) (by decide +kernel) (by decide +kernel) hb3.1 hb3.2 dX12_turns_20 ?_
  refine qn_i 21 (fun x4_4 e_x4_4 => ?_)
  have h := h x4_4 e_x4_4
  refine qr_istore 21 23 rfl (by decide) rfl rfl dX12_turns_21 ?_
  refine qr_aload_n 23 24 rfl (x := 178) rfl dX12_turns_23 ?_
  refine qr_getF 24 27 rfl ck12 1 (by decide) (b := 179) (by decide +kernel) rfl (by decide +kernel) (by decide +kernel) wm_1327 rfl dX12_turns_24 ?_
  refine qr_iload_n 27 28 rfl (x := x3_2) rfl dX12_turns_27 ?_
  refine qr_aload_n 28 29 rfl (x := 178) rfl dX12_turns_28 ?_
  refine qr_getF 29 32 rfl ck12 1 (by decide) (b := 179) (by decide +kernel) rfl (by decide +kernel) (by decide +kernel) wm_1327 rfl dX12_turns_29 ?_
  refine qr_iload_n 32 33 rfl (x := x3_2) rfl dX12_turns_32 ?_
  refine qr_iconst 33 34 rfl (q_l32 _ rfl) dX12_turns_33 ?_
  refine qr_iadd 34 35 rfl dX12_turns_34 ?_
  have hb5 := h.1
  have h := h.2
  refine qi_ld 35 36 rfl (N := 4512) (by decide +kernel) (by decide +kernel) hb5.1 hb5.2 dX12_turns_35 ?_
  have hb6 := h.1
  have h := h.2
  refine qi_st 36 37 rfl (N := 4512) (by decide +kernel) (by decide +kernel) hb6.1 hb6.2 dX12_turns_36 (fun M7 e_M7 => ?_)
  have h := h M7 e_M7
  refine qr_aload_n 37 38 rfl (x := 178) rfl dX12_turns_37 ?_
  refine qr_getF 38 41 rfl ck12 1 (by decide) (b := 179) (by decide +kernel) rfl (by decide +kernel) (by decide +kernel) wm_1327 rfl dX12_turns_38 ?_
  refine qr_iload_n 41 42 rfl (x := x3_2) rfl dX12_turns_41 ?_
  refine qr_iconst 42 43 rfl (q_l32 _ rfl) dX12_turns_42 ?_
  refine qr_iadd 43 44 rfl dX12_turns_43 ?_
  refine qr_iload 44 46 rfl (x := x4_4) rfl dX12_turns_44 ?_
  have hb8 := h.1
  have h := h.2
  refine qi_st 46 47 rfl (N := 4512) (by decide +kernel) (by decide +kernel) hb8.1 hb8.2 dX12_turns_46 (fun M9 e_M9 => ?_)
  have h := h M9 e_M9
  exact qe_u 47 rfl dX12_turns_47 h
theorem dX12_weigh_0 : decode cX12_weigh 0 = .ok (.aload_n 0, 1) := by decide +kernel
theorem dX12_weigh_1 : decode cX12_weigh 1 = .ok (.iconst 0, 1) := by decide +kernel
theorem dX12_weigh_2 : decode cX12_weigh 2 = .ok (.putfield 1, 3) := by decide +kernel
theorem dX12_weigh_5 : decode cX12_weigh 5 = .ok (.aload_n 0, 1) := by decide +kernel
theorem dX12_weigh_6 : decode cX12_weigh 6 = .ok (.iload_n 1, 1) := by decide +kernel
theorem dX12_weigh_7 : decode cX12_weigh 7 = .ok (.i2l, 1) := by decide +kernel
theorem dX12_weigh_8 : decode cX12_weigh 8 = .ok (.invokevirtual 296, 3) := by decide +kernel
theorem dX12_weigh_11 : decode cX12_weigh 11 = .ok (.ifCond .eq 17, 3) := by decide +kernel
theorem dX12_weigh_14 : decode cX12_weigh 14 = .ok (.iload_n 2, 1) := by decide +kernel
theorem dX12_weigh_15 : decode cX12_weigh 15 = .ok (.i2l, 1) := by decide +kernel
theorem dX12_weigh_16 : decode cX12_weigh 16 = .ok (.ldc2_w 306, 3) := by decide +kernel
theorem dX12_weigh_19 : decode cX12_weigh 19 = .ok (.ldc2_w 308, 3) := by decide +kernel
theorem dX12_weigh_22 : decode cX12_weigh 22 = .ok (.invokestatic 176, 3) := by decide +kernel
theorem dX12_weigh_25 : decode cX12_weigh 25 = .ok (.ifCond .ne 7, 3) := by decide +kernel
theorem dX12_weigh_28 : decode cX12_weigh 28 = .ok (.ldc_w 310, 3) := by decide +kernel
theorem dX12_weigh_31 : decode cX12_weigh 31 = .ok (.ireturn, 1) := by decide +kernel
theorem dX12_weigh_32 : decode cX12_weigh 32 = .ok (.aload_n 0, 1) := by decide +kernel
theorem dX12_weigh_33 : decode cX12_weigh 33 = .ok (.invokevirtual 311, 3) := by decide +kernel
theorem dX12_weigh_36 : decode cX12_weigh 36 = .ok (.aload_n 0, 1) := by decide +kernel
theorem dX12_weigh_37 : decode cX12_weigh 37 = .ok (.getfield 13, 3) := by decide +kernel
theorem dX12_weigh_40 : decode cX12_weigh 40 = .ok (.iconst 3, 1) := by decide +kernel
theorem dX12_weigh_41 : decode cX12_weigh 41 = .ok (.iload_n 1, 1) := by decide +kernel
theorem dX12_weigh_42 : decode cX12_weigh 42 = .ok (.iadd, 1) := by decide +kernel
theorem dX12_weigh_43 : decode cX12_weigh 43 = .ok (.iload_n 2, 1) := by decide +kernel
theorem dX12_weigh_44 : decode cX12_weigh 44 = .ok (.iastore, 1) := by decide +kernel
theorem dX12_weigh_45 : decode cX12_weigh 45 = .ok (.aload_n 0, 1) := by decide +kernel
theorem dX12_weigh_46 : decode cX12_weigh 46 = .ok (.invokevirtual 314, 3) := by decide +kernel
theorem dX12_weigh_49 : decode cX12_weigh 49 = .ok (.aload_n 0, 1) := by decide +kernel
theorem dX12_weigh_50 : decode cX12_weigh 50 = .ok (.getfield 60, 3) := by decide +kernel
theorem dX12_weigh_53 : decode cX12_weigh 53 = .ok (.iconst 3, 1) := by decide +kernel
theorem dX12_weigh_54 : decode cX12_weigh 54 = .ok (.iload_n 1, 1) := by decide +kernel
theorem dX12_weigh_55 : decode cX12_weigh 55 = .ok (.iadd, 1) := by decide +kernel
theorem dX12_weigh_56 : decode cX12_weigh 56 = .ok (.iconst 1, 1) := by decide +kernel
theorem dX12_weigh_57 : decode cX12_weigh 57 = .ok (.isub, 1) := by decide +kernel
theorem dX12_weigh_58 : decode cX12_weigh 58 = .ok (.iaload, 1) := by decide +kernel
theorem dX12_weigh_59 : decode cX12_weigh 59 = .ok (.ireturn, 1) := by decide +kernel
theorem bX12_weigh_0 {d : Nat} {P : Int → q_Mem → Prop} {M : q_Mem} (x1 x2 : Int) (h : (∀ M1 : q_Mem, M1 = q_up M 178 0 0 → q_kI yX12_isLink mX12_isLink d [qR 178, qL x1] M1 (fun v3 M2 => ((v3 = 0) → P (-99000011) M2) ∧ ((¬ (v3 = 0)) → q_kI yX12_within mX12_within d [qL x2, qL (-99), qL 99] M2 (fun v5 M4 => ((¬ v5 = 0) → q_kU yX12_stores mX12_stores d [qR 178] M4 (fun M6 => (0 ≤ (q_add 3 x1) ∧ (q_add 3 x1) < (4512 : Int)) ∧ (∀ M8 : q_Mem, M8 = q_up M6 179 (q_add 3 x1) x2 → q_kU yX12_notes mX12_notes d [qR 178] M8 (fun M9 => (0 ≤ (q_sub (q_add 3 x1) 1) ∧ (q_sub (q_add 3 x1) 1) < (50 : Int)) ∧ (P (M9 193 (q_sub (q_add 3 x1) 1)) M9))))) ∧ ((v5 = 0) → P (-99000011) M4)))))) : q_v mX12_weigh d (qPI P) M 0 [some (qR 178), some (qI x1), some (qI x2)] [] := by
  refine qr_aload_n 0 1 rfl (x := 178) rfl dX12_weigh_0 ?_
  refine qr_iconst 1 2 rfl (q_l32 _ rfl) dX12_weigh_1 ?_
  refine qp_i 2 5 rfl ck12 0 (kk := 0) (by decide) (by decide +kernel) (by decide) rfl rfl wm_1326 rfl dX12_weigh_2 (fun M1 e_M1 => ?_)
  have h := h M1 e_M1
  refine qr_aload_n 5 6 rfl (x := 178) rfl dX12_weigh_5 ?_
  refine qr_iload_n 6 7 rfl (x := x1) rfl dX12_weigh_6 ?_
  refine qr_i2l 7 8 rfl dX12_weigh_7 ?_
  refine qw_I 8 11 rfl (av := [qL x1]) ca_X12_isLink wm_1610 wp_101 wm_1608 ck12 (by decide +kernel) rfl rfl (Nat.le_of_ble_eq_true rfl) dX12_weigh_8 h (fun v3 M2 h => ?_)
  refine qr_if_eq 11 14 28 rfl (by decide) dX12_weigh_11 (fun c11 => ?_) (fun c11 => ?_)
  · have h := h.1 c11
    refine qr_ldc_w 28 31 rfl (v := (-99000011)) (q_l32 _ rfl) wm_1668 dX12_weigh_28 ?_
    exact qe_i 31 rfl dX12_weigh_31 h
  · have h := h.2 c11
    refine qr_iload_n 14 15 rfl (x := x2) rfl dX12_weigh_14 ?_
    refine qr_i2l 15 16 rfl dX12_weigh_15 ?_
    refine qr_ldc2 16 19 rfl (v := (-99)) (q_l64 _ rfl) wm_1666 dX12_weigh_16 ?_
    refine qr_ldc2 19 22 rfl (v := 99) (q_l64 _ rfl) wm_1667 dX12_weigh_19 ?_
    refine qs_I 22 25 rfl (av := [qL x2, qL (-99), qL 99]) ca_X12_within wm_1481 wm_1480 rfl rfl (Nat.le_of_ble_eq_true rfl) dX12_weigh_22 h (fun v5 M4 h => ?_)
    refine qr_if_ne 25 28 32 rfl (by decide) dX12_weigh_25 (fun c25 => ?_) (fun c25 => ?_)
    · have h := h.1 c25
      refine qr_aload_n 32 33 rfl (x := 178) rfl dX12_weigh_32 ?_
      refine qw_U 33 36 rfl (av := []) ca_X12_stores wm_1671 wp_109 wm_1669 ck12 (by decide +kernel) rfl rfl (Nat.le_of_ble_eq_true rfl) dX12_weigh_33 h (fun M6 h => ?_)
      refine qr_aload_n 36 37 rfl (x := 178) rfl dX12_weigh_36 ?_
      refine qr_getF 37 40 rfl ck12 1 (by decide) (b := 179) (by decide +kernel) rfl (by decide +kernel) (by decide +kernel) wm_1327 rfl dX12_weigh_37 ?_
      refine qr_iconst 40 41 rfl (q_l32 _ rfl) dX12_weigh_40 ?_
      refine qr_iload_n 41 42 rfl (x := x1) rfl dX12_weigh_41 ?_
      refine qr_iadd 42 43 rfl dX12_weigh_42 ?_
      refine qr_iload_n 43 44 rfl (x := x2) rfl dX12_weigh_43 ?_
      have hb7 := h.1
      have h := h.2
      refine qi_st 44 45 rfl (N := 4512) (by decide +kernel) (by decide +kernel) hb7.1 hb7.2 dX12_weigh_44 (fun M8 e_M8 => ?_)
      have h := h M8 e_M8
      refine qr_aload_n 45 46 rfl (x := 178) rfl dX12_weigh_45 ?_
      refine qw_U 46 49 rfl (av := []) ca_X12_notes wm_1675 wp_110 wm_1673 ck12 (by decide +kernel) rfl rfl (Nat.le_of_ble_eq_true rfl) dX12_weigh_46 h (fun M9 h => ?_)
      refine qr_aload_n 49 50 rfl (x := 178) rfl dX12_weigh_49 ?_
      refine qr_getF 50 53 rfl ck12 27 (by decide) (b := 193) (by decide +kernel) rfl (by decide +kernel) (by decide +kernel) wm_1353 rfl dX12_weigh_50 ?_
      refine qr_iconst 53 54 rfl (q_l32 _ rfl) dX12_weigh_53 ?_
      refine qr_iload_n 54 55 rfl (x := x1) rfl dX12_weigh_54 ?_
      refine qr_iadd 55 56 rfl dX12_weigh_55 ?_
      refine qr_iconst 56 57 rfl (q_l32 _ rfl) dX12_weigh_56 ?_
      refine qr_isub 57 58 rfl dX12_weigh_57 ?_
      have hb10 := h.1
      have h := h.2
      refine qi_ld 58 59 rfl (N := 50) (by decide +kernel) (by decide +kernel) hb10.1 hb10.2 dX12_weigh_58 ?_
      exact qe_i 59 rfl dX12_weigh_59 h
    · have h := h.2 c25
      refine qr_ldc_w 28 31 rfl (v := (-99000011)) (q_l32 _ rfl) wm_1668 dX12_weigh_28 ?_
      exact qe_i 31 rfl dX12_weigh_31 h
theorem dX12_flip_0 : decode cX12_flip 0 = .ok (.aload_n 0, 1) := by decide +kernel
theorem dX12_flip_1 : decode cX12_flip 1 = .ok (.iconst 0, 1) := by decide +kernel
theorem dX12_flip_2 : decode cX12_flip 2 = .ok (.putfield 1, 3) := by decide +kernel
theorem dX12_flip_5 : decode cX12_flip 5 = .ok (.aload_n 0, 1) := by decide +kernel
theorem dX12_flip_6 : decode cX12_flip 6 = .ok (.iload_n 1, 1) := by decide +kernel
theorem dX12_flip_7 : decode cX12_flip 7 = .ok (.i2l, 1) := by decide +kernel
theorem dX12_flip_8 : decode cX12_flip 8 = .ok (.invokevirtual 303, 3) := by decide +kernel
theorem dX12_flip_11 : decode cX12_flip 11 = .ok (.ifCond .ne 7, 3) := by decide +kernel
theorem dX12_flip_14 : decode cX12_flip 14 = .ok (.ldc_w 310, 3) := by decide +kernel
theorem dX12_flip_17 : decode cX12_flip 17 = .ok (.ireturn, 1) := by decide +kernel
theorem dX12_flip_18 : decode cX12_flip 18 = .ok (.aload_n 0, 1) := by decide +kernel
theorem dX12_flip_19 : decode cX12_flip 19 = .ok (.invokevirtual 311, 3) := by decide +kernel
theorem dX12_flip_22 : decode cX12_flip 22 = .ok (.aload_n 0, 1) := by decide +kernel
theorem dX12_flip_23 : decode cX12_flip 23 = .ok (.getfield 13, 3) := by decide +kernel
theorem dX12_flip_26 : decode cX12_flip 26 = .ok (.iconst 2, 1) := by decide +kernel
theorem dX12_flip_27 : decode cX12_flip 27 = .ok (.dup2, 1) := by decide +kernel
theorem dX12_flip_28 : decode cX12_flip 28 = .ok (.iaload, 1) := by decide +kernel
theorem dX12_flip_29 : decode cX12_flip 29 = .ok (.iconst 1, 1) := by decide +kernel
theorem dX12_flip_30 : decode cX12_flip 30 = .ok (.iload_n 1, 1) := by decide +kernel
theorem dX12_flip_31 : decode cX12_flip 31 = .ok (.ishl, 1) := by decide +kernel
theorem dX12_flip_32 : decode cX12_flip 32 = .ok (.ixor, 1) := by decide +kernel
theorem dX12_flip_33 : decode cX12_flip 33 = .ok (.iastore, 1) := by decide +kernel
theorem dX12_flip_34 : decode cX12_flip 34 = .ok (.aload_n 0, 1) := by decide +kernel
theorem dX12_flip_35 : decode cX12_flip 35 = .ok (.invokevirtual 314, 3) := by decide +kernel
theorem dX12_flip_38 : decode cX12_flip 38 = .ok (.aload_n 0, 1) := by decide +kernel
theorem dX12_flip_39 : decode cX12_flip 39 = .ok (.invokevirtual 317, 3) := by decide +kernel
theorem dX12_flip_42 : decode cX12_flip 42 = .ok (.ireturn, 1) := by decide +kernel
theorem bX12_flip_0 {d : Nat} {P : Int → q_Mem → Prop} {M : q_Mem} (x1 : Int) (h : (∀ M1 : q_Mem, M1 = q_up M 178 0 0 → q_kI yX12_isNode mX12_isNode d [qR 178, qL x1] M1 (fun v3 M2 => ((¬ v3 = 0) → q_kU yX12_stores mX12_stores d [qR 178] M2 (fun M4 => ((∀ M5 : q_Mem, M5 = q_up M4 179 2 (q_xor (M4 179 2) (q_shl 1 x1)) → q_kU yX12_notes mX12_notes d [qR 178] M5 (fun M6 => q_kI yX12_worthNow mX12_worthNow d [qR 178] M6 (fun v8 M7 => P v8 M7)))))) ∧ ((v3 = 0) → P (-99000011) M2)))) : q_v mX12_flip d (qPI P) M 0 [some (qR 178), some (qI x1)] [] := by
  refine qr_aload_n 0 1 rfl (x := 178) rfl dX12_flip_0 ?_
  refine qr_iconst 1 2 rfl (q_l32 _ rfl) dX12_flip_1 ?_
  refine qp_i 2 5 rfl ck12 0 (kk := 0) (by decide) (by decide +kernel) (by decide) rfl rfl wm_1326 rfl dX12_flip_2 (fun M1 e_M1 => ?_)
  have h := h M1 e_M1
  refine qr_aload_n 5 6 rfl (x := 178) rfl dX12_flip_5 ?_
  refine qr_iload_n 6 7 rfl (x := x1) rfl dX12_flip_6 ?_
  refine qr_i2l 7 8 rfl dX12_flip_7 ?_
  refine qw_I 8 11 rfl (av := [qL x1]) ca_X12_isNode wm_1656 wp_108 wm_1654 ck12 (by decide +kernel) rfl rfl (Nat.le_of_ble_eq_true rfl) dX12_flip_8 h (fun v3 M2 h => ?_)
  refine qr_if_ne 11 14 18 rfl (by decide) dX12_flip_11 (fun c11 => ?_) (fun c11 => ?_)
  · have h := h.1 c11
    refine qr_aload_n 18 19 rfl (x := 178) rfl dX12_flip_18 ?_
    refine qw_U 19 22 rfl (av := []) ca_X12_stores wm_1671 wp_109 wm_1669 ck12 (by decide +kernel) rfl rfl (Nat.le_of_ble_eq_true rfl) dX12_flip_19 h (fun M4 h => ?_)
    refine qr_aload_n 22 23 rfl (x := 178) rfl dX12_flip_22 ?_
    refine qr_getF 23 26 rfl ck12 1 (by decide) (b := 179) (by decide +kernel) rfl (by decide +kernel) (by decide +kernel) wm_1327 rfl dX12_flip_23 ?_
    refine qr_iconst 26 27 rfl (q_l32 _ rfl) dX12_flip_26 ?_
    refine qr_dup2 27 28 rfl rfl rfl dX12_flip_27 ?_
    refine qi_ld 28 29 rfl (N := 4512) (by decide +kernel) (by decide +kernel) (by decide) (by decide) dX12_flip_28 ?_
    refine qr_iconst 29 30 rfl (q_l32 _ rfl) dX12_flip_29 ?_
    refine qr_iload_n 30 31 rfl (x := x1) rfl dX12_flip_30 ?_
    refine qr_ishl 31 32 rfl dX12_flip_31 ?_
    refine qr_ixor 32 33 rfl dX12_flip_32 ?_
    refine qi_st 33 34 rfl (N := 4512) (by decide +kernel) (by decide +kernel) (by decide) (by decide) dX12_flip_33 (fun M5 e_M5 => ?_)
    have h := h M5 e_M5
    refine qr_aload_n 34 35 rfl (x := 178) rfl dX12_flip_34 ?_
    refine qw_U 35 38 rfl (av := []) ca_X12_notes wm_1675 wp_110 wm_1673 ck12 (by decide +kernel) rfl rfl (Nat.le_of_ble_eq_true rfl) dX12_flip_35 h (fun M6 h => ?_)
    refine qr_aload_n 38 39 rfl (x := 178) rfl dX12_flip_38 ?_
    refine qw_I 39 42 rfl (av := []) ca_X12_worthNow wm_1683 wp_111 wm_1681 ck12 (by decide +kernel) rfl rfl (Nat.le_of_ble_eq_true rfl) dX12_flip_39 h (fun v8 M7 h => ?_)
    exact qe_i 42 rfl dX12_flip_42 h
  · have h := h.2 c11
    refine qr_ldc_w 14 17 rfl (v := (-99000011)) (q_l32 _ rfl) wm_1668 dX12_flip_14 ?_
    exact qe_i 17 rfl dX12_flip_17 h
theorem dX12_turn_0 : decode cX12_turn 0 = .ok (.aload_n 0, 1) := by decide +kernel
theorem dX12_turn_1 : decode cX12_turn 1 = .ok (.iconst 0, 1) := by decide +kernel
theorem dX12_turn_2 : decode cX12_turn 2 = .ok (.putfield 1, 3) := by decide +kernel
theorem dX12_turn_5 : decode cX12_turn 5 = .ok (.aload_n 0, 1) := by decide +kernel
theorem dX12_turn_6 : decode cX12_turn 6 = .ok (.iload_n 1, 1) := by decide +kernel
theorem dX12_turn_7 : decode cX12_turn 7 = .ok (.iload_n 2, 1) := by decide +kernel
theorem dX12_turn_8 : decode cX12_turn 8 = .ok (.invokevirtual 320, 3) := by decide +kernel
theorem dX12_turn_11 : decode cX12_turn 11 = .ok (.ifCond .ne 6, 3) := by decide +kernel
theorem dX12_turn_14 : decode cX12_turn 14 = .ok (.bipush (-11), 2) := by decide +kernel
theorem dX12_turn_16 : decode cX12_turn 16 = .ok (.ireturn, 1) := by decide +kernel
theorem dX12_turn_17 : decode cX12_turn 17 = .ok (.aload_n 0, 1) := by decide +kernel
theorem dX12_turn_18 : decode cX12_turn 18 = .ok (.invokevirtual 311, 3) := by decide +kernel
theorem dX12_turn_21 : decode cX12_turn 21 = .ok (.aload_n 0, 1) := by decide +kernel
theorem dX12_turn_22 : decode cX12_turn 22 = .ok (.iload_n 1, 1) := by decide +kernel
theorem dX12_turn_23 : decode cX12_turn 23 = .ok (.iload_n 2, 1) := by decide +kernel
theorem dX12_turn_24 : decode cX12_turn 24 = .ok (.invokevirtual 323, 3) := by decide +kernel
theorem dX12_turn_27 : decode cX12_turn 27 = .ok (.aload_n 0, 1) := by decide +kernel
theorem dX12_turn_28 : decode cX12_turn 28 = .ok (.invokevirtual 314, 3) := by decide +kernel
theorem dX12_turn_31 : decode cX12_turn 31 = .ok (.aload_n 0, 1) := by decide +kernel
theorem dX12_turn_32 : decode cX12_turn 32 = .ok (.invokevirtual 327, 3) := by decide +kernel
theorem dX12_turn_35 : decode cX12_turn 35 = .ok (.ireturn, 1) := by decide +kernel
theorem bX12_turn_0 {d : Nat} {P : Int → q_Mem → Prop} {M : q_Mem} (x1 x2 : Int) (h : (∀ M1 : q_Mem, M1 = q_up M 178 0 0 → q_kI yX12_canTurn mX12_canTurn d [qR 178, qI x1, qI x2] M1 (fun v3 M2 => ((¬ v3 = 0) → q_kU yX12_stores mX12_stores d [qR 178] M2 (fun M4 => q_kU yX12_turns mX12_turns d [qR 178, qI x1, qI x2] M4 (fun M5 => q_kU yX12_notes mX12_notes d [qR 178] M5 (fun M6 => q_kI yX12_twistsNow mX12_twistsNow d [qR 178] M6 (fun v8 M7 => P v8 M7))))) ∧ ((v3 = 0) → P (-11) M2)))) : q_v mX12_turn d (qPI P) M 0 [some (qR 178), some (qI x1), some (qI x2)] [] := by
  refine qr_aload_n 0 1 rfl (x := 178) rfl dX12_turn_0 ?_
  refine qr_iconst 1 2 rfl (q_l32 _ rfl) dX12_turn_1 ?_
  refine qp_i 2 5 rfl ck12 0 (kk := 0) (by decide) (by decide +kernel) (by decide) rfl rfl wm_1326 rfl dX12_turn_2 (fun M1 e_M1 => ?_)
  have h := h M1 e_M1
  refine qr_aload_n 5 6 rfl (x := 178) rfl dX12_turn_5 ?_
  refine qr_iload_n 6 7 rfl (x := x1) rfl dX12_turn_6 ?_
  refine qr_iload_n 7 8 rfl (x := x2) rfl dX12_turn_7 ?_
  refine qw_I 8 11 rfl (av := [qI x1, qI x2]) ca_X12_canTurn wm_1702 wp_114 wm_1700 ck12 (by decide +kernel) rfl rfl (Nat.le_of_ble_eq_true rfl) dX12_turn_8 h (fun v3 M2 h => ?_)
  refine qr_if_ne 11 14 17 rfl (by decide) dX12_turn_11 (fun c11 => ?_) (fun c11 => ?_)
  · have h := h.1 c11
    refine qr_aload_n 17 18 rfl (x := 178) rfl dX12_turn_17 ?_
    refine qw_U 18 21 rfl (av := []) ca_X12_stores wm_1671 wp_109 wm_1669 ck12 (by decide +kernel) rfl rfl (Nat.le_of_ble_eq_true rfl) dX12_turn_18 h (fun M4 h => ?_)
    refine qr_aload_n 21 22 rfl (x := 178) rfl dX12_turn_21 ?_
    refine qr_iload_n 22 23 rfl (x := x1) rfl dX12_turn_22 ?_
    refine qr_iload_n 23 24 rfl (x := x2) rfl dX12_turn_23 ?_
    refine qw_U 24 27 rfl (av := [qI x1, qI x2]) ca_X12_turns wm_1706 wp_115 wm_1704 ck12 (by decide +kernel) rfl rfl (Nat.le_of_ble_eq_true rfl) dX12_turn_24 h (fun M5 h => ?_)
    refine qr_aload_n 27 28 rfl (x := 178) rfl dX12_turn_27 ?_
    refine qw_U 28 31 rfl (av := []) ca_X12_notes wm_1675 wp_110 wm_1673 ck12 (by decide +kernel) rfl rfl (Nat.le_of_ble_eq_true rfl) dX12_turn_28 h (fun M6 h => ?_)
    refine qr_aload_n 31 32 rfl (x := 178) rfl dX12_turn_31 ?_
    refine qw_I 32 35 rfl (av := []) ca_X12_twistsNow wm_1710 wp_116 wm_1708 ck12 (by decide +kernel) rfl rfl (Nat.le_of_ble_eq_true rfl) dX12_turn_32 h (fun v8 M7 h => ?_)
    exact qe_i 35 rfl dX12_turn_35 h
  · have h := h.2 c11
    refine qr_bipush 14 16 rfl (q_l32 _ rfl) (by decide) dX12_turn_14 ?_
    exact qe_i 16 rfl dX12_turn_16 h
theorem dX12_warm_0 : decode cX12_warm 0 = .ok (.aload_n 0, 1) := by decide +kernel
theorem dX12_warm_1 : decode cX12_warm 1 = .ok (.iconst 0, 1) := by decide +kernel
theorem dX12_warm_2 : decode cX12_warm 2 = .ok (.putfield 1, 3) := by decide +kernel
theorem dX12_warm_5 : decode cX12_warm 5 = .ok (.iload_n 1, 1) := by decide +kernel
theorem dX12_warm_6 : decode cX12_warm 6 = .ok (.i2l, 1) := by decide +kernel
theorem dX12_warm_7 : decode cX12_warm 7 = .ok (.lconst 0, 1) := by decide +kernel
theorem dX12_warm_8 : decode cX12_warm 8 = .ok (.ldc2_w 330, 3) := by decide +kernel
theorem dX12_warm_11 : decode cX12_warm 11 = .ok (.invokestatic 176, 3) := by decide +kernel
theorem dX12_warm_14 : decode cX12_warm 14 = .ok (.ifCond .ne 6, 3) := by decide +kernel
theorem dX12_warm_17 : decode cX12_warm 17 = .ok (.bipush (-11), 2) := by decide +kernel
theorem dX12_warm_19 : decode cX12_warm 19 = .ok (.ireturn, 1) := by decide +kernel
theorem dX12_warm_20 : decode cX12_warm 20 = .ok (.aload_n 0, 1) := by decide +kernel
theorem dX12_warm_21 : decode cX12_warm 21 = .ok (.invokevirtual 311, 3) := by decide +kernel
theorem dX12_warm_24 : decode cX12_warm 24 = .ok (.aload_n 0, 1) := by decide +kernel
theorem dX12_warm_25 : decode cX12_warm 25 = .ok (.getfield 13, 3) := by decide +kernel
theorem dX12_warm_28 : decode cX12_warm 28 = .ok (.iconst 1, 1) := by decide +kernel
theorem dX12_warm_29 : decode cX12_warm 29 = .ok (.iload_n 1, 1) := by decide +kernel
theorem dX12_warm_30 : decode cX12_warm 30 = .ok (.iastore, 1) := by decide +kernel
theorem dX12_warm_31 : decode cX12_warm 31 = .ok (.aload_n 0, 1) := by decide +kernel
theorem dX12_warm_32 : decode cX12_warm 32 = .ok (.invokevirtual 314, 3) := by decide +kernel
theorem dX12_warm_35 : decode cX12_warm 35 = .ok (.aload_n 0, 1) := by decide +kernel
theorem dX12_warm_36 : decode cX12_warm 36 = .ok (.getfield 60, 3) := by decide +kernel
theorem dX12_warm_39 : decode cX12_warm 39 = .ok (.iconst 0, 1) := by decide +kernel
theorem dX12_warm_40 : decode cX12_warm 40 = .ok (.iaload, 1) := by decide +kernel
theorem dX12_warm_41 : decode cX12_warm 41 = .ok (.ireturn, 1) := by decide +kernel
theorem bX12_warm_0 {d : Nat} {P : Int → q_Mem → Prop} {M : q_Mem} (x1 : Int) (h : (∀ M1 : q_Mem, M1 = q_up M 178 0 0 → q_kI yX12_within mX12_within d [qL x1, qL 0, qL 9] M1 (fun v3 M2 => ((¬ v3 = 0) → q_kU yX12_stores mX12_stores d [qR 178] M2 (fun M4 => (∀ M5 : q_Mem, M5 = q_up M4 179 1 x1 → q_kU yX12_notes mX12_notes d [qR 178] M5 (fun M6 => (P (M6 193 0) M6))))) ∧ ((v3 = 0) → P (-11) M2)))) : q_v mX12_warm d (qPI P) M 0 [some (qR 178), some (qI x1)] [] := by
  refine qr_aload_n 0 1 rfl (x := 178) rfl dX12_warm_0 ?_
  refine qr_iconst 1 2 rfl (q_l32 _ rfl) dX12_warm_1 ?_
  refine qp_i 2 5 rfl ck12 0 (kk := 0) (by decide) (by decide +kernel) (by decide) rfl rfl wm_1326 rfl dX12_warm_2 (fun M1 e_M1 => ?_)
  have h := h M1 e_M1
  refine qr_iload_n 5 6 rfl (x := x1) rfl dX12_warm_5 ?_
  refine qr_i2l 6 7 rfl dX12_warm_6 ?_
  refine qr_lconst 7 8 rfl (w := 0) (q_l64 _ rfl) (by decide) dX12_warm_7 ?_
  refine qr_ldc2 8 11 rfl (v := 9) (q_l64 _ rfl) wm_1720 dX12_warm_8 ?_
  refine qs_I 11 14 rfl (av := [qL x1, qL 0, qL 9]) ca_X12_within wm_1481 wm_1480 rfl rfl (Nat.le_of_ble_eq_true rfl) dX12_warm_11 h (fun v3 M2 h => ?_)
  refine qr_if_ne 14 17 20 rfl (by decide) dX12_warm_14 (fun c14 => ?_) (fun c14 => ?_)
  · have h := h.1 c14
    refine qr_aload_n 20 21 rfl (x := 178) rfl dX12_warm_20 ?_
    refine qw_U 21 24 rfl (av := []) ca_X12_stores wm_1671 wp_109 wm_1669 ck12 (by decide +kernel) rfl rfl (Nat.le_of_ble_eq_true rfl) dX12_warm_21 h (fun M4 h => ?_)
    refine qr_aload_n 24 25 rfl (x := 178) rfl dX12_warm_24 ?_
    refine qr_getF 25 28 rfl ck12 1 (by decide) (b := 179) (by decide +kernel) rfl (by decide +kernel) (by decide +kernel) wm_1327 rfl dX12_warm_25 ?_
    refine qr_iconst 28 29 rfl (q_l32 _ rfl) dX12_warm_28 ?_
    refine qr_iload_n 29 30 rfl (x := x1) rfl dX12_warm_29 ?_
    refine qi_st 30 31 rfl (N := 4512) (by decide +kernel) (by decide +kernel) (by decide) (by decide) dX12_warm_30 (fun M5 e_M5 => ?_)
    have h := h M5 e_M5
    refine qr_aload_n 31 32 rfl (x := 178) rfl dX12_warm_31 ?_
    refine qw_U 32 35 rfl (av := []) ca_X12_notes wm_1675 wp_110 wm_1673 ck12 (by decide +kernel) rfl rfl (Nat.le_of_ble_eq_true rfl) dX12_warm_32 h (fun M6 h => ?_)
    refine qr_aload_n 35 36 rfl (x := 178) rfl dX12_warm_35 ?_
    refine qr_getF 36 39 rfl ck12 27 (by decide) (b := 193) (by decide +kernel) rfl (by decide +kernel) (by decide +kernel) wm_1353 rfl dX12_warm_36 ?_
    refine qr_iconst 39 40 rfl (q_l32 _ rfl) dX12_warm_39 ?_
    refine qi_ld 40 41 rfl (N := 50) (by decide +kernel) (by decide +kernel) (by decide) (by decide) dX12_warm_40 ?_
    exact qe_i 41 rfl dX12_warm_41 h
  · have h := h.2 c14
    refine qr_bipush 17 19 rfl (q_l32 _ rfl) (by decide) dX12_warm_17 ?_
    exact qe_i 19 rfl dX12_warm_19 h
theorem dX12_gainOf_0 : decode cX12_gainOf 0 = .ok (.aload_n 0, 1) := by decide +kernel
theorem dX12_gainOf_1 : decode cX12_gainOf 1 = .ok (.iload_n 1, 1) := by decide +kernel
theorem dX12_gainOf_2 : decode cX12_gainOf 2 = .ok (.iconst 1, 1) := by decide +kernel
theorem dX12_gainOf_3 : decode cX12_gainOf 3 = .ok (.iload_n 2, 1) := by decide +kernel
theorem dX12_gainOf_4 : decode cX12_gainOf 4 = .ok (.ishl, 1) := by decide +kernel
theorem dX12_gainOf_5 : decode cX12_gainOf 5 = .ok (.ixor, 1) := by decide +kernel
theorem dX12_gainOf_6 : decode cX12_gainOf 6 = .ok (.invokevirtual 269, 3) := by decide +kernel
theorem dX12_gainOf_9 : decode cX12_gainOf 9 = .ok (.aload_n 0, 1) := by decide +kernel
theorem dX12_gainOf_10 : decode cX12_gainOf 10 = .ok (.iload_n 1, 1) := by decide +kernel
theorem dX12_gainOf_11 : decode cX12_gainOf 11 = .ok (.invokevirtual 269, 3) := by decide +kernel
theorem dX12_gainOf_14 : decode cX12_gainOf 14 = .ok (.isub, 1) := by decide +kernel
theorem dX12_gainOf_15 : decode cX12_gainOf 15 = .ok (.ireturn, 1) := by decide +kernel
theorem bX12_gainOf_0 {d : Nat} {P : Int → q_Mem → Prop} {M : q_Mem} (x1 x2 : Int) (h : q_kI yX12_worthOf mX12_worthOf d [qR 178, qI (q_xor x1 (q_shl 1 x2))] M (fun v2 M1 => q_kI yX12_worthOf mX12_worthOf d [qR 178, qI x1] M1 (fun v4 M3 => P (q_sub v2 v4) M3))) : q_v mX12_gainOf d (qPI P) M 0 [some (qR 178), some (qI x1), some (qI x2)] [] := by
  refine qr_aload_n 0 1 rfl (x := 178) rfl dX12_gainOf_0 ?_
  refine qr_iload_n 1 2 rfl (x := x1) rfl dX12_gainOf_1 ?_
  refine qr_iconst 2 3 rfl (q_l32 _ rfl) dX12_gainOf_2 ?_
  refine qr_iload_n 3 4 rfl (x := x2) rfl dX12_gainOf_3 ?_
  refine qr_ishl 4 5 rfl dX12_gainOf_4 ?_
  refine qr_ixor 5 6 rfl dX12_gainOf_5 ?_
  refine qw_I 6 9 rfl (av := [qI (q_xor x1 (q_shl 1 x2))]) ca_X12_worthOf wm_1691 wp_113 wm_1689 ck12 (by decide +kernel) rfl rfl (Nat.le_of_ble_eq_true rfl) dX12_gainOf_6 h (fun v2 M1 h => ?_)
  refine qr_aload_n 9 10 rfl (x := 178) rfl dX12_gainOf_9 ?_
  refine qr_iload_n 10 11 rfl (x := x1) rfl dX12_gainOf_10 ?_
  refine qw_I 11 14 rfl (av := [qI x1]) ca_X12_worthOf wm_1691 wp_113 wm_1689 ck12 (by decide +kernel) rfl rfl (Nat.le_of_ble_eq_true rfl) dX12_gainOf_11 h (fun v4 M3 h => ?_)
  refine qr_isub 14 15 rfl dX12_gainOf_14 ?_
  exact qe_i 15 rfl dX12_gainOf_15 h
theorem dX12_fall_0 : decode cX12_fall 0 = .ok (.aload_n 0, 1) := by decide +kernel
theorem dX12_fall_1 : decode cX12_fall 1 = .ok (.iconst 0, 1) := by decide +kernel
theorem dX12_fall_2 : decode cX12_fall 2 = .ok (.putfield 1, 3) := by decide +kernel
theorem dX12_fall_5 : decode cX12_fall 5 = .ok (.aload_n 0, 1) := by decide +kernel
theorem dX12_fall_6 : decode cX12_fall 6 = .ok (.invokevirtual 266, 3) := by decide +kernel
theorem dX12_fall_9 : decode cX12_fall 9 = .ok (.aload_n 0, 1) := by decide +kernel
theorem dX12_fall_10 : decode cX12_fall 10 = .ok (.invokevirtual 311, 3) := by decide +kernel
theorem dX12_fall_13 : decode cX12_fall 13 = .ok (.iconst 1, 1) := by decide +kernel
theorem dX12_fall_14 : decode cX12_fall 14 = .ok (.istore_n 1, 1) := by decide +kernel
theorem dX12_fall_15 : decode cX12_fall 15 = .ok (.iload_n 1, 1) := by decide +kernel
theorem dX12_fall_16 : decode cX12_fall 16 = .ok (.ifCond .eq 87, 3) := by decide +kernel
theorem dX12_fall_19 : decode cX12_fall 19 = .ok (.iconst (-1), 1) := by decide +kernel
theorem dX12_fall_20 : decode cX12_fall 20 = .ok (.istore_n 2, 1) := by decide +kernel
theorem dX12_fall_21 : decode cX12_fall 21 = .ok (.iconst 0, 1) := by decide +kernel
theorem dX12_fall_22 : decode cX12_fall 22 = .ok (.istore_n 3, 1) := by decide +kernel
theorem dX12_fall_23 : decode cX12_fall 23 = .ok (.iconst 0, 1) := by decide +kernel
theorem dX12_fall_24 : decode cX12_fall 24 = .ok (.istore 4, 2) := by decide +kernel
theorem dX12_fall_26 : decode cX12_fall 26 = .ok (.iload 4, 2) := by decide +kernel
theorem dX12_fall_28 : decode cX12_fall 28 = .ok (.aload_n 0, 1) := by decide +kernel
theorem dX12_fall_29 : decode cX12_fall 29 = .ok (.getfield 13, 3) := by decide +kernel
theorem dX12_fall_32 : decode cX12_fall 32 = .ok (.bipush 51, 2) := by decide +kernel
theorem dX12_fall_34 : decode cX12_fall 34 = .ok (.iaload, 1) := by decide +kernel
theorem dX12_fall_35 : decode cX12_fall 35 = .ok (.if_icmp .ge 38, 3) := by decide +kernel
theorem dX12_fall_38 : decode cX12_fall 38 = .ok (.aload_n 0, 1) := by decide +kernel
theorem dX12_fall_39 : decode cX12_fall 39 = .ok (.aload_n 0, 1) := by decide +kernel
theorem dX12_fall_40 : decode cX12_fall 40 = .ok (.getfield 13, 3) := by decide +kernel
theorem dX12_fall_43 : decode cX12_fall 43 = .ok (.iconst 2, 1) := by decide +kernel
theorem dX12_fall_44 : decode cX12_fall 44 = .ok (.iaload, 1) := by decide +kernel
theorem dX12_fall_45 : decode cX12_fall 45 = .ok (.iload 4, 2) := by decide +kernel
theorem dX12_fall_47 : decode cX12_fall 47 = .ok (.invokevirtual 332, 3) := by decide +kernel
theorem dX12_fall_50 : decode cX12_fall 50 = .ok (.istore 5, 2) := by decide +kernel
theorem dX12_fall_52 : decode cX12_fall 52 = .ok (.iload 5, 2) := by decide +kernel
theorem dX12_fall_54 : decode cX12_fall 54 = .ok (.iload_n 3, 1) := by decide +kernel
theorem dX12_fall_55 : decode cX12_fall 55 = .ok (.if_icmp .gt 6, 3) := by decide +kernel
theorem dX12_fall_58 : decode cX12_fall 58 = .ok (.goto 9, 3) := by decide +kernel
theorem dX12_fall_61 : decode cX12_fall 61 = .ok (.iload 4, 2) := by decide +kernel
theorem dX12_fall_63 : decode cX12_fall 63 = .ok (.istore_n 2, 1) := by decide +kernel
theorem dX12_fall_64 : decode cX12_fall 64 = .ok (.iload 5, 2) := by decide +kernel
theorem dX12_fall_66 : decode cX12_fall 66 = .ok (.istore_n 3, 1) := by decide +kernel
theorem dX12_fall_67 : decode cX12_fall 67 = .ok (.iinc 4 1, 3) := by decide +kernel
theorem dX12_fall_70 : decode cX12_fall 70 = .ok (.goto (-44), 3) := by decide +kernel
theorem dX12_fall_73 : decode cX12_fall 73 = .ok (.iload_n 2, 1) := by decide +kernel
theorem dX12_fall_74 : decode cX12_fall 74 = .ok (.iconst (-1), 1) := by decide +kernel
theorem dX12_fall_75 : decode cX12_fall 75 = .ok (.if_icmp .eq 7, 3) := by decide +kernel
theorem dX12_fall_78 : decode cX12_fall 78 = .ok (.iconst 1, 1) := by decide +kernel
theorem dX12_fall_79 : decode cX12_fall 79 = .ok (.goto 4, 3) := by decide +kernel
theorem dX12_fall_82 : decode cX12_fall 82 = .ok (.iconst 0, 1) := by decide +kernel
theorem dX12_fall_83 : decode cX12_fall 83 = .ok (.istore_n 1, 1) := by decide +kernel
theorem dX12_fall_84 : decode cX12_fall 84 = .ok (.iload_n 1, 1) := by decide +kernel
theorem dX12_fall_85 : decode cX12_fall 85 = .ok (.ifCond .eq 15, 3) := by decide +kernel
theorem dX12_fall_88 : decode cX12_fall 88 = .ok (.aload_n 0, 1) := by decide +kernel
theorem dX12_fall_89 : decode cX12_fall 89 = .ok (.getfield 13, 3) := by decide +kernel
theorem dX12_fall_92 : decode cX12_fall 92 = .ok (.iconst 2, 1) := by decide +kernel
theorem dX12_fall_93 : decode cX12_fall 93 = .ok (.dup2, 1) := by decide +kernel
theorem dX12_fall_94 : decode cX12_fall 94 = .ok (.iaload, 1) := by decide +kernel
theorem dX12_fall_95 : decode cX12_fall 95 = .ok (.iconst 1, 1) := by decide +kernel
theorem dX12_fall_96 : decode cX12_fall 96 = .ok (.iload_n 2, 1) := by decide +kernel
theorem dX12_fall_97 : decode cX12_fall 97 = .ok (.ishl, 1) := by decide +kernel
theorem dX12_fall_98 : decode cX12_fall 98 = .ok (.ixor, 1) := by decide +kernel
theorem dX12_fall_99 : decode cX12_fall 99 = .ok (.iastore, 1) := by decide +kernel
theorem dX12_fall_100 : decode cX12_fall 100 = .ok (.goto (-85), 3) := by decide +kernel
theorem dX12_fall_103 : decode cX12_fall 103 = .ok (.aload_n 0, 1) := by decide +kernel
theorem dX12_fall_104 : decode cX12_fall 104 = .ok (.invokevirtual 314, 3) := by decide +kernel
theorem dX12_fall_107 : decode cX12_fall 107 = .ok (.aload_n 0, 1) := by decide +kernel
theorem dX12_fall_108 : decode cX12_fall 108 = .ok (.aload_n 0, 1) := by decide +kernel
theorem dX12_fall_109 : decode cX12_fall 109 = .ok (.getfield 13, 3) := by decide +kernel
theorem dX12_fall_112 : decode cX12_fall 112 = .ok (.iconst 2, 1) := by decide +kernel
theorem dX12_fall_113 : decode cX12_fall 113 = .ok (.iaload, 1) := by decide +kernel
theorem dX12_fall_114 : decode cX12_fall 114 = .ok (.invokevirtual 269, 3) := by decide +kernel
theorem dX12_fall_117 : decode cX12_fall 117 = .ok (.ireturn, 1) := by decide +kernel
theorem bX12_fall_0 {d : Nat} {P : Int → q_Mem → Prop} {M : q_Mem} (h : (∀ M1 : q_Mem, M1 = q_up M 178 0 0 → q_kU yX12_laysWeights mX12_laysWeights d [qR 178] M1 (fun M2 => q_kU yX12_stores mX12_stores d [qR 178] M2 (fun M3 => q_v mX12_fall d (qPI P) M3 15 [some (qR 178), some (qI 1), none, none, none, none] [])))) : q_v mX12_fall d (qPI P) M 0 [some (qR 178), none, none, none, none, none] [] := by
  refine qr_aload_n 0 1 rfl (x := 178) rfl dX12_fall_0 ?_
  refine qr_iconst 1 2 rfl (q_l32 _ rfl) dX12_fall_1 ?_
  refine qp_i 2 5 rfl ck12 0 (kk := 0) (by decide) (by decide +kernel) (by decide) rfl rfl wm_1326 rfl dX12_fall_2 (fun M1 e_M1 => ?_)
  have h := h M1 e_M1
  refine qr_aload_n 5 6 rfl (x := 178) rfl dX12_fall_5 ?_
  refine qw_U 6 9 rfl (av := []) ca_X12_laysWeights wm_1687 wp_112 wm_1685 ck12 (by decide +kernel) rfl rfl (Nat.le_of_ble_eq_true rfl) dX12_fall_6 h (fun M2 h => ?_)
  refine qr_aload_n 9 10 rfl (x := 178) rfl dX12_fall_9 ?_
  refine qw_U 10 13 rfl (av := []) ca_X12_stores wm_1671 wp_109 wm_1669 ck12 (by decide +kernel) rfl rfl (Nat.le_of_ble_eq_true rfl) dX12_fall_10 h (fun M3 h => ?_)
  refine qr_iconst 13 14 rfl (q_l32 _ rfl) dX12_fall_13 ?_
  refine qr_istore_n 14 15 rfl (by decide) rfl rfl dX12_fall_14 ?_
  exact h
theorem bX12_fall_15 {d : Nat} {P : Int → q_Mem → Prop} {M : q_Mem} (x1 : Int) (h : ((x1 = 0) → q_kU yX12_notes mX12_notes d [qR 178] M (fun M1 => (q_kI yX12_worthOf mX12_worthOf d [qR 178, qI (M1 179 2)] M1 (fun v3 M2 => P v3 M2)))) ∧ ((¬ (x1 = 0)) → q_v mX12_fall d (qPI P) M 26 [some (qR 178), none, some (qI (-1)), some (qI 0), some (qI 0), none] [])) : q_v mX12_fall d (qPI P) M 15 [some (qR 178), some (qI x1), none, none, none, none] [] := by
  refine qr_iload_n 15 16 rfl (x := x1) rfl dX12_fall_15 ?_
  refine qr_if_eq 16 19 103 rfl (by decide) dX12_fall_16 (fun c16 => ?_) (fun c16 => ?_)
  · have h := h.1 c16
    refine qr_aload_n 103 104 rfl (x := 178) rfl dX12_fall_103 ?_
    refine qw_U 104 107 rfl (av := []) ca_X12_notes wm_1675 wp_110 wm_1673 ck12 (by decide +kernel) rfl rfl (Nat.le_of_ble_eq_true rfl) dX12_fall_104 h (fun M1 h => ?_)
    refine qr_aload_n 107 108 rfl (x := 178) rfl dX12_fall_107 ?_
    refine qr_aload_n 108 109 rfl (x := 178) rfl dX12_fall_108 ?_
    refine qr_getF 109 112 rfl ck12 1 (by decide) (b := 179) (by decide +kernel) rfl (by decide +kernel) (by decide +kernel) wm_1327 rfl dX12_fall_109 ?_
    refine qr_iconst 112 113 rfl (q_l32 _ rfl) dX12_fall_112 ?_
    refine qi_ld 113 114 rfl (N := 4512) (by decide +kernel) (by decide +kernel) (by decide) (by decide) dX12_fall_113 ?_
    refine qw_I 114 117 rfl (av := [qI (M1 179 2)]) ca_X12_worthOf wm_1691 wp_113 wm_1689 ck12 (by decide +kernel) rfl rfl (Nat.le_of_ble_eq_true rfl) dX12_fall_114 h (fun v3 M2 h => ?_)
    exact qe_i 117 rfl dX12_fall_117 h
  · have h := h.2 c16
    refine qr_iconst 19 20 rfl (q_l32 _ rfl) dX12_fall_19 ?_
    refine qr_istore_n 20 21 rfl (by decide) rfl rfl dX12_fall_20 ?_
    refine qr_iconst 21 22 rfl (q_l32 _ rfl) dX12_fall_21 ?_
    refine qr_istore_n 22 23 rfl (by decide) rfl rfl dX12_fall_22 ?_
    refine qr_iconst 23 24 rfl (q_l32 _ rfl) dX12_fall_23 ?_
    refine qr_istore 24 26 rfl (by decide) rfl rfl dX12_fall_24 ?_
    exact qr_cut 26 (ls' := [some (qR 178), none, some (qI (-1)), some (qI 0), some (qI 0), none]) (And.intro rfl (And.intro rfl (And.intro rfl (And.intro rfl trivial)))) h
theorem bX12_fall_26 {d : Nat} {P : Int → q_Mem → Prop} {M : q_Mem} (x2 x3 x4 : Int) (h : ((((M 179 51) ≤ x4) → ((x2 = ((-1) : Int)) → q_v mX12_fall d (qPI P) M 83 [some (qR 178), none, some (qI x2), none, none, none] [qI 0]) ∧ ((¬ (x2 = ((-1) : Int))) → q_v mX12_fall d (qPI P) M 83 [some (qR 178), none, some (qI x2), none, none, none] [qI 1])) ∧ ((¬ ((M 179 51) ≤ x4)) → (q_kI yX12_gainOf mX12_gainOf d [qR 178, qI (M 179 2), qI x4] M (fun v2 M1 => ((x3 < v2) → q_v mX12_fall d (qPI P) M1 26 [some (qR 178), none, some (qI x4), some (qI v2), some (qI (q_add x4 1)), none] []) ∧ ((¬ (x3 < v2)) → q_v mX12_fall d (qPI P) M1 26 [some (qR 178), none, some (qI x2), some (qI x3), some (qI (q_add x4 1)), none] [])))))) : q_v mX12_fall d (qPI P) M 26 [some (qR 178), none, some (qI x2), some (qI x3), some (qI x4), none] [] := by
  refine qr_iload 26 28 rfl (x := x4) rfl dX12_fall_26 ?_
  refine qr_aload_n 28 29 rfl (x := 178) rfl dX12_fall_28 ?_
  refine qr_getF 29 32 rfl ck12 1 (by decide) (b := 179) (by decide +kernel) rfl (by decide +kernel) (by decide +kernel) wm_1327 rfl dX12_fall_29 ?_
  refine qr_bipush 32 34 rfl (q_l32 _ rfl) (by decide) dX12_fall_32 ?_
  refine qi_ld 34 35 rfl (N := 4512) (by decide +kernel) (by decide +kernel) (by decide) (by decide) dX12_fall_34 ?_
  refine qr_icmp_ge 35 38 73 rfl (by decide) dX12_fall_35 (fun c35 => ?_) (fun c35 => ?_)
  · have h := h.1 c35
    refine qr_iload_n 73 74 rfl (x := x2) rfl dX12_fall_73 ?_
    refine qr_iconst 74 75 rfl (q_l32 _ rfl) dX12_fall_74 ?_
    refine qr_icmp_eq 75 78 82 rfl (by decide) dX12_fall_75 (fun c75 => ?_) (fun c75 => ?_)
    · have h := h.1 c75
      refine qr_iconst 82 83 rfl (q_l32 _ rfl) dX12_fall_82 ?_
      exact qr_cut 83 (ls' := [some (qR 178), none, some (qI x2), none, none, none]) (And.intro rfl (And.intro rfl trivial)) h
    · have h := h.2 c75
      refine qr_iconst 78 79 rfl (q_l32 _ rfl) dX12_fall_78 ?_
      refine qr_goto 79 83 (by decide) dX12_fall_79 ?_
      exact qr_cut 83 (ls' := [some (qR 178), none, some (qI x2), none, none, none]) (And.intro rfl (And.intro rfl trivial)) h
  · have h := h.2 c35
    refine qr_aload_n 38 39 rfl (x := 178) rfl dX12_fall_38 ?_
    refine qr_aload_n 39 40 rfl (x := 178) rfl dX12_fall_39 ?_
    refine qr_getF 40 43 rfl ck12 1 (by decide) (b := 179) (by decide +kernel) rfl (by decide +kernel) (by decide +kernel) wm_1327 rfl dX12_fall_40 ?_
    refine qr_iconst 43 44 rfl (q_l32 _ rfl) dX12_fall_43 ?_
    refine qi_ld 44 45 rfl (N := 4512) (by decide +kernel) (by decide +kernel) (by decide) (by decide) dX12_fall_44 ?_
    refine qr_iload 45 47 rfl (x := x4) rfl dX12_fall_45 ?_
    refine qw_I 47 50 rfl (av := [qI (M 179 2), qI x4]) ca_X12_gainOf wm_1727 wp_118 wm_1725 ck12 (by decide +kernel) rfl rfl (Nat.le_of_ble_eq_true rfl) dX12_fall_47 h (fun v2 M1 h => ?_)
    refine qr_istore 50 52 rfl (by decide) rfl rfl dX12_fall_50 ?_
    refine qr_iload 52 54 rfl (x := v2) rfl dX12_fall_52 ?_
    refine qr_iload_n 54 55 rfl (x := x3) rfl dX12_fall_54 ?_
    refine qr_icmp_gt 55 58 61 rfl (by decide) dX12_fall_55 (fun c55 => ?_) (fun c55 => ?_)
    · have h := h.1 c55
      refine qr_iload 61 63 rfl (x := x4) rfl dX12_fall_61 ?_
      refine qr_istore_n 63 64 rfl (by decide) rfl rfl dX12_fall_63 ?_
      refine qr_iload 64 66 rfl (x := v2) rfl dX12_fall_64 ?_
      refine qr_istore_n 66 67 rfl (by decide) rfl rfl dX12_fall_66 ?_
      refine qr_iinc 67 70 rfl (by decide) (x := x4) rfl rfl rfl dX12_fall_67 ?_
      refine qr_goto 70 26 (by decide) dX12_fall_70 ?_
      exact qr_cut 26 (ls' := [some (qR 178), none, some (qI x4), some (qI v2), some (qI (q_add x4 1)), none]) (And.intro rfl (And.intro rfl (And.intro rfl (And.intro rfl trivial)))) h
    · have h := h.2 c55
      refine qr_goto 58 67 (by decide) dX12_fall_58 ?_
      refine qr_iinc 67 70 rfl (by decide) (x := x4) rfl rfl rfl dX12_fall_67 ?_
      refine qr_goto 70 26 (by decide) dX12_fall_70 ?_
      exact qr_cut 26 (ls' := [some (qR 178), none, some (qI x2), some (qI x3), some (qI (q_add x4 1)), none]) (And.intro rfl (And.intro rfl (And.intro rfl (And.intro rfl trivial)))) h
theorem bX12_fall_83 {d : Nat} {P : Int → q_Mem → Prop} {M : q_Mem} (x2 y0 : Int) (h : ((y0 = 0) → q_v mX12_fall d (qPI P) M 15 [some (qR 178), some (qI y0), none, none, none, none] []) ∧ ((¬ (y0 = 0)) → ((∀ M1 : q_Mem, M1 = q_up M 179 2 (q_xor (M 179 2) (q_shl 1 x2)) → q_v mX12_fall d (qPI P) M1 15 [some (qR 178), some (qI y0), none, none, none, none] [])))) : q_v mX12_fall d (qPI P) M 83 [some (qR 178), none, some (qI x2), none, none, none] [qI y0] := by
  refine qr_istore_n 83 84 rfl (by decide) rfl rfl dX12_fall_83 ?_
  refine qr_iload_n 84 85 rfl (x := y0) rfl dX12_fall_84 ?_
  refine qr_if_eq 85 88 100 rfl (by decide) dX12_fall_85 (fun c85 => ?_) (fun c85 => ?_)
  · have h := h.1 c85
    refine qr_goto 100 15 (by decide) dX12_fall_100 ?_
    exact qr_cut 15 (ls' := [some (qR 178), some (qI y0), none, none, none, none]) (And.intro rfl (And.intro rfl trivial)) h
  · have h := h.2 c85
    refine qr_aload_n 88 89 rfl (x := 178) rfl dX12_fall_88 ?_
    refine qr_getF 89 92 rfl ck12 1 (by decide) (b := 179) (by decide +kernel) rfl (by decide +kernel) (by decide +kernel) wm_1327 rfl dX12_fall_89 ?_
    refine qr_iconst 92 93 rfl (q_l32 _ rfl) dX12_fall_92 ?_
    refine qr_dup2 93 94 rfl rfl rfl dX12_fall_93 ?_
    refine qi_ld 94 95 rfl (N := 4512) (by decide +kernel) (by decide +kernel) (by decide) (by decide) dX12_fall_94 ?_
    refine qr_iconst 95 96 rfl (q_l32 _ rfl) dX12_fall_95 ?_
    refine qr_iload_n 96 97 rfl (x := x2) rfl dX12_fall_96 ?_
    refine qr_ishl 97 98 rfl dX12_fall_97 ?_
    refine qr_ixor 98 99 rfl dX12_fall_98 ?_
    refine qi_st 99 100 rfl (N := 4512) (by decide +kernel) (by decide +kernel) (by decide) (by decide) dX12_fall_99 (fun M1 e_M1 => ?_)
    have h := h M1 e_M1
    refine qr_goto 100 15 (by decide) dX12_fall_100 ?_
    exact qr_cut 15 (ls' := [some (qR 178), some (qI y0), none, none, none, none]) (And.intro rfl (And.intro rfl trivial)) h
theorem dX12_bitsOf_0 : decode cX12_bitsOf 0 = .ok (.iconst 0, 1) := by decide +kernel
theorem dX12_bitsOf_1 : decode cX12_bitsOf 1 = .ok (.istore_n 1, 1) := by decide +kernel
theorem dX12_bitsOf_2 : decode cX12_bitsOf 2 = .ok (.iconst 0, 1) := by decide +kernel
theorem dX12_bitsOf_3 : decode cX12_bitsOf 3 = .ok (.istore_n 2, 1) := by decide +kernel
theorem dX12_bitsOf_4 : decode cX12_bitsOf 4 = .ok (.iload_n 2, 1) := by decide +kernel
theorem dX12_bitsOf_5 : decode cX12_bitsOf 5 = .ok (.bipush 16, 2) := by decide +kernel
theorem dX12_bitsOf_7 : decode cX12_bitsOf 7 = .ok (.if_icmp .ge 17, 3) := by decide +kernel
theorem dX12_bitsOf_10 : decode cX12_bitsOf 10 = .ok (.iload_n 1, 1) := by decide +kernel
theorem dX12_bitsOf_11 : decode cX12_bitsOf 11 = .ok (.iload_n 0, 1) := by decide +kernel
theorem dX12_bitsOf_12 : decode cX12_bitsOf 12 = .ok (.iload_n 2, 1) := by decide +kernel
theorem dX12_bitsOf_13 : decode cX12_bitsOf 13 = .ok (.ishr, 1) := by decide +kernel
theorem dX12_bitsOf_14 : decode cX12_bitsOf 14 = .ok (.iconst 1, 1) := by decide +kernel
theorem dX12_bitsOf_15 : decode cX12_bitsOf 15 = .ok (.iand, 1) := by decide +kernel
theorem dX12_bitsOf_16 : decode cX12_bitsOf 16 = .ok (.iadd, 1) := by decide +kernel
theorem dX12_bitsOf_17 : decode cX12_bitsOf 17 = .ok (.istore_n 1, 1) := by decide +kernel
theorem dX12_bitsOf_18 : decode cX12_bitsOf 18 = .ok (.iinc 2 1, 3) := by decide +kernel
theorem dX12_bitsOf_21 : decode cX12_bitsOf 21 = .ok (.goto (-17), 3) := by decide +kernel
theorem dX12_bitsOf_24 : decode cX12_bitsOf 24 = .ok (.iload_n 1, 1) := by decide +kernel
theorem dX12_bitsOf_25 : decode cX12_bitsOf 25 = .ok (.ireturn, 1) := by decide +kernel
theorem bX12_bitsOf_0 {d : Nat} {P : Int → q_Mem → Prop} {M : q_Mem} (x0 : Int) (h : q_v mX12_bitsOf d (qPI P) M 4 [some (qI x0), some (qI 0), some (qI 0)] []) : q_v mX12_bitsOf d (qPI P) M 0 [some (qI x0), none, none] [] := by
  refine qr_iconst 0 1 rfl (q_l32 _ rfl) dX12_bitsOf_0 ?_
  refine qr_istore_n 1 2 rfl (by decide) rfl rfl dX12_bitsOf_1 ?_
  refine qr_iconst 2 3 rfl (q_l32 _ rfl) dX12_bitsOf_2 ?_
  refine qr_istore_n 3 4 rfl (by decide) rfl rfl dX12_bitsOf_3 ?_
  exact h
theorem bX12_bitsOf_4 {d : Nat} {P : Int → q_Mem → Prop} {M : q_Mem} (x0 x1 x2 : Int) (h : (((16 : Int) ≤ x2) → P x1 M) ∧ ((¬ ((16 : Int) ≤ x2)) → ∀ x1_1 : Int, x1_1 = (q_add x1 (q_and (q_shr x0 x2) 1)) → q_v mX12_bitsOf d (qPI P) M 4 [some (qI x0), some (qI x1_1), some (qI (q_add x2 1))] [])) : q_v mX12_bitsOf d (qPI P) M 4 [some (qI x0), some (qI x1), some (qI x2)] [] := by
  refine qr_iload_n 4 5 rfl (x := x2) rfl dX12_bitsOf_4 ?_
  refine qr_bipush 5 7 rfl (q_l32 _ rfl) (by decide) dX12_bitsOf_5 ?_
  refine qr_icmp_ge 7 10 24 rfl (by decide) dX12_bitsOf_7 (fun c7 => ?_) (fun c7 => ?_)
  · have h := h.1 c7
    refine qr_iload_n 24 25 rfl (x := x1) rfl dX12_bitsOf_24 ?_
    exact qe_i 25 rfl dX12_bitsOf_25 h
  · have h := h.2 c7
    refine qr_iload_n 10 11 rfl (x := x1) rfl dX12_bitsOf_10 ?_
    refine qr_iload_n 11 12 rfl (x := x0) rfl dX12_bitsOf_11 ?_
    refine qr_iload_n 12 13 rfl (x := x2) rfl dX12_bitsOf_12 ?_
    refine qr_ishr 13 14 rfl dX12_bitsOf_13 ?_
    refine qr_iconst 14 15 rfl (q_l32 _ rfl) dX12_bitsOf_14 ?_
    refine qr_iand 15 16 rfl dX12_bitsOf_15 ?_
    refine qr_iadd 16 17 rfl dX12_bitsOf_16 ?_
    refine qn_i 17 (fun x1_1 e_x1_1 => ?_)
    have h := h x1_1 e_x1_1
    refine qr_istore_n 17 18 rfl (by decide) rfl rfl dX12_bitsOf_17 ?_
    refine qr_iinc 18 21 rfl (by decide) (x := x2) rfl rfl rfl dX12_bitsOf_18 ?_
    refine qr_goto 21 4 (by decide) dX12_bitsOf_21 ?_
    exact h
theorem dX12_sides_0 : decode cX12_sides 0 = .ok (.aload_n 0, 1) := by decide +kernel
theorem dX12_sides_1 : decode cX12_sides 1 = .ok (.iconst 0, 1) := by decide +kernel
theorem dX12_sides_2 : decode cX12_sides 2 = .ok (.putfield 1, 3) := by decide +kernel
theorem dX12_sides_5 : decode cX12_sides 5 = .ok (.aload_n 0, 1) := by decide +kernel
theorem dX12_sides_6 : decode cX12_sides 6 = .ok (.iconst 1, 1) := by decide +kernel
theorem dX12_sides_7 : decode cX12_sides 7 = .ok (.invokevirtual 335, 3) := by decide +kernel
theorem dX12_sides_10 : decode cX12_sides 10 = .ok (.ifCond .ne 6, 3) := by decide +kernel
theorem dX12_sides_13 : decode cX12_sides 13 = .ok (.bipush (-5), 2) := by decide +kernel
theorem dX12_sides_15 : decode cX12_sides 15 = .ok (.ireturn, 1) := by decide +kernel
theorem dX12_sides_16 : decode cX12_sides 16 = .ok (.aload_n 0, 1) := by decide +kernel
theorem dX12_sides_17 : decode cX12_sides 17 = .ok (.invokevirtual 311, 3) := by decide +kernel
theorem dX12_sides_20 : decode cX12_sides 20 = .ok (.aload_n 0, 1) := by decide +kernel
theorem dX12_sides_21 : decode cX12_sides 21 = .ok (.aload_n 0, 1) := by decide +kernel
theorem dX12_sides_22 : decode cX12_sides 22 = .ok (.iconst 1, 1) := by decide +kernel
theorem dX12_sides_23 : decode cX12_sides 23 = .ok (.invokevirtual 338, 3) := by decide +kernel
theorem dX12_sides_26 : decode cX12_sides 26 = .ok (.invokevirtual 341, 3) := by decide +kernel
theorem dX12_sides_29 : decode cX12_sides 29 = .ok (.istore_n 1, 1) := by decide +kernel
theorem dX12_sides_30 : decode cX12_sides 30 = .ok (.iload_n 1, 1) := by decide +kernel
theorem dX12_sides_31 : decode cX12_sides 31 = .ok (.aload_n 0, 1) := by decide +kernel
theorem dX12_sides_32 : decode cX12_sides 32 = .ok (.getfield 13, 3) := by decide +kernel
theorem dX12_sides_35 : decode cX12_sides 35 = .ok (.iconst 2, 1) := by decide +kernel
theorem dX12_sides_36 : decode cX12_sides 36 = .ok (.iaload, 1) := by decide +kernel
theorem dX12_sides_37 : decode cX12_sides 37 = .ok (.ixor, 1) := by decide +kernel
theorem dX12_sides_38 : decode cX12_sides 38 = .ok (.invokestatic 344, 3) := by decide +kernel
theorem dX12_sides_41 : decode cX12_sides 41 = .ok (.istore_n 2, 1) := by decide +kernel
theorem dX12_sides_42 : decode cX12_sides 42 = .ok (.aload_n 0, 1) := by decide +kernel
theorem dX12_sides_43 : decode cX12_sides 43 = .ok (.getfield 13, 3) := by decide +kernel
theorem dX12_sides_46 : decode cX12_sides 46 = .ok (.iconst 2, 1) := by decide +kernel
theorem dX12_sides_47 : decode cX12_sides 47 = .ok (.iload_n 1, 1) := by decide +kernel
theorem dX12_sides_48 : decode cX12_sides 48 = .ok (.iastore, 1) := by decide +kernel
theorem dX12_sides_49 : decode cX12_sides 49 = .ok (.aload_n 0, 1) := by decide +kernel
theorem dX12_sides_50 : decode cX12_sides 50 = .ok (.invokevirtual 314, 3) := by decide +kernel
theorem dX12_sides_53 : decode cX12_sides 53 = .ok (.iload_n 2, 1) := by decide +kernel
theorem dX12_sides_54 : decode cX12_sides 54 = .ok (.ireturn, 1) := by decide +kernel
theorem bX12_sides_0 {d : Nat} {P : Int → q_Mem → Prop} {M : q_Mem} (h : (∀ M1 : q_Mem, M1 = q_up M 178 0 0 → q_kI yX12_laysPairs mX12_laysPairs d [qR 178, qI 1] M1 (fun v3 M2 => ((¬ v3 = 0) → q_kU yX12_stores mX12_stores d [qR 178] M2 (fun M4 => q_kI yX12_cutOf mX12_cutOf d [qR 178, qI 1] M4 (fun v6 M5 => q_kI yX12_sidesOf mX12_sidesOf d [qR 178, qI v6] M5 (fun v8 M7 => (q_kI yX12_bitsOf mX12_bitsOf d [qI (q_xor v8 (M7 179 2))] M7 (fun v10 M9 => (∀ M11 : q_Mem, M11 = q_up M9 179 2 v8 → q_kU yX12_notes mX12_notes d [qR 178] M11 (fun M12 => P v10 M12)))))))) ∧ ((v3 = 0) → P (-5) M2)))) : q_v mX12_sides d (qPI P) M 0 [some (qR 178), none, none] [] := by
  refine qr_aload_n 0 1 rfl (x := 178) rfl dX12_sides_0 ?_
  refine qr_iconst 1 2 rfl (q_l32 _ rfl) dX12_sides_1 ?_
  refine qp_i 2 5 rfl ck12 0 (kk := 0) (by decide) (by decide +kernel) (by decide) rfl rfl wm_1326 rfl dX12_sides_2 (fun M1 e_M1 => ?_)
  have h := h M1 e_M1
  refine qr_aload_n 5 6 rfl (x := 178) rfl dX12_sides_5 ?_
  refine qr_iconst 6 7 rfl (q_l32 _ rfl) dX12_sides_6 ?_
  refine qw_I 7 10 rfl (av := [qI 1]) ca_X12_laysPairs wm_1735 wp_119 wm_1733 ck12 (by decide +kernel) rfl rfl (Nat.le_of_ble_eq_true rfl) dX12_sides_7 h (fun v3 M2 h => ?_)
  refine qr_if_ne 10 13 16 rfl (by decide) dX12_sides_10 (fun c10 => ?_) (fun c10 => ?_)
  · have h := h.1 c10
    refine qr_aload_n 16 17 rfl (x := 178) rfl dX12_sides_16 ?_
    refine qw_U 17 20 rfl (av := []) ca_X12_stores wm_1671 wp_109 wm_1669 ck12 (by decide +kernel) rfl rfl (Nat.le_of_ble_eq_true rfl) dX12_sides_17 h (fun M4 h => ?_)
    refine qr_aload_n 20 21 rfl (x := 178) rfl dX12_sides_20 ?_
    refine qr_aload_n 21 22 rfl (x := 178) rfl dX12_sides_21 ?_
    refine qr_iconst 22 23 rfl (q_l32 _ rfl) dX12_sides_22 ?_
    refine qw_I 23 26 rfl (av := [qI 1]) ca_X12_cutOf wm_1779 wp_128 wm_1777 ck12 (by decide +kernel) rfl rfl (Nat.le_of_ble_eq_true rfl) dX12_sides_23 h (fun v6 M5 h => ?_)
    refine qw_I 26 29 rfl (av := [qI v6]) ca_X12_sidesOf wm_1787 wp_130 wm_1785 ck12 (by decide +kernel) rfl rfl (Nat.le_of_ble_eq_true rfl) dX12_sides_26 h (fun v8 M7 h => ?_)
    refine qr_istore_n 29 30 rfl (by decide) rfl rfl dX12_sides_29 ?_
    refine qr_iload_n 30 31 rfl (x := v8) rfl dX12_sides_30 ?_
    refine qr_aload_n 31 32 rfl (x := 178) rfl dX12_sides_31 ?_
    refine qr_getF 32 35 rfl ck12 1 (by decide) (b := 179) (by decide +kernel) rfl (by decide +kernel) (by decide +kernel) wm_1327 rfl dX12_sides_32 ?_
    refine qr_iconst 35 36 rfl (q_l32 _ rfl) dX12_sides_35 ?_
    refine qi_ld 36 37 rfl (N := 4512) (by decide +kernel) (by decide +kernel) (by decide) (by decide) dX12_sides_36 ?_
    refine qr_ixor 37 38 rfl dX12_sides_37 ?_
    refine qs_I 38 41 rfl (av := [qI (q_xor v8 (M7 179 2))]) ca_X12_bitsOf wm_1790 wm_1789 rfl rfl (Nat.le_of_ble_eq_true rfl) dX12_sides_38 h (fun v10 M9 h => ?_)
    refine qr_istore_n 41 42 rfl (by decide) rfl rfl dX12_sides_41 ?_
    refine qr_aload_n 42 43 rfl (x := 178) rfl dX12_sides_42 ?_
    refine qr_getF 43 46 rfl ck12 1 (by decide) (b := 179) (by decide +kernel) rfl (by decide +kernel) (by decide +kernel) wm_1327 rfl dX12_sides_43 ?_
    refine qr_iconst 46 47 rfl (q_l32 _ rfl) dX12_sides_46 ?_
    refine qr_iload_n 47 48 rfl (x := v8) rfl dX12_sides_47 ?_
    refine qi_st 48 49 rfl (N := 4512) (by decide +kernel) (by decide +kernel) (by decide) (by decide) dX12_sides_48 (fun M11 e_M11 => ?_)
    have h := h M11 e_M11
    refine qr_aload_n 49 50 rfl (x := 178) rfl dX12_sides_49 ?_
    refine qw_U 50 53 rfl (av := []) ca_X12_notes wm_1675 wp_110 wm_1673 ck12 (by decide +kernel) rfl rfl (Nat.le_of_ble_eq_true rfl) dX12_sides_50 h (fun M12 h => ?_)
    refine qr_iload_n 53 54 rfl (x := v10) rfl dX12_sides_53 ?_
    exact qe_i 54 rfl dX12_sides_54 h
  · have h := h.2 c10
    refine qr_bipush 13 15 rfl (q_l32 _ rfl) (by decide) dX12_sides_13 ?_
    exact qe_i 15 rfl dX12_sides_15 h
theorem dX12_undo_0 : decode cX12_undo 0 = .ok (.aload_n 0, 1) := by decide +kernel
theorem dX12_undo_1 : decode cX12_undo 1 = .ok (.iconst 0, 1) := by decide +kernel
theorem dX12_undo_2 : decode cX12_undo 2 = .ok (.putfield 1, 3) := by decide +kernel
theorem dX12_undo_5 : decode cX12_undo 5 = .ok (.iload_n 1, 1) := by decide +kernel
theorem dX12_undo_6 : decode cX12_undo 6 = .ok (.i2l, 1) := by decide +kernel
theorem dX12_undo_7 : decode cX12_undo 7 = .ok (.lconst 1, 1) := by decide +kernel
theorem dX12_undo_8 : decode cX12_undo 8 = .ok (.ldc2_w 347, 3) := by decide +kernel
theorem dX12_undo_11 : decode cX12_undo 11 = .ok (.invokestatic 176, 3) := by decide +kernel
theorem dX12_undo_14 : decode cX12_undo 14 = .ok (.ifCond .eq 14, 3) := by decide +kernel
theorem dX12_undo_17 : decode cX12_undo 17 = .ok (.iload_n 1, 1) := by decide +kernel
theorem dX12_undo_18 : decode cX12_undo 18 = .ok (.aload_n 0, 1) := by decide +kernel
theorem dX12_undo_19 : decode cX12_undo 19 = .ok (.getfield 13, 3) := by decide +kernel
theorem dX12_undo_22 : decode cX12_undo 22 = .ok (.bipush 102, 2) := by decide +kernel
theorem dX12_undo_24 : decode cX12_undo 24 = .ok (.iaload, 1) := by decide +kernel
theorem dX12_undo_25 : decode cX12_undo 25 = .ok (.if_icmp .le 6, 3) := by decide +kernel
theorem dX12_undo_28 : decode cX12_undo 28 = .ok (.bipush (-3), 2) := by decide +kernel
theorem dX12_undo_30 : decode cX12_undo 30 = .ok (.ireturn, 1) := by decide +kernel
theorem dX12_undo_31 : decode cX12_undo 31 = .ok (.aload_n 0, 1) := by decide +kernel
theorem dX12_undo_32 : decode cX12_undo 32 = .ok (.getfield 13, 3) := by decide +kernel
theorem dX12_undo_35 : decode cX12_undo 35 = .ok (.bipush 102, 2) := by decide +kernel
theorem dX12_undo_37 : decode cX12_undo 37 = .ok (.dup2, 1) := by decide +kernel
theorem dX12_undo_38 : decode cX12_undo 38 = .ok (.iaload, 1) := by decide +kernel
theorem dX12_undo_39 : decode cX12_undo 39 = .ok (.iload_n 1, 1) := by decide +kernel
theorem dX12_undo_40 : decode cX12_undo 40 = .ok (.isub, 1) := by decide +kernel
theorem dX12_undo_41 : decode cX12_undo 41 = .ok (.iastore, 1) := by decide +kernel
theorem dX12_undo_42 : decode cX12_undo 42 = .ok (.iconst 0, 1) := by decide +kernel
theorem dX12_undo_43 : decode cX12_undo 43 = .ok (.istore_n 2, 1) := by decide +kernel
theorem dX12_undo_44 : decode cX12_undo 44 = .ok (.iload_n 2, 1) := by decide +kernel
theorem dX12_undo_45 : decode cX12_undo 45 = .ok (.bipush 50, 2) := by decide +kernel
theorem dX12_undo_47 : decode cX12_undo 47 = .ok (.if_icmp .ge 37, 3) := by decide +kernel
theorem dX12_undo_50 : decode cX12_undo 50 = .ok (.aload_n 0, 1) := by decide +kernel
theorem dX12_undo_51 : decode cX12_undo 51 = .ok (.getfield 13, 3) := by decide +kernel
theorem dX12_undo_54 : decode cX12_undo 54 = .ok (.iconst 1, 1) := by decide +kernel
theorem dX12_undo_55 : decode cX12_undo 55 = .ok (.iload_n 2, 1) := by decide +kernel
theorem dX12_undo_56 : decode cX12_undo 56 = .ok (.iadd, 1) := by decide +kernel
theorem dX12_undo_57 : decode cX12_undo 57 = .ok (.aload_n 0, 1) := by decide +kernel
theorem dX12_undo_58 : decode cX12_undo 58 = .ok (.getfield 13, 3) := by decide +kernel
theorem dX12_undo_61 : decode cX12_undo 61 = .ok (.bipush 103, 2) := by decide +kernel
theorem dX12_undo_63 : decode cX12_undo 63 = .ok (.bipush 50, 2) := by decide +kernel
theorem dX12_undo_65 : decode cX12_undo 65 = .ok (.aload_n 0, 1) := by decide +kernel
theorem dX12_undo_66 : decode cX12_undo 66 = .ok (.getfield 13, 3) := by decide +kernel
theorem dX12_undo_69 : decode cX12_undo 69 = .ok (.bipush 102, 2) := by decide +kernel
theorem dX12_undo_71 : decode cX12_undo 71 = .ok (.iaload, 1) := by decide +kernel
theorem dX12_undo_72 : decode cX12_undo 72 = .ok (.imul, 1) := by decide +kernel
theorem dX12_undo_73 : decode cX12_undo 73 = .ok (.iadd, 1) := by decide +kernel
theorem dX12_undo_74 : decode cX12_undo 74 = .ok (.iload_n 2, 1) := by decide +kernel
theorem dX12_undo_75 : decode cX12_undo 75 = .ok (.iadd, 1) := by decide +kernel
theorem dX12_undo_76 : decode cX12_undo 76 = .ok (.iaload, 1) := by decide +kernel
theorem dX12_undo_77 : decode cX12_undo 77 = .ok (.iastore, 1) := by decide +kernel
theorem dX12_undo_78 : decode cX12_undo 78 = .ok (.iinc 2 1, 3) := by decide +kernel
theorem dX12_undo_81 : decode cX12_undo 81 = .ok (.goto (-37), 3) := by decide +kernel
theorem dX12_undo_84 : decode cX12_undo 84 = .ok (.aload_n 0, 1) := by decide +kernel
theorem dX12_undo_85 : decode cX12_undo 85 = .ok (.getfield 13, 3) := by decide +kernel
theorem dX12_undo_88 : decode cX12_undo 88 = .ok (.bipush 102, 2) := by decide +kernel
theorem dX12_undo_90 : decode cX12_undo 90 = .ok (.iaload, 1) := by decide +kernel
theorem dX12_undo_91 : decode cX12_undo 91 = .ok (.ireturn, 1) := by decide +kernel
theorem bX12_undo_0 {d : Nat} {P : Int → q_Mem → Prop} {M : q_Mem} (x1 : Int) (h : (∀ M1 : q_Mem, M1 = q_up M 178 0 0 → q_kI yX12_within mX12_within d [qL x1, qL 1, qL 10] M1 (fun v3 M2 => ((v3 = 0) → P (-3) M2) ∧ ((¬ (v3 = 0)) → (((x1 ≤ (M2 179 102)) → ((∀ M4 : q_Mem, M4 = q_up M2 179 102 (q_sub (M2 179 102) x1) → q_v mX12_undo d (qPI P) M4 44 [some (qR 178), none, some (qI 0)] []))) ∧ ((¬ (x1 ≤ (M2 179 102))) → P (-3) M2)))))) : q_v mX12_undo d (qPI P) M 0 [some (qR 178), some (qI x1), none] [] := by
  refine qr_aload_n 0 1 rfl (x := 178) rfl dX12_undo_0 ?_
  refine qr_iconst 1 2 rfl (q_l32 _ rfl) dX12_undo_1 ?_
  refine qp_i 2 5 rfl ck12 0 (kk := 0) (by decide) (by decide +kernel) (by decide) rfl rfl wm_1326 rfl dX12_undo_2 (fun M1 e_M1 => ?_)
  have h := h M1 e_M1
  refine qr_iload_n 5 6 rfl (x := x1) rfl dX12_undo_5 ?_
  refine qr_i2l 6 7 rfl dX12_undo_6 ?_
  refine qr_lconst 7 8 rfl (w := 1) (q_l64 _ rfl) (by decide) dX12_undo_7 ?_
  refine qr_ldc2 8 11 rfl (v := 10) (q_l64 _ rfl) wm_1796 dX12_undo_8 ?_
  refine qs_I 11 14 rfl (av := [qL x1, qL 1, qL 10]) ca_X12_within wm_1481 wm_1480 rfl rfl (Nat.le_of_ble_eq_true rfl) dX12_undo_11 h (fun v3 M2 h => ?_)
  refine qr_if_eq 14 17 28 rfl (by decide) dX12_undo_14 (fun c14 => ?_) (fun c14 => ?_)
  · have h := h.1 c14
    refine qr_bipush 28 30 rfl (q_l32 _ rfl) (by decide) dX12_undo_28 ?_
    exact qe_i 30 rfl dX12_undo_30 h
  · have h := h.2 c14
    refine qr_iload_n 17 18 rfl (x := x1) rfl dX12_undo_17 ?_
    refine qr_aload_n 18 19 rfl (x := 178) rfl dX12_undo_18 ?_
    refine qr_getF 19 22 rfl ck12 1 (by decide) (b := 179) (by decide +kernel) rfl (by decide +kernel) (by decide +kernel) wm_1327 rfl dX12_undo_19 ?_
    refine qr_bipush 22 24 rfl (q_l32 _ rfl) (by decide) dX12_undo_22 ?_
    refine qi_ld 24 25 rfl (N := 4512) (by decide +kernel) (by decide +kernel) (by decide) (by decide) dX12_undo_24 ?_
    refine qr_icmp_le 25 28 31 rfl (by decide) dX12_undo_25 (fun c25 => ?_) (fun c25 => ?_)
    · have h := h.1 c25
      refine qr_aload_n 31 32 rfl (x := 178) rfl dX12_undo_31 ?_
      refine qr_getF 32 35 rfl ck12 1 (by decide) (b := 179) (by decide +kernel) rfl (by decide +kernel) (by decide +kernel) wm_1327 rfl dX12_undo_32 ?_
      refine qr_bipush 35 37 rfl (q_l32 _ rfl) (by decide) dX12_undo_35 ?_
      refine qr_dup2 37 38 rfl rfl rfl dX12_undo_37 ?_
      refine qi_ld 38 39 rfl (N := 4512) (by decide +kernel) (by decide +kernel) (by decide) (by decide) dX12_undo_38 ?_
      refine qr_iload_n 39 40 rfl (x := x1) rfl dX12_undo_39 ?_
      refine qr_isub 40 41 rfl dX12_undo_40 ?_
      refine qi_st 41 42 rfl (N := 4512) (by decide +kernel) (by decide +kernel) (by decide) (by decide) dX12_undo_41 (fun M4 e_M4 => ?_)
      have h := h M4 e_M4
      refine qr_iconst 42 43 rfl (q_l32 _ rfl) dX12_undo_42 ?_
      refine qr_istore_n 43 44 rfl (by decide) rfl rfl dX12_undo_43 ?_
      exact qr_cut 44 (ls' := [some (qR 178), none, some (qI 0)]) (And.intro rfl (And.intro rfl trivial)) h
    · have h := h.2 c25
      refine qr_bipush 28 30 rfl (q_l32 _ rfl) (by decide) dX12_undo_28 ?_
      exact qe_i 30 rfl dX12_undo_30 h
theorem bX12_undo_44 {d : Nat} {P : Int → q_Mem → Prop} {M : q_Mem} (x2 : Int) (h : (((50 : Int) ≤ x2) → (P (M 179 102) M)) ∧ ((¬ ((50 : Int) ≤ x2)) → ((0 ≤ (q_add (q_add 103 (q_mul 50 (M 179 102))) x2) ∧ (q_add (q_add 103 (q_mul 50 (M 179 102))) x2) < (4512 : Int)) ∧ ((0 ≤ (q_add 1 x2) ∧ (q_add 1 x2) < (4512 : Int)) ∧ (∀ M3 : q_Mem, M3 = q_up M 179 (q_add 1 x2) (M 179 (q_add (q_add 103 (q_mul 50 (M 179 102))) x2)) → q_v mX12_undo d (qPI P) M3 44 [some (qR 178), none, some (qI (q_add x2 1))] []))))) : q_v mX12_undo d (qPI P) M 44 [some (qR 178), none, some (qI x2)] [] := by
  refine qr_iload_n 44 45 rfl (x := x2) rfl dX12_undo_44 ?_
  refine qr_bipush 45 47 rfl (q_l32 _ rfl) (by decide) dX12_undo_45 ?_
  refine qr_icmp_ge 47 50 84 rfl (by decide) dX12_undo_47 (fun c47 => ?_) (fun c47 => ?_)
  · have h := h.1 c47
    refine qr_aload_n 84 85 rfl (x := 178) rfl dX12_undo_84 ?_
    refine qr_getF 85 88 rfl ck12 1 (by decide) (b := 179) (by decide +kernel) rfl (by decide +kernel) (by decide +kernel) wm_1327 rfl dX12_undo_85 ?_
    refine qr_bipush 88 90 rfl (q_l32 _ rfl) (by decide) dX12_undo_88 ?_
    refine qi_ld 90 91 rfl (N := 4512) (by decide +kernel) (by decide +kernel) (by decide) (by decide) dX12_undo_90 ?_
    exact qe_i 91 rfl dX12_undo_91 h
  · have h := h.2 c47
    refine qr_aload_n 50 51 rfl (x := 178) rfl dX12_undo_50 ?_
    refine qr_getF 51 54 rfl ck12 1 (by decide) (b := 179) (by decide +kernel) rfl (by decide +kernel) (by decide +kernel) wm_1327 rfl dX12_undo_51 ?_
    refine qr_iconst 54 55 rfl (q_l32 _ rfl) dX12_undo_54 ?_
    refine qr_iload_n 55 56 rfl (x := x2) rfl dX12_undo_55 ?_
    refine qr_iadd 56 57 rfl dX12_undo_56 ?_
    refine qr_aload_n 57 58 rfl (x := 178) rfl dX12_undo_57 ?_
    refine qr_getF 58 61 rfl ck12 1 (by decide) (b := 179) (by decide +kernel) rfl (by decide +kernel) (by decide +kernel) wm_1327 rfl dX12_undo_58 ?_
    refine qr_bipush 61 63 rfl (q_l32 _ rfl) (by decide) dX12_undo_61 ?_
    refine qr_bipush 63 65 rfl (q_l32 _ rfl) (by decide) dX12_undo_63 ?_
    refine qr_aload_n 65 66 rfl (x := 178) rfl dX12_undo_65 ?_
    refine qr_getF 66 69 rfl ck12 1 (by decide) (b := 179) (by decide +kernel) rfl (by decide +kernel) (by decide +kernel) wm_1327 rfl dX12_undo_66 ?_
    refine qr_bipush 69 71 rfl (q_l32 _ rfl) (by decide) dX12_undo_69 ?_
    refine qi_ld 71 72 rfl (N := 4512) (by decide +kernel) (by decide +kernel) (by decide) (by decide) dX12_undo_71 ?_
    refine qr_imul 72 73 rfl dX12_undo_72 ?_
    refine qr_iadd 73 74 rfl dX12_undo_73 ?_
    refine qr_iload_n 74 75 rfl (x := x2) rfl dX12_undo_74 ?_
    refine qr_iadd 75 76 rfl dX12_undo_75 ?_
    have hb1 := h.1
    have h := h.2
    refine qi_ld 76 77 rfl (N := 4512) (by decide +kernel) (by decide +kernel) hb1.1 hb1.2 dX12_undo_76 ?_
    have hb2 := h.1
    have h := h.2
    refine qi_st 77 78 rfl (N := 4512) (by decide +kernel) (by decide +kernel) hb2.1 hb2.2 dX12_undo_77 (fun M3 e_M3 => ?_)
    have h := h M3 e_M3
    refine qr_iinc 78 81 rfl (by decide) (x := x2) rfl rfl rfl dX12_undo_78 ?_
    refine qr_goto 81 44 (by decide) dX12_undo_81 ?_
    exact h
theorem dX12_canBe_0 : decode cX12_canBe 0 = .ok (.lload_n 1, 1) := by decide +kernel
theorem dX12_canBe_1 : decode cX12_canBe 1 = .ok (.lconst 0, 1) := by decide +kernel
theorem dX12_canBe_2 : decode cX12_canBe 2 = .ok (.ldc2_w 330, 3) := by decide +kernel
theorem dX12_canBe_5 : decode cX12_canBe 5 = .ok (.invokestatic 176, 3) := by decide +kernel
theorem dX12_canBe_8 : decode cX12_canBe 8 = .ok (.ifCond .eq 9, 3) := by decide +kernel
theorem dX12_canBe_11 : decode cX12_canBe 11 = .ok (.aload_n 0, 1) := by decide +kernel
theorem dX12_canBe_12 : decode cX12_canBe 12 = .ok (.lload_n 1, 1) := by decide +kernel
theorem dX12_canBe_13 : decode cX12_canBe 13 = .ok (.invokevirtual 303, 3) := by decide +kernel
theorem dX12_canBe_16 : decode cX12_canBe 16 = .ok (.ireturn, 1) := by decide +kernel
theorem dX12_canBe_17 : decode cX12_canBe 17 = .ok (.lload_n 1, 1) := by decide +kernel
theorem dX12_canBe_18 : decode cX12_canBe 18 = .ok (.ldc2_w 347, 3) := by decide +kernel
theorem dX12_canBe_21 : decode cX12_canBe 21 = .ok (.ldc2_w 349, 3) := by decide +kernel
theorem dX12_canBe_24 : decode cX12_canBe 24 = .ok (.invokestatic 176, 3) := by decide +kernel
theorem dX12_canBe_27 : decode cX12_canBe 27 = .ok (.ifCond .eq 5, 3) := by decide +kernel
theorem dX12_canBe_30 : decode cX12_canBe 30 = .ok (.iconst 1, 1) := by decide +kernel
theorem dX12_canBe_31 : decode cX12_canBe 31 = .ok (.ireturn, 1) := by decide +kernel
theorem dX12_canBe_32 : decode cX12_canBe 32 = .ok (.lload_n 1, 1) := by decide +kernel
theorem dX12_canBe_33 : decode cX12_canBe 33 = .ok (.ldc2_w 351, 3) := by decide +kernel
theorem dX12_canBe_36 : decode cX12_canBe 36 = .ok (.ldc2_w 353, 3) := by decide +kernel
theorem dX12_canBe_39 : decode cX12_canBe 39 = .ok (.invokestatic 176, 3) := by decide +kernel
theorem dX12_canBe_42 : decode cX12_canBe 42 = .ok (.ifCond .eq 26, 3) := by decide +kernel
theorem dX12_canBe_45 : decode cX12_canBe 45 = .ok (.aload_n 0, 1) := by decide +kernel
theorem dX12_canBe_46 : decode cX12_canBe 46 = .ok (.lload_n 1, 1) := by decide +kernel
theorem dX12_canBe_47 : decode cX12_canBe 47 = .ok (.ldc2_w 351, 3) := by decide +kernel
theorem dX12_canBe_50 : decode cX12_canBe 50 = .ok (.lsub, 1) := by decide +kernel
theorem dX12_canBe_51 : decode cX12_canBe 51 = .ok (.l2i, 1) := by decide +kernel
theorem dX12_canBe_52 : decode cX12_canBe 52 = .ok (.bipush 16, 2) := by decide +kernel
theorem dX12_canBe_54 : decode cX12_canBe 54 = .ok (.idiv, 1) := by decide +kernel
theorem dX12_canBe_55 : decode cX12_canBe 55 = .ok (.lload_n 1, 1) := by decide +kernel
theorem dX12_canBe_56 : decode cX12_canBe 56 = .ok (.ldc2_w 351, 3) := by decide +kernel
theorem dX12_canBe_59 : decode cX12_canBe 59 = .ok (.lsub, 1) := by decide +kernel
theorem dX12_canBe_60 : decode cX12_canBe 60 = .ok (.l2i, 1) := by decide +kernel
theorem dX12_canBe_61 : decode cX12_canBe 61 = .ok (.bipush 16, 2) := by decide +kernel
theorem dX12_canBe_63 : decode cX12_canBe 63 = .ok (.irem, 1) := by decide +kernel
theorem dX12_canBe_64 : decode cX12_canBe 64 = .ok (.invokevirtual 320, 3) := by decide +kernel
theorem dX12_canBe_67 : decode cX12_canBe 67 = .ok (.ireturn, 1) := by decide +kernel
theorem dX12_canBe_68 : decode cX12_canBe 68 = .ok (.lload_n 1, 1) := by decide +kernel
theorem dX12_canBe_69 : decode cX12_canBe 69 = .ok (.ldc2_w 355, 3) := by decide +kernel
theorem dX12_canBe_72 : decode cX12_canBe 72 = .ok (.ldc2_w 357, 3) := by decide +kernel
theorem dX12_canBe_75 : decode cX12_canBe 75 = .ok (.invokestatic 176, 3) := by decide +kernel
theorem dX12_canBe_78 : decode cX12_canBe 78 = .ok (.ifCond .eq 35, 3) := by decide +kernel
theorem dX12_canBe_81 : decode cX12_canBe 81 = .ok (.aload_n 0, 1) := by decide +kernel
theorem dX12_canBe_82 : decode cX12_canBe 82 = .ok (.lload_n 1, 1) := by decide +kernel
theorem dX12_canBe_83 : decode cX12_canBe 83 = .ok (.ldc2_w 355, 3) := by decide +kernel
theorem dX12_canBe_86 : decode cX12_canBe 86 = .ok (.lsub, 1) := by decide +kernel
theorem dX12_canBe_87 : decode cX12_canBe 87 = .ok (.ldc2_w 355, 3) := by decide +kernel
theorem dX12_canBe_90 : decode cX12_canBe 90 = .ok (.ldiv, 1) := by decide +kernel
theorem dX12_canBe_91 : decode cX12_canBe 91 = .ok (.invokevirtual 296, 3) := by decide +kernel
theorem dX12_canBe_94 : decode cX12_canBe 94 = .ok (.ifCond .eq 19, 3) := by decide +kernel
theorem dX12_canBe_97 : decode cX12_canBe 97 = .ok (.lload_n 1, 1) := by decide +kernel
theorem dX12_canBe_98 : decode cX12_canBe 98 = .ok (.ldc2_w 355, 3) := by decide +kernel
theorem dX12_canBe_101 : decode cX12_canBe 101 = .ok (.lrem, 1) := by decide +kernel
theorem dX12_canBe_102 : decode cX12_canBe 102 = .ok (.ldc2_w 359, 3) := by decide +kernel
theorem dX12_canBe_105 : decode cX12_canBe 105 = .ok (.lcmp, 1) := by decide +kernel
theorem dX12_canBe_106 : decode cX12_canBe 106 = .ok (.ifCond .ge 7, 3) := by decide +kernel
theorem dX12_canBe_109 : decode cX12_canBe 109 = .ok (.iconst 1, 1) := by decide +kernel
theorem dX12_canBe_110 : decode cX12_canBe 110 = .ok (.goto 4, 3) := by decide +kernel
theorem dX12_canBe_113 : decode cX12_canBe 113 = .ok (.iconst 0, 1) := by decide +kernel
theorem dX12_canBe_114 : decode cX12_canBe 114 = .ok (.ireturn, 1) := by decide +kernel
theorem bX12_canBe_0 {d : Nat} {P : Int → q_Mem → Prop} {M : q_Mem} (x1 : Int) (h : q_kI yX12_within mX12_within d [qL x1, qL 0, qL 9] M (fun v2 M1 => ((v2 = 0) → q_kI yX12_within mX12_within d [qL x1, qL 10, qL 19] M1 (fun v4 M3 => ((v4 = 0) → q_kI yX12_within mX12_within d [qL x1, qL 100, qL 259] M3 (fun v6 M5 => ((v6 = 0) → q_kI yX12_within mX12_within d [qL x1, qL 1000, qL 17198] M5 (fun v8 M7 => ((v8 = 0) → P 0 M7) ∧ ((¬ (v8 = 0)) → q_kI yX12_isLink mX12_isLink d [qR 178, qL (q_ldiv (q_lsub x1 1000) 1000)] M7 (fun v10 M9 => ((v10 = 0) → P 0 M9) ∧ ((¬ (v10 = 0)) → ((0 ≤ (q_lcmp (q_lrem x1 1000) 199)) → P 0 M9) ∧ ((¬ (0 ≤ (q_lcmp (q_lrem x1 1000) 199))) → P 1 M9)))))) ∧ ((¬ (v6 = 0)) → q_kI yX12_canTurn mX12_canTurn d [qR 178, qI (q_div (q_l2i (q_lsub x1 100)) 16), qI (q_rem (q_l2i (q_lsub x1 100)) 16)] M5 (fun v12 M11 => (v12 = 0 ∨ v12 = 1) ∧ P v12 M11)))) ∧ ((¬ (v4 = 0)) → P 1 M3))) ∧ ((¬ (v2 = 0)) → q_kI yX12_isNode mX12_isNode d [qR 178, qL x1] M1 (fun v14 M13 => (v14 = 0 ∨ v14 = 1) ∧ P v14 M13)))) : q_v mX12_canBe d (qPI P) M 0 [some (qR 178), some (qL x1), none] [] := by
  refine qr_lload_n 0 1 rfl (x := x1) rfl dX12_canBe_0 ?_
  refine qr_lconst 1 2 rfl (w := 0) (q_l64 _ rfl) (by decide) dX12_canBe_1 ?_
  refine qr_ldc2 2 5 rfl (v := 9) (q_l64 _ rfl) wm_1720 dX12_canBe_2 ?_
  refine qs_I 5 8 rfl (av := [qL x1, qL 0, qL 9]) ca_X12_within wm_1481 wm_1480 rfl rfl (Nat.le_of_ble_eq_true rfl) dX12_canBe_5 h (fun v2 M1 h => ?_)
  refine qr_if_eq 8 11 17 rfl (by decide) dX12_canBe_8 (fun c8 => ?_) (fun c8 => ?_)
  · have h := h.1 c8
    refine qr_lload_n 17 18 rfl (x := x1) rfl dX12_canBe_17 ?_
    refine qr_ldc2 18 21 rfl (v := 10) (q_l64 _ rfl) wm_1796 dX12_canBe_18 ?_
    refine qr_ldc2 21 24 rfl (v := 19) (q_l64 _ rfl) wm_1813 dX12_canBe_21 ?_
    refine qs_I 24 27 rfl (av := [qL x1, qL 10, qL 19]) ca_X12_within wm_1481 wm_1480 rfl rfl (Nat.le_of_ble_eq_true rfl) dX12_canBe_24 h (fun v4 M3 h => ?_)
    refine qr_if_eq 27 30 32 rfl (by decide) dX12_canBe_27 (fun c27 => ?_) (fun c27 => ?_)
    · have h := h.1 c27
      refine qr_lload_n 32 33 rfl (x := x1) rfl dX12_canBe_32 ?_
      refine qr_ldc2 33 36 rfl (v := 100) (q_l64 _ rfl) wm_1814 dX12_canBe_33 ?_
      refine qr_ldc2 36 39 rfl (v := 259) (q_l64 _ rfl) wm_1815 dX12_canBe_36 ?_
      refine qs_I 39 42 rfl (av := [qL x1, qL 100, qL 259]) ca_X12_within wm_1481 wm_1480 rfl rfl (Nat.le_of_ble_eq_true rfl) dX12_canBe_39 h (fun v6 M5 h => ?_)
      refine qr_if_eq 42 45 68 rfl (by decide) dX12_canBe_42 (fun c42 => ?_) (fun c42 => ?_)
      · have h := h.1 c42
        refine qr_lload_n 68 69 rfl (x := x1) rfl dX12_canBe_68 ?_
        refine qr_ldc2 69 72 rfl (v := 1000) (q_l64 _ rfl) wm_1816 dX12_canBe_69 ?_
        refine qr_ldc2 72 75 rfl (v := 17198) (q_l64 _ rfl) wm_1817 dX12_canBe_72 ?_
        refine qs_I 75 78 rfl (av := [qL x1, qL 1000, qL 17198]) ca_X12_within wm_1481 wm_1480 rfl rfl (Nat.le_of_ble_eq_true rfl) dX12_canBe_75 h (fun v8 M7 h => ?_)
        refine qr_if_eq 78 81 113 rfl (by decide) dX12_canBe_78 (fun c78 => ?_) (fun c78 => ?_)
        · have h := h.1 c78
          refine qr_iconst 113 114 rfl (q_l32 _ rfl) dX12_canBe_113 ?_
          exact qe_z 114 rfl (by decide) dX12_canBe_114 h
        · have h := h.2 c78
          refine qr_aload_n 81 82 rfl (x := 178) rfl dX12_canBe_81 ?_
          refine qr_lload_n 82 83 rfl (x := x1) rfl dX12_canBe_82 ?_
          refine qr_ldc2 83 86 rfl (v := 1000) (q_l64 _ rfl) wm_1816 dX12_canBe_83 ?_
          refine qr_lsub 86 87 rfl dX12_canBe_86 ?_
          refine qr_ldc2 87 90 rfl (v := 1000) (q_l64 _ rfl) wm_1816 dX12_canBe_87 ?_
          refine qr_ldiv 90 91 rfl (by decide) dX12_canBe_90 ?_
          refine qw_I 91 94 rfl (av := [qL (q_ldiv (q_lsub x1 1000) 1000)]) ca_X12_isLink wm_1610 wp_101 wm_1608 ck12 (by decide +kernel) rfl rfl (Nat.le_of_ble_eq_true rfl) dX12_canBe_91 h (fun v10 M9 h => ?_)
          refine qr_if_eq 94 97 113 rfl (by decide) dX12_canBe_94 (fun c94 => ?_) (fun c94 => ?_)
          · have h := h.1 c94
            refine qr_iconst 113 114 rfl (q_l32 _ rfl) dX12_canBe_113 ?_
            exact qe_z 114 rfl (by decide) dX12_canBe_114 h
          · have h := h.2 c94
            refine qr_lload_n 97 98 rfl (x := x1) rfl dX12_canBe_97 ?_
            refine qr_ldc2 98 101 rfl (v := 1000) (q_l64 _ rfl) wm_1816 dX12_canBe_98 ?_
            refine qr_lrem 101 102 rfl (by decide) dX12_canBe_101 ?_
            refine qr_ldc2 102 105 rfl (v := 199) (q_l64 _ rfl) wm_1818 dX12_canBe_102 ?_
            refine qr_lcmp 105 106 rfl dX12_canBe_105 ?_
            refine qr_if_ge 106 109 113 rfl (by decide) dX12_canBe_106 (fun c106 => ?_) (fun c106 => ?_)
            · have h := h.1 c106
              refine qr_iconst 113 114 rfl (q_l32 _ rfl) dX12_canBe_113 ?_
              exact qe_z 114 rfl (by decide) dX12_canBe_114 h
            · have h := h.2 c106
              refine qr_iconst 109 110 rfl (q_l32 _ rfl) dX12_canBe_109 ?_
              refine qr_goto 110 114 (by decide) dX12_canBe_110 ?_
              exact qe_z 114 rfl (by decide) dX12_canBe_114 h
      · have h := h.2 c42
        refine qr_aload_n 45 46 rfl (x := 178) rfl dX12_canBe_45 ?_
        refine qr_lload_n 46 47 rfl (x := x1) rfl dX12_canBe_46 ?_
        refine qr_ldc2 47 50 rfl (v := 100) (q_l64 _ rfl) wm_1814 dX12_canBe_47 ?_
        refine qr_lsub 50 51 rfl dX12_canBe_50 ?_
        refine qr_l2i 51 52 rfl dX12_canBe_51 ?_
        refine qr_bipush 52 54 rfl (q_l32 _ rfl) (by decide) dX12_canBe_52 ?_
        refine qr_idiv 54 55 rfl (by decide) dX12_canBe_54 ?_
        refine qr_lload_n 55 56 rfl (x := x1) rfl dX12_canBe_55 ?_
        refine qr_ldc2 56 59 rfl (v := 100) (q_l64 _ rfl) wm_1814 dX12_canBe_56 ?_
        refine qr_lsub 59 60 rfl dX12_canBe_59 ?_
        refine qr_l2i 60 61 rfl dX12_canBe_60 ?_
        refine qr_bipush 61 63 rfl (q_l32 _ rfl) (by decide) dX12_canBe_61 ?_
        refine qr_irem 63 64 rfl (by decide) dX12_canBe_63 ?_
        refine qw_I 64 67 rfl (av := [qI (q_div (q_l2i (q_lsub x1 100)) 16), qI (q_rem (q_l2i (q_lsub x1 100)) 16)]) ca_X12_canTurn wm_1702 wp_114 wm_1700 ck12 (by decide +kernel) rfl rfl (Nat.le_of_ble_eq_true rfl) dX12_canBe_64 h (fun v12 M11 h => ?_)
        exact qe_z 67 rfl h.1 dX12_canBe_67 h.2
    · have h := h.2 c27
      refine qr_iconst 30 31 rfl (q_l32 _ rfl) dX12_canBe_30 ?_
      exact qe_z 31 rfl (by decide) dX12_canBe_31 h
  · have h := h.2 c8
    refine qr_aload_n 11 12 rfl (x := 178) rfl dX12_canBe_11 ?_
    refine qr_lload_n 12 13 rfl (x := x1) rfl dX12_canBe_12 ?_
    refine qw_I 13 16 rfl (av := [qL x1]) ca_X12_isNode wm_1656 wp_108 wm_1654 ck12 (by decide +kernel) rfl rfl (Nat.le_of_ble_eq_true rfl) dX12_canBe_13 h (fun v14 M13 h => ?_)
    exact qe_z 16 rfl h.1 dX12_canBe_16 h.2
theorem dX12_does_0 : decode cX12_does 0 = .ok (.iload_n 1, 1) := by decide +kernel
theorem dX12_does_1 : decode cX12_does 1 = .ok (.bipush 10, 2) := by decide +kernel
theorem dX12_does_3 : decode cX12_does 3 = .ok (.if_icmp .ge 18, 3) := by decide +kernel
theorem dX12_does_6 : decode cX12_does 6 = .ok (.aload_n 0, 1) := by decide +kernel
theorem dX12_does_7 : decode cX12_does 7 = .ok (.getfield 13, 3) := by decide +kernel
theorem dX12_does_10 : decode cX12_does 10 = .ok (.iconst 2, 1) := by decide +kernel
theorem dX12_does_11 : decode cX12_does 11 = .ok (.dup2, 1) := by decide +kernel
theorem dX12_does_12 : decode cX12_does 12 = .ok (.iaload, 1) := by decide +kernel
theorem dX12_does_13 : decode cX12_does 13 = .ok (.iconst 1, 1) := by decide +kernel
theorem dX12_does_14 : decode cX12_does 14 = .ok (.iload_n 1, 1) := by decide +kernel
theorem dX12_does_15 : decode cX12_does 15 = .ok (.ishl, 1) := by decide +kernel
theorem dX12_does_16 : decode cX12_does 16 = .ok (.ixor, 1) := by decide +kernel
theorem dX12_does_17 : decode cX12_does 17 = .ok (.iastore, 1) := by decide +kernel
theorem dX12_does_18 : decode cX12_does 18 = .ok (.goto 74, 3) := by decide +kernel
theorem dX12_does_21 : decode cX12_does 21 = .ok (.iload_n 1, 1) := by decide +kernel
theorem dX12_does_22 : decode cX12_does 22 = .ok (.bipush 20, 2) := by decide +kernel
theorem dX12_does_24 : decode cX12_does 24 = .ok (.if_icmp .ge 16, 3) := by decide +kernel
theorem dX12_does_27 : decode cX12_does 27 = .ok (.aload_n 0, 1) := by decide +kernel
theorem dX12_does_28 : decode cX12_does 28 = .ok (.getfield 13, 3) := by decide +kernel
theorem dX12_does_31 : decode cX12_does 31 = .ok (.iconst 1, 1) := by decide +kernel
theorem dX12_does_32 : decode cX12_does 32 = .ok (.iload_n 1, 1) := by decide +kernel
theorem dX12_does_33 : decode cX12_does 33 = .ok (.bipush 10, 2) := by decide +kernel
theorem dX12_does_35 : decode cX12_does 35 = .ok (.isub, 1) := by decide +kernel
theorem dX12_does_36 : decode cX12_does 36 = .ok (.iastore, 1) := by decide +kernel
theorem dX12_does_37 : decode cX12_does 37 = .ok (.goto 55, 3) := by decide +kernel
theorem dX12_does_40 : decode cX12_does 40 = .ok (.iload_n 1, 1) := by decide +kernel
theorem dX12_does_41 : decode cX12_does 41 = .ok (.sipush 260, 3) := by decide +kernel
theorem dX12_does_44 : decode cX12_does 44 = .ok (.if_icmp .ge 24, 3) := by decide +kernel
theorem dX12_does_47 : decode cX12_does 47 = .ok (.aload_n 0, 1) := by decide +kernel
theorem dX12_does_48 : decode cX12_does 48 = .ok (.iload_n 1, 1) := by decide +kernel
theorem dX12_does_49 : decode cX12_does 49 = .ok (.bipush 100, 2) := by decide +kernel
theorem dX12_does_51 : decode cX12_does 51 = .ok (.isub, 1) := by decide +kernel
theorem dX12_does_52 : decode cX12_does 52 = .ok (.bipush 16, 2) := by decide +kernel
theorem dX12_does_54 : decode cX12_does 54 = .ok (.idiv, 1) := by decide +kernel
theorem dX12_does_55 : decode cX12_does 55 = .ok (.iload_n 1, 1) := by decide +kernel
theorem dX12_does_56 : decode cX12_does 56 = .ok (.bipush 100, 2) := by decide +kernel
theorem dX12_does_58 : decode cX12_does 58 = .ok (.isub, 1) := by decide +kernel
theorem dX12_does_59 : decode cX12_does 59 = .ok (.bipush 16, 2) := by decide +kernel
theorem dX12_does_61 : decode cX12_does 61 = .ok (.irem, 1) := by decide +kernel
theorem dX12_does_62 : decode cX12_does 62 = .ok (.invokevirtual 323, 3) := by decide +kernel
theorem dX12_does_65 : decode cX12_does 65 = .ok (.goto 27, 3) := by decide +kernel
theorem dX12_does_68 : decode cX12_does 68 = .ok (.aload_n 0, 1) := by decide +kernel
theorem dX12_does_69 : decode cX12_does 69 = .ok (.getfield 13, 3) := by decide +kernel
theorem dX12_does_72 : decode cX12_does 72 = .ok (.iconst 3, 1) := by decide +kernel
theorem dX12_does_73 : decode cX12_does 73 = .ok (.iload_n 1, 1) := by decide +kernel
theorem dX12_does_74 : decode cX12_does 74 = .ok (.sipush 1000, 3) := by decide +kernel
theorem dX12_does_77 : decode cX12_does 77 = .ok (.isub, 1) := by decide +kernel
theorem dX12_does_78 : decode cX12_does 78 = .ok (.sipush 1000, 3) := by decide +kernel
theorem dX12_does_81 : decode cX12_does 81 = .ok (.idiv, 1) := by decide +kernel
theorem dX12_does_82 : decode cX12_does 82 = .ok (.iadd, 1) := by decide +kernel
theorem dX12_does_83 : decode cX12_does 83 = .ok (.iload_n 1, 1) := by decide +kernel
theorem dX12_does_84 : decode cX12_does 84 = .ok (.sipush 1000, 3) := by decide +kernel
theorem dX12_does_87 : decode cX12_does 87 = .ok (.irem, 1) := by decide +kernel
theorem dX12_does_88 : decode cX12_does 88 = .ok (.bipush 99, 2) := by decide +kernel
theorem dX12_does_90 : decode cX12_does 90 = .ok (.isub, 1) := by decide +kernel
theorem dX12_does_91 : decode cX12_does 91 = .ok (.iastore, 1) := by decide +kernel
theorem dX12_does_92 : decode cX12_does 92 = .ok (.return_, 1) := by decide +kernel
theorem bX12_does_0 {d : Nat} {P : q_Mem → Prop} {M : q_Mem} (x1 : Int) (h : (((10 : Int) ≤ x1) → (((20 : Int) ≤ x1) → (((260 : Int) ≤ x1) → (0 ≤ (q_add 3 (q_div (q_sub x1 1000) 1000)) ∧ (q_add 3 (q_div (q_sub x1 1000) 1000)) < (4512 : Int)) ∧ (∀ M2 : q_Mem, M2 = q_up M 179 (q_add 3 (q_div (q_sub x1 1000) 1000)) (q_sub (q_rem x1 1000) 99) → P M2)) ∧ ((¬ ((260 : Int) ≤ x1)) → q_kU yX12_turns mX12_turns d [qR 178, qI (q_div (q_sub x1 100) 16), qI (q_rem (q_sub x1 100) 16)] M (fun M3 => P M3))) ∧ ((¬ ((20 : Int) ≤ x1)) → (∀ M4 : q_Mem, M4 = q_up M 179 1 (q_sub x1 10) → P M4))) ∧ ((¬ ((10 : Int) ≤ x1)) → ((∀ M5 : q_Mem, M5 = q_up M 179 2 (q_xor (M 179 2) (q_shl 1 x1)) → P M5)))) : q_v mX12_does d (qPU P) M 0 [some (qR 178), some (qI x1)] [] := by
  refine qr_iload_n 0 1 rfl (x := x1) rfl dX12_does_0 ?_
  refine qr_bipush 1 3 rfl (q_l32 _ rfl) (by decide) dX12_does_1 ?_
  refine qr_icmp_ge 3 6 21 rfl (by decide) dX12_does_3 (fun c3 => ?_) (fun c3 => ?_)
  · have h := h.1 c3
    refine qr_iload_n 21 22 rfl (x := x1) rfl dX12_does_21 ?_
    refine qr_bipush 22 24 rfl (q_l32 _ rfl) (by decide) dX12_does_22 ?_
    refine qr_icmp_ge 24 27 40 rfl (by decide) dX12_does_24 (fun c24 => ?_) (fun c24 => ?_)
    · have h := h.1 c24
      refine qr_iload_n 40 41 rfl (x := x1) rfl dX12_does_40 ?_
      refine qr_sipush 41 44 rfl (q_l32 _ rfl) (by decide) dX12_does_41 ?_
      refine qr_icmp_ge 44 47 68 rfl (by decide) dX12_does_44 (fun c44 => ?_) (fun c44 => ?_)
      · have h := h.1 c44
        refine qr_aload_n 68 69 rfl (x := 178) rfl dX12_does_68 ?_
        refine qr_getF 69 72 rfl ck12 1 (by decide) (b := 179) (by decide +kernel) rfl (by decide +kernel) (by decide +kernel) wm_1327 rfl dX12_does_69 ?_
        refine qr_iconst 72 73 rfl (q_l32 _ rfl) dX12_does_72 ?_
        refine qr_iload_n 73 74 rfl (x := x1) rfl dX12_does_73 ?_
        refine qr_sipush 74 77 rfl (q_l32 _ rfl) (by decide) dX12_does_74 ?_
        refine qr_isub 77 78 rfl dX12_does_77 ?_
        refine qr_sipush 78 81 rfl (q_l32 _ rfl) (by decide) dX12_does_78 ?_
        refine qr_idiv 81 82 rfl (by decide) dX12_does_81 ?_
        refine qr_iadd 82 83 rfl dX12_does_82 ?_
        refine qr_iload_n 83 84 rfl (x := x1) rfl dX12_does_83 ?_
        refine qr_sipush 84 87 rfl (q_l32 _ rfl) (by decide) dX12_does_84 ?_
        refine qr_irem 87 88 rfl (by decide) dX12_does_87 ?_
        refine qr_bipush 88 90 rfl (q_l32 _ rfl) (by decide) dX12_does_88 ?_
        refine qr_isub 90 91 rfl dX12_does_90 ?_
        have hb1 := h.1
        have h := h.2
        refine qi_st 91 92 rfl (N := 4512) (by decide +kernel) (by decide +kernel) hb1.1 hb1.2 dX12_does_91 (fun M2 e_M2 => ?_)
        have h := h M2 e_M2
        exact qe_u 92 rfl dX12_does_92 h
      · have h := h.2 c44
        refine qr_aload_n 47 48 rfl (x := 178) rfl dX12_does_47 ?_
        refine qr_iload_n 48 49 rfl (x := x1) rfl dX12_does_48 ?_
        refine qr_bipush 49 51 rfl (q_l32 _ rfl) (by decide) dX12_does_49 ?_
        refine qr_isub 51 52 rfl dX12_does_51 ?_
        refine qr_bipush 52 54 rfl (q_l32 _ rfl) (by decide) dX12_does_52 ?_
        refine qr_idiv 54 55 rfl (by decide) dX12_does_54 ?_
        refine qr_iload_n 55 56 rfl (x := x1) rfl dX12_does_55 ?_
        refine qr_bipush 56 58 rfl (q_l32 _ rfl) (by decide) dX12_does_56 ?_
        refine qr_isub 58 59 rfl dX12_does_58 ?_
        refine qr_bipush 59 61 rfl (q_l32 _ rfl) (by decide) dX12_does_59 ?_
        refine qr_irem 61 62 rfl (by decide) dX12_does_61 ?_
        refine qw_U 62 65 rfl (av := [qI (q_div (q_sub x1 100) 16), qI (q_rem (q_sub x1 100) 16)]) ca_X12_turns wm_1706 wp_115 wm_1704 ck12 (by decide +kernel) rfl rfl (Nat.le_of_ble_eq_true rfl) dX12_does_62 h (fun M3 h => ?_)
        refine qr_goto 65 92 (by decide) dX12_does_65 ?_
        exact qe_u 92 rfl dX12_does_92 h
    · have h := h.2 c24
      refine qr_aload_n 27 28 rfl (x := 178) rfl dX12_does_27 ?_
      refine qr_getF 28 31 rfl ck12 1 (by decide) (b := 179) (by decide +kernel) rfl (by decide +kernel) (by decide +kernel) wm_1327 rfl dX12_does_28 ?_
      refine qr_iconst 31 32 rfl (q_l32 _ rfl) dX12_does_31 ?_
      refine qr_iload_n 32 33 rfl (x := x1) rfl dX12_does_32 ?_
      refine qr_bipush 33 35 rfl (q_l32 _ rfl) (by decide) dX12_does_33 ?_
      refine qr_isub 35 36 rfl dX12_does_35 ?_
      refine qi_st 36 37 rfl (N := 4512) (by decide +kernel) (by decide +kernel) (by decide) (by decide) dX12_does_36 (fun M4 e_M4 => ?_)
      have h := h M4 e_M4
      refine qr_goto 37 92 (by decide) dX12_does_37 ?_
      exact qe_u 92 rfl dX12_does_92 h
  · have h := h.2 c3
    refine qr_aload_n 6 7 rfl (x := 178) rfl dX12_does_6 ?_
    refine qr_getF 7 10 rfl ck12 1 (by decide) (b := 179) (by decide +kernel) rfl (by decide +kernel) (by decide +kernel) wm_1327 rfl dX12_does_7 ?_
    refine qr_iconst 10 11 rfl (q_l32 _ rfl) dX12_does_10 ?_
    refine qr_dup2 11 12 rfl rfl rfl dX12_does_11 ?_
    refine qi_ld 12 13 rfl (N := 4512) (by decide +kernel) (by decide +kernel) (by decide) (by decide) dX12_does_12 ?_
    refine qr_iconst 13 14 rfl (q_l32 _ rfl) dX12_does_13 ?_
    refine qr_iload_n 14 15 rfl (x := x1) rfl dX12_does_14 ?_
    refine qr_ishl 15 16 rfl dX12_does_15 ?_
    refine qr_ixor 16 17 rfl dX12_does_16 ?_
    refine qi_st 17 18 rfl (N := 4512) (by decide +kernel) (by decide +kernel) (by decide) (by decide) dX12_does_17 (fun M5 e_M5 => ?_)
    have h := h M5 e_M5
    refine qr_goto 18 92 (by decide) dX12_does_18 ?_
    exact qe_u 92 rfl dX12_does_92 h
theorem dX12_tells_0 : decode cX12_tells 0 = .ok (.iconst 0, 1) := by decide +kernel
theorem dX12_tells_1 : decode cX12_tells 1 = .ok (.istore_n 2, 1) := by decide +kernel
theorem dX12_tells_2 : decode cX12_tells 2 = .ok (.iload_n 2, 1) := by decide +kernel
theorem dX12_tells_3 : decode cX12_tells 3 = .ok (.aload_n 0, 1) := by decide +kernel
theorem dX12_tells_4 : decode cX12_tells 4 = .ok (.getfield 101, 3) := by decide +kernel
theorem dX12_tells_7 : decode cX12_tells 7 = .ok (.iload_n 1, 1) := by decide +kernel
theorem dX12_tells_8 : decode cX12_tells 8 = .ok (.iaload, 1) := by decide +kernel
theorem dX12_tells_9 : decode cX12_tells 9 = .ok (.if_icmp .ge 45, 3) := by decide +kernel
theorem dX12_tells_12 : decode cX12_tells 12 = .ok (.aload_n 0, 1) := by decide +kernel
theorem dX12_tells_13 : decode cX12_tells 13 = .ok (.aload_n 0, 1) := by decide +kernel
theorem dX12_tells_14 : decode cX12_tells 14 = .ok (.getfield 104, 3) := by decide +kernel
theorem dX12_tells_17 : decode cX12_tells 17 = .ok (.bipush 40, 2) := by decide +kernel
theorem dX12_tells_19 : decode cX12_tells 19 = .ok (.iload_n 1, 1) := by decide +kernel
theorem dX12_tells_20 : decode cX12_tells 20 = .ok (.imul, 1) := by decide +kernel
theorem dX12_tells_21 : decode cX12_tells 21 = .ok (.iload_n 2, 1) := by decide +kernel
theorem dX12_tells_22 : decode cX12_tells 22 = .ok (.iadd, 1) := by decide +kernel
theorem dX12_tells_23 : decode cX12_tells 23 = .ok (.laload, 1) := by decide +kernel
theorem dX12_tells_24 : decode cX12_tells 24 = .ok (.invokevirtual 361, 3) := by decide +kernel
theorem dX12_tells_27 : decode cX12_tells 27 = .ok (.ifCond .ne 5, 3) := by decide +kernel
theorem dX12_tells_30 : decode cX12_tells 30 = .ok (.iload_n 2, 1) := by decide +kernel
theorem dX12_tells_31 : decode cX12_tells 31 = .ok (.ireturn, 1) := by decide +kernel
theorem dX12_tells_32 : decode cX12_tells 32 = .ok (.aload_n 0, 1) := by decide +kernel
theorem dX12_tells_33 : decode cX12_tells 33 = .ok (.aload_n 0, 1) := by decide +kernel
theorem dX12_tells_34 : decode cX12_tells 34 = .ok (.getfield 104, 3) := by decide +kernel
theorem dX12_tells_37 : decode cX12_tells 37 = .ok (.bipush 40, 2) := by decide +kernel
theorem dX12_tells_39 : decode cX12_tells 39 = .ok (.iload_n 1, 1) := by decide +kernel
theorem dX12_tells_40 : decode cX12_tells 40 = .ok (.imul, 1) := by decide +kernel
theorem dX12_tells_41 : decode cX12_tells 41 = .ok (.iload_n 2, 1) := by decide +kernel
theorem dX12_tells_42 : decode cX12_tells 42 = .ok (.iadd, 1) := by decide +kernel
theorem dX12_tells_43 : decode cX12_tells 43 = .ok (.laload, 1) := by decide +kernel
theorem dX12_tells_44 : decode cX12_tells 44 = .ok (.l2i, 1) := by decide +kernel
theorem dX12_tells_45 : decode cX12_tells 45 = .ok (.invokevirtual 364, 3) := by decide +kernel
theorem dX12_tells_48 : decode cX12_tells 48 = .ok (.iinc 2 1, 3) := by decide +kernel
theorem dX12_tells_51 : decode cX12_tells 51 = .ok (.goto (-49), 3) := by decide +kernel
theorem dX12_tells_54 : decode cX12_tells 54 = .ok (.iconst (-1), 1) := by decide +kernel
theorem dX12_tells_55 : decode cX12_tells 55 = .ok (.ireturn, 1) := by decide +kernel
theorem bX12_tells_0 {d : Nat} {P : Int → q_Mem → Prop} {M : q_Mem} (x1 : Int) (h : q_v mX12_tells d (qPI P) M 2 [some (qR 178), some (qI x1), some (qI 0)] []) : q_v mX12_tells d (qPI P) M 0 [some (qR 178), some (qI x1), none] [] := by
  refine qr_iconst 0 1 rfl (q_l32 _ rfl) dX12_tells_0 ?_
  refine qr_istore_n 1 2 rfl (by decide) rfl rfl dX12_tells_1 ?_
  exact h
theorem bX12_tells_2 {d : Nat} {P : Int → q_Mem → Prop} {M : q_Mem} (x1 x2 : Int) (h : (0 ≤ x1 ∧ x1 < (4 : Int)) ∧ ((((M 206 x1) ≤ x2) → P (-1) M) ∧ ((¬ ((M 206 x1) ≤ x2)) → (0 ≤ (q_add (q_mul 40 x1) x2) ∧ (q_add (q_mul 40 x1) x2) < (160 : Int)) ∧ (q_kI yX12_canBe mX12_canBe d [qR 178, qL (M 207 (q_add (q_mul 40 x1) x2))] M (fun v4 M3 => ((¬ v4 = 0) → (0 ≤ (q_add (q_mul 40 x1) x2) ∧ (q_add (q_mul 40 x1) x2) < (160 : Int)) ∧ (q_kU yX12_does mX12_does d [qR 178, qI (q_l2i (M3 207 (q_add (q_mul 40 x1) x2)))] M3 (fun M6 => q_v mX12_tells d (qPI P) M6 2 [some (qR 178), some (qI x1), some (qI (q_add x2 1))] []))) ∧ ((v4 = 0) → P x2 M3)))))) : q_v mX12_tells d (qPI P) M 2 [some (qR 178), some (qI x1), some (qI x2)] [] := by
  refine qr_iload_n 2 3 rfl (x := x2) rfl dX12_tells_2 ?_
  refine qr_aload_n 3 4 rfl (x := 178) rfl dX12_tells_3 ?_
  refine qr_getF 4 7 rfl ck12 46 (by decide) (b := 206) (by decide +kernel) rfl (by decide +kernel) (by decide +kernel) wm_1372 rfl dX12_tells_4 ?_
  refine qr_iload_n 7 8 rfl (x := x1) rfl dX12_tells_7 ?_
  have hb1 := h.1
  have h := h.2
  refine qi_ld 8 9 rfl (N := 4) (by decide +kernel) (by decide +kernel) hb1.1 hb1.2 dX12_tells_8 ?_
  refine qr_icmp_ge 9 12 54 rfl (by decide) dX12_tells_9 (fun c9 => ?_) (fun c9 => ?_)
  · have h := h.1 c9
    refine qr_iconst 54 55 rfl (q_l32 _ rfl) dX12_tells_54 ?_
    exact qe_i 55 rfl dX12_tells_55 h
  · have h := h.2 c9
    refine qr_aload_n 12 13 rfl (x := 178) rfl dX12_tells_12 ?_
    refine qr_aload_n 13 14 rfl (x := 178) rfl dX12_tells_13 ?_
    refine qr_getF 14 17 rfl ck12 47 (by decide) (b := 207) (by decide +kernel) rfl (by decide +kernel) (by decide +kernel) wm_1373 rfl dX12_tells_14 ?_
    refine qr_bipush 17 19 rfl (q_l32 _ rfl) (by decide) dX12_tells_17 ?_
    refine qr_iload_n 19 20 rfl (x := x1) rfl dX12_tells_19 ?_
    refine qr_imul 20 21 rfl dX12_tells_20 ?_
    refine qr_iload_n 21 22 rfl (x := x2) rfl dX12_tells_21 ?_
    refine qr_iadd 22 23 rfl dX12_tells_22 ?_
    have hb2 := h.1
    have h := h.2
    refine ql_ld 23 24 rfl (N := 160) (by decide +kernel) (by decide +kernel) hb2.1 hb2.2 dX12_tells_23 ?_
    refine qw_I 24 27 rfl (av := [qL (M 207 (q_add (q_mul 40 x1) x2))]) ca_X12_canBe wm_1811 wp_133 wm_1809 ck12 (by decide +kernel) rfl rfl (Nat.le_of_ble_eq_true rfl) dX12_tells_24 h (fun v4 M3 h => ?_)
    refine qr_if_ne 27 30 32 rfl (by decide) dX12_tells_27 (fun c27 => ?_) (fun c27 => ?_)
    · have h := h.1 c27
      refine qr_aload_n 32 33 rfl (x := 178) rfl dX12_tells_32 ?_
      refine qr_aload_n 33 34 rfl (x := 178) rfl dX12_tells_33 ?_
      refine qr_getF 34 37 rfl ck12 47 (by decide) (b := 207) (by decide +kernel) rfl (by decide +kernel) (by decide +kernel) wm_1373 rfl dX12_tells_34 ?_
      refine qr_bipush 37 39 rfl (q_l32 _ rfl) (by decide) dX12_tells_37 ?_
      refine qr_iload_n 39 40 rfl (x := x1) rfl dX12_tells_39 ?_
      refine qr_imul 40 41 rfl dX12_tells_40 ?_
      refine qr_iload_n 41 42 rfl (x := x2) rfl dX12_tells_41 ?_
      refine qr_iadd 42 43 rfl dX12_tells_42 ?_
      have hb5 := h.1
      have h := h.2
      refine ql_ld 43 44 rfl (N := 160) (by decide +kernel) (by decide +kernel) hb5.1 hb5.2 dX12_tells_43 ?_
      refine qr_l2i 44 45 rfl dX12_tells_44 ?_
      refine qw_U 45 48 rfl (av := [qI (q_l2i (M3 207 (q_add (q_mul 40 x1) x2)))]) ca_X12_does wm_1821 wp_134 wm_1819 ck12 (by decide +kernel) rfl rfl (Nat.le_of_ble_eq_true rfl) dX12_tells_45 h (fun M6 h => ?_)
      refine qr_iinc 48 51 rfl (by decide) (x := x2) rfl rfl rfl dX12_tells_48 ?_
      refine qr_goto 51 2 (by decide) dX12_tells_51 ?_
      exact h
    · have h := h.2 c27
      refine qr_iload_n 30 31 rfl (x := x2) rfl dX12_tells_30 ?_
      exact qe_i 31 rfl dX12_tells_31 h
theorem dX12_noTray_0 : decode cX12_noTray 0 = .ok (.iload_n 1, 1) := by decide +kernel
theorem dX12_noTray_1 : decode cX12_noTray 1 = .ok (.i2l, 1) := by decide +kernel
theorem dX12_noTray_2 : decode cX12_noTray 2 = .ok (.lconst 0, 1) := by decide +kernel
theorem dX12_noTray_3 : decode cX12_noTray 3 = .ok (.ldc2_w 300, 3) := by decide +kernel
theorem dX12_noTray_6 : decode cX12_noTray 6 = .ok (.invokestatic 176, 3) := by decide +kernel
theorem dX12_noTray_9 : decode cX12_noTray 9 = .ok (.ifCond .ne 8, 3) := by decide +kernel
theorem dX12_noTray_12 : decode cX12_noTray 12 = .ok (.bipush (-2), 2) := by decide +kernel
theorem dX12_noTray_14 : decode cX12_noTray 14 = .ok (.goto 19, 3) := by decide +kernel
theorem dX12_noTray_17 : decode cX12_noTray 17 = .ok (.aload_n 0, 1) := by decide +kernel
theorem dX12_noTray_18 : decode cX12_noTray 18 = .ok (.getfield 98, 3) := by decide +kernel
theorem dX12_noTray_21 : decode cX12_noTray 21 = .ok (.iload_n 1, 1) := by decide +kernel
theorem dX12_noTray_22 : decode cX12_noTray 22 = .ok (.iaload, 1) := by decide +kernel
theorem dX12_noTray_23 : decode cX12_noTray 23 = .ok (.iconst (-1), 1) := by decide +kernel
theorem dX12_noTray_24 : decode cX12_noTray 24 = .ok (.if_icmp .ne 8, 3) := by decide +kernel
theorem dX12_noTray_27 : decode cX12_noTray 27 = .ok (.bipush (-6), 2) := by decide +kernel
theorem dX12_noTray_29 : decode cX12_noTray 29 = .ok (.goto 4, 3) := by decide +kernel
theorem dX12_noTray_32 : decode cX12_noTray 32 = .ok (.iconst 0, 1) := by decide +kernel
theorem dX12_noTray_33 : decode cX12_noTray 33 = .ok (.ireturn, 1) := by decide +kernel
theorem bX12_noTray_0 {d : Nat} {P : Int → q_Mem → Prop} {M : q_Mem} (x1 : Int) (h : q_kI yX12_within mX12_within d [qL x1, qL 0, qL 3] M (fun v2 M1 => ((¬ v2 = 0) → (0 ≤ x1 ∧ x1 < (4 : Int)) ∧ (((¬ (M1 205 x1) = ((-1) : Int)) → P 0 M1) ∧ (((M1 205 x1) = ((-1) : Int)) → P (-6) M1))) ∧ ((v2 = 0) → P (-2) M1))) : q_v mX12_noTray d (qPI P) M 0 [some (qR 178), some (qI x1)] [] := by
  refine qr_iload_n 0 1 rfl (x := x1) rfl dX12_noTray_0 ?_
  refine qr_i2l 1 2 rfl dX12_noTray_1 ?_
  refine qr_lconst 2 3 rfl (w := 0) (q_l64 _ rfl) (by decide) dX12_noTray_2 ?_
  refine qr_ldc2 3 6 rfl (v := 3) (q_l64 _ rfl) wm_1612 dX12_noTray_3 ?_
  refine qs_I 6 9 rfl (av := [qL x1, qL 0, qL 3]) ca_X12_within wm_1481 wm_1480 rfl rfl (Nat.le_of_ble_eq_true rfl) dX12_noTray_6 h (fun v2 M1 h => ?_)
  refine qr_if_ne 9 12 17 rfl (by decide) dX12_noTray_9 (fun c9 => ?_) (fun c9 => ?_)
  · have h := h.1 c9
    refine qr_aload_n 17 18 rfl (x := 178) rfl dX12_noTray_17 ?_
    refine qr_getF 18 21 rfl ck12 45 (by decide) (b := 205) (by decide +kernel) rfl (by decide +kernel) (by decide +kernel) wm_1371 rfl dX12_noTray_18 ?_
    refine qr_iload_n 21 22 rfl (x := x1) rfl dX12_noTray_21 ?_
    have hb3 := h.1
    have h := h.2
    refine qi_ld 22 23 rfl (N := 4) (by decide +kernel) (by decide +kernel) hb3.1 hb3.2 dX12_noTray_22 ?_
    refine qr_iconst 23 24 rfl (q_l32 _ rfl) dX12_noTray_23 ?_
    refine qr_icmp_ne 24 27 32 rfl (by decide) dX12_noTray_24 (fun c24 => ?_) (fun c24 => ?_)
    · have h := h.1 c24
      refine qr_iconst 32 33 rfl (q_l32 _ rfl) dX12_noTray_32 ?_
      exact qe_i 33 rfl dX12_noTray_33 h
    · have h := h.2 c24
      refine qr_bipush 27 29 rfl (q_l32 _ rfl) (by decide) dX12_noTray_27 ?_
      refine qr_goto 29 33 (by decide) dX12_noTray_29 ?_
      exact qe_i 33 rfl dX12_noTray_33 h
  · have h := h.2 c9
    refine qr_bipush 12 14 rfl (q_l32 _ rfl) (by decide) dX12_noTray_12 ?_
    refine qr_goto 14 33 (by decide) dX12_noTray_14 ?_
    exact qe_i 33 rfl dX12_noTray_33 h
theorem dX12_judge_0 : decode cX12_judge 0 = .ok (.aload_n 0, 1) := by decide +kernel
theorem dX12_judge_1 : decode cX12_judge 1 = .ok (.iconst 0, 1) := by decide +kernel
theorem dX12_judge_2 : decode cX12_judge 2 = .ok (.putfield 1, 3) := by decide +kernel
theorem dX12_judge_5 : decode cX12_judge 5 = .ok (.iload_n 2, 1) := by decide +kernel
theorem dX12_judge_6 : decode cX12_judge 6 = .ok (.i2l, 1) := by decide +kernel
theorem dX12_judge_7 : decode cX12_judge 7 = .ok (.lconst 0, 1) := by decide +kernel
theorem dX12_judge_8 : decode cX12_judge 8 = .ok (.ldc2_w 300, 3) := by decide +kernel
theorem dX12_judge_11 : decode cX12_judge 11 = .ok (.invokestatic 176, 3) := by decide +kernel
theorem dX12_judge_14 : decode cX12_judge 14 = .ok (.ifCond .ne 6, 3) := by decide +kernel
theorem dX12_judge_17 : decode cX12_judge 17 = .ok (.bipush (-2), 2) := by decide +kernel
theorem dX12_judge_19 : decode cX12_judge 19 = .ok (.ireturn, 1) := by decide +kernel
theorem dX12_judge_20 : decode cX12_judge 20 = .ok (.aload_n 0, 1) := by decide +kernel
theorem dX12_judge_21 : decode cX12_judge 21 = .ok (.iload_n 1, 1) := by decide +kernel
theorem dX12_judge_22 : decode cX12_judge 22 = .ok (.invokevirtual 367, 3) := by decide +kernel
theorem dX12_judge_25 : decode cX12_judge 25 = .ok (.istore_n 3, 1) := by decide +kernel
theorem dX12_judge_26 : decode cX12_judge 26 = .ok (.iload_n 3, 1) := by decide +kernel
theorem dX12_judge_27 : decode cX12_judge 27 = .ok (.ifCond .eq 5, 3) := by decide +kernel
theorem dX12_judge_30 : decode cX12_judge 30 = .ok (.iload_n 3, 1) := by decide +kernel
theorem dX12_judge_31 : decode cX12_judge 31 = .ok (.ireturn, 1) := by decide +kernel
theorem dX12_judge_32 : decode cX12_judge 32 = .ok (.aload_n 0, 1) := by decide +kernel
theorem dX12_judge_33 : decode cX12_judge 33 = .ok (.invokevirtual 311, 3) := by decide +kernel
theorem dX12_judge_36 : decode cX12_judge 36 = .ok (.aload_n 0, 1) := by decide +kernel
theorem dX12_judge_37 : decode cX12_judge 37 = .ok (.iload_n 1, 1) := by decide +kernel
theorem dX12_judge_38 : decode cX12_judge 38 = .ok (.invokevirtual 370, 3) := by decide +kernel
theorem dX12_judge_41 : decode cX12_judge 41 = .ok (.istore 4, 2) := by decide +kernel
theorem dX12_judge_43 : decode cX12_judge 43 = .ok (.aload_n 0, 1) := by decide +kernel
theorem dX12_judge_44 : decode cX12_judge 44 = .ok (.invokevirtual 317, 3) := by decide +kernel
theorem dX12_judge_47 : decode cX12_judge 47 = .ok (.istore 5, 2) := by decide +kernel
theorem dX12_judge_49 : decode cX12_judge 49 = .ok (.aload_n 0, 1) := by decide +kernel
theorem dX12_judge_50 : decode cX12_judge 50 = .ok (.invokevirtual 327, 3) := by decide +kernel
theorem dX12_judge_53 : decode cX12_judge 53 = .ok (.istore 6, 2) := by decide +kernel
theorem dX12_judge_55 : decode cX12_judge 55 = .ok (.aload_n 0, 1) := by decide +kernel
theorem dX12_judge_56 : decode cX12_judge 56 = .ok (.invokevirtual 373, 3) := by decide +kernel
theorem dX12_judge_59 : decode cX12_judge 59 = .ok (.iload_n 2, 1) := by decide +kernel
theorem dX12_judge_60 : decode cX12_judge 60 = .ok (.ifCond .ne 8, 3) := by decide +kernel
theorem dX12_judge_63 : decode cX12_judge 63 = .ok (.iload 4, 2) := by decide +kernel
theorem dX12_judge_65 : decode cX12_judge 65 = .ok (.goto 38, 3) := by decide +kernel
theorem dX12_judge_68 : decode cX12_judge 68 = .ok (.iload_n 2, 1) := by decide +kernel
theorem dX12_judge_69 : decode cX12_judge 69 = .ok (.iconst 1, 1) := by decide +kernel
theorem dX12_judge_70 : decode cX12_judge 70 = .ok (.if_icmp .ne 17, 3) := by decide +kernel
theorem dX12_judge_73 : decode cX12_judge 73 = .ok (.iload 4, 2) := by decide +kernel
theorem dX12_judge_75 : decode cX12_judge 75 = .ok (.iconst (-1), 1) := by decide +kernel
theorem dX12_judge_76 : decode cX12_judge 76 = .ok (.if_icmp .ne 7, 3) := by decide +kernel
theorem dX12_judge_79 : decode cX12_judge 79 = .ok (.iconst 0, 1) := by decide +kernel
theorem dX12_judge_80 : decode cX12_judge 80 = .ok (.goto 23, 3) := by decide +kernel
theorem dX12_judge_83 : decode cX12_judge 83 = .ok (.iconst 1, 1) := by decide +kernel
theorem dX12_judge_84 : decode cX12_judge 84 = .ok (.goto 19, 3) := by decide +kernel
theorem dX12_judge_87 : decode cX12_judge 87 = .ok (.iload_n 2, 1) := by decide +kernel
theorem dX12_judge_88 : decode cX12_judge 88 = .ok (.iconst 2, 1) := by decide +kernel
theorem dX12_judge_89 : decode cX12_judge 89 = .ok (.if_icmp .ne 12, 3) := by decide +kernel
theorem dX12_judge_92 : decode cX12_judge 92 = .ok (.iload 5, 2) := by decide +kernel
theorem dX12_judge_94 : decode cX12_judge 94 = .ok (.sipush 10000, 3) := by decide +kernel
theorem dX12_judge_97 : decode cX12_judge 97 = .ok (.iadd, 1) := by decide +kernel
theorem dX12_judge_98 : decode cX12_judge 98 = .ok (.goto 5, 3) := by decide +kernel
theorem dX12_judge_101 : decode cX12_judge 101 = .ok (.iload 6, 2) := by decide +kernel
theorem dX12_judge_103 : decode cX12_judge 103 = .ok (.ireturn, 1) := by decide +kernel
theorem bX12_judge_0 {d : Nat} {P : Int → q_Mem → Prop} {M : q_Mem} (x1 x2 : Int) (h : (∀ M1 : q_Mem, M1 = q_up M 178 0 0 → q_kI yX12_within mX12_within d [qL x2, qL 0, qL 3] M1 (fun v3 M2 => ((¬ v3 = 0) → q_kI yX12_noTray mX12_noTray d [qR 178, qI x1] M2 (fun v5 M4 => ((v5 = 0) → q_kU yX12_stores mX12_stores d [qR 178] M4 (fun M6 => q_kI yX12_tells mX12_tells d [qR 178, qI x1] M6 (fun v8 M7 => q_kI yX12_worthNow mX12_worthNow d [qR 178] M7 (fun v10 M9 => q_kI yX12_twistsNow mX12_twistsNow d [qR 178] M9 (fun v12 M11 => q_kU yX12_isAgain mX12_isAgain d [qR 178] M11 (fun M13 => ((¬ x2 = 0) → ((¬ x2 = (1 : Int)) → ((¬ x2 = (2 : Int)) → P v12 M13) ∧ ((x2 = (2 : Int)) → P (q_add v10 10000) M13)) ∧ ((x2 = (1 : Int)) → ((¬ v8 = ((-1) : Int)) → P 1 M13) ∧ ((v8 = ((-1) : Int)) → P 0 M13))) ∧ ((x2 = 0) → P v8 M13))))))) ∧ ((¬ (v5 = 0)) → P v5 M4))) ∧ ((v3 = 0) → P (-2) M2)))) : q_v mX12_judge d (qPI P) M 0 [some (qR 178), some (qI x1), some (qI x2), none, none, none, none] [] := by
  refine qr_aload_n 0 1 rfl (x := 178) rfl dX12_judge_0 ?_
  refine qr_iconst 1 2 rfl (q_l32 _ rfl) dX12_judge_1 ?_
  refine qp_i 2 5 rfl ck12 0 (kk := 0) (by decide) (by decide +kernel) (by decide) rfl rfl wm_1326 rfl dX12_judge_2 (fun M1 e_M1 => ?_)
  have h := h M1 e_M1
  refine qr_iload_n 5 6 rfl (x := x2) rfl dX12_judge_5 ?_
  refine qr_i2l 6 7 rfl dX12_judge_6 ?_
  refine qr_lconst 7 8 rfl (w := 0) (q_l64 _ rfl) (by decide) dX12_judge_7 ?_
  refine qr_ldc2 8 11 rfl (v := 3) (q_l64 _ rfl) wm_1612 dX12_judge_8 ?_
  refine qs_I 11 14 rfl (av := [qL x2, qL 0, qL 3]) ca_X12_within wm_1481 wm_1480 rfl rfl (Nat.le_of_ble_eq_true rfl) dX12_judge_11 h (fun v3 M2 h => ?_)
  refine qr_if_ne 14 17 20 rfl (by decide) dX12_judge_14 (fun c14 => ?_) (fun c14 => ?_)
  · have h := h.1 c14
    refine qr_aload_n 20 21 rfl (x := 178) rfl dX12_judge_20 ?_
    refine qr_iload_n 21 22 rfl (x := x1) rfl dX12_judge_21 ?_
    refine qw_I 22 25 rfl (av := [qI x1]) ca_X12_noTray wm_1803 wp_131 wm_1801 ck12 (by decide +kernel) rfl rfl (Nat.le_of_ble_eq_true rfl) dX12_judge_22 h (fun v5 M4 h => ?_)
    refine qr_istore_n 25 26 rfl (by decide) rfl rfl dX12_judge_25 ?_
    refine qr_iload_n 26 27 rfl (x := v5) rfl dX12_judge_26 ?_
    refine qr_if_eq 27 30 32 rfl (by decide) dX12_judge_27 (fun c27 => ?_) (fun c27 => ?_)
    · have h := h.1 c27
      refine qr_aload_n 32 33 rfl (x := 178) rfl dX12_judge_32 ?_
      refine qw_U 33 36 rfl (av := []) ca_X12_stores wm_1671 wp_109 wm_1669 ck12 (by decide +kernel) rfl rfl (Nat.le_of_ble_eq_true rfl) dX12_judge_33 h (fun M6 h => ?_)
      refine qr_aload_n 36 37 rfl (x := 178) rfl dX12_judge_36 ?_
      refine qr_iload_n 37 38 rfl (x := x1) rfl dX12_judge_37 ?_
      refine qw_I 38 41 rfl (av := [qI x1]) ca_X12_tells wm_1807 wp_132 wm_1805 ck12 (by decide +kernel) rfl rfl (Nat.le_of_ble_eq_true rfl) dX12_judge_38 h (fun v8 M7 h => ?_)
      refine qr_istore 41 43 rfl (by decide) rfl rfl dX12_judge_41 ?_
      refine qr_aload_n 43 44 rfl (x := 178) rfl dX12_judge_43 ?_
      refine qw_I 44 47 rfl (av := []) ca_X12_worthNow wm_1683 wp_111 wm_1681 ck12 (by decide +kernel) rfl rfl (Nat.le_of_ble_eq_true rfl) dX12_judge_44 h (fun v10 M9 h => ?_)
      refine qr_istore 47 49 rfl (by decide) rfl rfl dX12_judge_47 ?_
      refine qr_aload_n 49 50 rfl (x := 178) rfl dX12_judge_49 ?_
      refine qw_I 50 53 rfl (av := []) ca_X12_twistsNow wm_1710 wp_116 wm_1708 ck12 (by decide +kernel) rfl rfl (Nat.le_of_ble_eq_true rfl) dX12_judge_50 h (fun v12 M11 h => ?_)
      refine qr_istore 53 55 rfl (by decide) rfl rfl dX12_judge_53 ?_
      refine qr_aload_n 55 56 rfl (x := 178) rfl dX12_judge_55 ?_
      refine qw_U 56 59 rfl (av := []) ca_X12_isAgain wm_1825 wp_135 wm_1823 ck12 (by decide +kernel) rfl rfl (Nat.le_of_ble_eq_true rfl) dX12_judge_56 h (fun M13 h => ?_)
      refine qr_iload_n 59 60 rfl (x := x2) rfl dX12_judge_59 ?_
      refine qr_if_ne 60 63 68 rfl (by decide) dX12_judge_60 (fun c60 => ?_) (fun c60 => ?_)
      · have h := h.1 c60
        refine qr_iload_n 68 69 rfl (x := x2) rfl dX12_judge_68 ?_
        refine qr_iconst 69 70 rfl (q_l32 _ rfl) dX12_judge_69 ?_
        refine qr_icmp_ne 70 73 87 rfl (by decide) dX12_judge_70 (fun c70 => ?_) (fun c70 => ?_)
        · have h := h.1 c70
          refine qr_iload_n 87 88 rfl (x := x2) rfl dX12_judge_87 ?_
          refine qr_iconst 88 89 rfl (q_l32 _ rfl) dX12_judge_88 ?_
          refine qr_icmp_ne 89 92 101 rfl (by decide) dX12_judge_89 (fun c89 => ?_) (fun c89 => ?_)
          · have h := h.1 c89
            refine qr_iload 101 103 rfl (x := v12) rfl dX12_judge_101 ?_
            exact qe_i 103 rfl dX12_judge_103 h
          · have h := h.2 c89
            refine qr_iload 92 94 rfl (x := v10) rfl dX12_judge_92 ?_
            refine qr_sipush 94 97 rfl (q_l32 _ rfl) (by decide) dX12_judge_94 ?_
            refine qr_iadd 97 98 rfl dX12_judge_97 ?_
            refine qr_goto 98 103 (by decide) dX12_judge_98 ?_
            exact qe_i 103 rfl dX12_judge_103 h
        · have h := h.2 c70
          refine qr_iload 73 75 rfl (x := v8) rfl dX12_judge_73 ?_
          refine qr_iconst 75 76 rfl (q_l32 _ rfl) dX12_judge_75 ?_
          refine qr_icmp_ne 76 79 83 rfl (by decide) dX12_judge_76 (fun c76 => ?_) (fun c76 => ?_)
          · have h := h.1 c76
            refine qr_iconst 83 84 rfl (q_l32 _ rfl) dX12_judge_83 ?_
            refine qr_goto 84 103 (by decide) dX12_judge_84 ?_
            exact qe_i 103 rfl dX12_judge_103 h
          · have h := h.2 c76
            refine qr_iconst 79 80 rfl (q_l32 _ rfl) dX12_judge_79 ?_
            refine qr_goto 80 103 (by decide) dX12_judge_80 ?_
            exact qe_i 103 rfl dX12_judge_103 h
      · have h := h.2 c60
        refine qr_iload 63 65 rfl (x := v8) rfl dX12_judge_63 ?_
        refine qr_goto 65 103 (by decide) dX12_judge_65 ?_
        exact qe_i 103 rfl dX12_judge_103 h
    · have h := h.2 c27
      refine qr_iload_n 30 31 rfl (x := v5) rfl dX12_judge_30 ?_
      exact qe_i 31 rfl dX12_judge_31 h
  · have h := h.2 c14
    refine qr_bipush 17 19 rfl (q_l32 _ rfl) (by decide) dX12_judge_17 ?_
    exact qe_i 19 rfl dX12_judge_19 h
