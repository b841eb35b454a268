-- blocks of methods (by program)
theorem dX12_within_0 : decode cX12_within 0 = .ok (.lload_n 0, 1) := by decide +kernel
theorem dX12_within_1 : decode cX12_within 1 = .ok (.lload_n 2, 1) := by decide +kernel
theorem dX12_within_2 : decode cX12_within 2 = .ok (.lcmp, 1) := by decide +kernel
theorem dX12_within_3 : decode cX12_within 3 = .ok (.ifCond .lt 14, 3) := by decide +kernel
theorem dX12_within_6 : decode cX12_within 6 = .ok (.lload_n 0, 1) := by decide +kernel
theorem dX12_within_7 : decode cX12_within 7 = .ok (.lload 4, 2) := by decide +kernel
theorem dX12_within_9 : decode cX12_within 9 = .ok (.lcmp, 1) := by decide +kernel
theorem dX12_within_10 : decode cX12_within 10 = .ok (.ifCond .gt 7, 3) := by decide +kernel
theorem dX12_within_13 : decode cX12_within 13 = .ok (.iconst 1, 1) := by decide +kernel
theorem dX12_within_14 : decode cX12_within 14 = .ok (.goto 4, 3) := by decide +kernel
theorem dX12_within_17 : decode cX12_within 17 = .ok (.iconst 0, 1) := by decide +kernel
theorem dX12_within_18 : decode cX12_within 18 = .ok (.ireturn, 1) := by decide +kernel
theorem bX12_within_0 {d : Nat} {P : Int → q_Mem → Prop} {M : q_Mem} (x0 x2 x4 : Int) (h : (((q_lcmp x0 x2) < 0) → P 0 M) ∧ ((¬ ((q_lcmp x0 x2) < 0)) → ((0 < (q_lcmp x0 x4)) → P 0 M) ∧ ((¬ (0 < (q_lcmp x0 x4))) → P 1 M))) : q_v mX12_within d (qPI P) M 0 [some (qL x0), none, some (qL x2), none, some (qL x4), none] [] := by
  refine qr_lload_n 0 1 rfl (x := x0) rfl dX12_within_0 ?_
  refine qr_lload_n 1 2 rfl (x := x2) rfl dX12_within_1 ?_
  refine qr_lcmp 2 3 rfl dX12_within_2 ?_
  refine qr_if_lt 3 6 17 rfl (by decide) dX12_within_3 (fun c3 => ?_) (fun c3 => ?_)
  · have h := h.1 c3
    refine qr_iconst 17 18 rfl (q_l32 _ rfl) dX12_within_17 ?_
    exact qe_z 18 rfl (by decide) dX12_within_18 h
  · have h := h.2 c3
    refine qr_lload_n 6 7 rfl (x := x0) rfl dX12_within_6 ?_
    refine qr_lload 7 9 rfl (x := x4) rfl dX12_within_7 ?_
    refine qr_lcmp 9 10 rfl dX12_within_9 ?_
    refine qr_if_gt 10 13 17 rfl (by decide) dX12_within_10 (fun c10 => ?_) (fun c10 => ?_)
    · have h := h.1 c10
      refine qr_iconst 17 18 rfl (q_l32 _ rfl) dX12_within_17 ?_
      exact qe_z 18 rfl (by decide) dX12_within_18 h
    · have h := h.2 c10
      refine qr_iconst 13 14 rfl (q_l32 _ rfl) dX12_within_13 ?_
      refine qr_goto 14 18 (by decide) dX12_within_14 ?_
      exact qe_z 18 rfl (by decide) dX12_within_18 h
theorem dX12_plain_0 : decode cX12_plain 0 = .ok (.iconst 0, 1) := by decide +kernel
theorem dX12_plain_1 : decode cX12_plain 1 = .ok (.istore_n 1, 1) := by decide +kernel
theorem dX12_plain_2 : decode cX12_plain 2 = .ok (.iload_n 1, 1) := by decide +kernel
theorem dX12_plain_3 : decode cX12_plain 3 = .ok (.sipush 1504, 3) := by decide +kernel
theorem dX12_plain_6 : decode cX12_plain 6 = .ok (.if_icmp .ge 13, 3) := by decide +kernel
theorem dX12_plain_9 : decode cX12_plain 9 = .ok (.aload_n 0, 1) := by decide +kernel
theorem dX12_plain_10 : decode cX12_plain 10 = .ok (.iload_n 1, 1) := by decide +kernel
theorem dX12_plain_11 : decode cX12_plain 11 = .ok (.iconst 0, 1) := by decide +kernel
theorem dX12_plain_12 : decode cX12_plain 12 = .ok (.iastore, 1) := by decide +kernel
theorem dX12_plain_13 : decode cX12_plain 13 = .ok (.iinc 1 1, 3) := by decide +kernel
theorem dX12_plain_16 : decode cX12_plain 16 = .ok (.goto (-14), 3) := by decide +kernel
theorem dX12_plain_19 : decode cX12_plain 19 = .ok (.return_, 1) := by decide +kernel
theorem bX12_plain_0 {d : Nat} {P : q_Mem → Prop} {M : q_Mem} (x0 : Int) (k0 : q_kd x0 = 14) (h : q_v mX12_plain d (qPU P) M 2 [some (qR x0), some (qI 0)] []) : q_v mX12_plain d (qPU P) M 0 [some (qR x0), none] [] := by
  refine qr_iconst 0 1 rfl (q_l32 _ rfl) dX12_plain_0 ?_
  refine qr_istore_n 1 2 rfl (by decide) rfl rfl dX12_plain_1 ?_
  exact h
theorem bX12_plain_2 {d : Nat} {P : q_Mem → Prop} {M : q_Mem} (x0 x1 : Int) (k0 : q_kd x0 = 14) (h : (((1504 : Int) ≤ x1) → P M) ∧ ((¬ ((1504 : Int) ≤ x1)) → (0 ≤ x1 ∧ x1 < (q_ln x0 : Int)) ∧ (∀ M2 : q_Mem, M2 = q_up M x0 x1 0 → q_v mX12_plain d (qPU P) M2 2 [some (qR x0), some (qI (q_add x1 1))] []))) : q_v mX12_plain d (qPU P) M 2 [some (qR x0), some (qI x1)] [] := by
  refine qr_iload_n 2 3 rfl (x := x1) rfl dX12_plain_2 ?_
  refine qr_sipush 3 6 rfl (q_l32 _ rfl) (by decide) dX12_plain_3 ?_
  refine qr_icmp_ge 6 9 19 rfl (by decide) dX12_plain_6 (fun c6 => ?_) (fun c6 => ?_)
  · have h := h.1 c6
    exact qe_u 19 rfl dX12_plain_19 h
  · have h := h.2 c6
    refine qr_aload_n 9 10 rfl (x := x0) rfl dX12_plain_9 ?_
    refine qr_iload_n 10 11 rfl (x := x1) rfl dX12_plain_10 ?_
    refine qr_iconst 11 12 rfl (q_l32 _ rfl) dX12_plain_11 ?_
    have hb1 := h.1
    have h := h.2
    refine qi_st 12 13 rfl k0 rfl hb1.1 hb1.2 dX12_plain_12 (fun M2 e_M2 => ?_)
    have h := h M2 e_M2
    refine qr_iinc 13 16 rfl (by decide) (x := x1) rfl rfl rfl dX12_plain_13 ?_
    refine qr_goto 16 2 (by decide) dX12_plain_16 ?_
    exact h
theorem dX12_isIn_0 : decode cX12_isIn 0 = .ok (.iload_n 0, 1) := by decide +kernel
theorem dX12_isIn_1 : decode cX12_isIn 1 = .ok (.iload_n 1, 1) := by decide +kernel
theorem dX12_isIn_2 : decode cX12_isIn 2 = .ok (.ishr, 1) := by decide +kernel
theorem dX12_isIn_3 : decode cX12_isIn 3 = .ok (.iconst 1, 1) := by decide +kernel
theorem dX12_isIn_4 : decode cX12_isIn 4 = .ok (.iand, 1) := by decide +kernel
theorem dX12_isIn_5 : decode cX12_isIn 5 = .ok (.iconst 1, 1) := by decide +kernel
theorem dX12_isIn_6 : decode cX12_isIn 6 = .ok (.if_icmp .ne 7, 3) := by decide +kernel
theorem dX12_isIn_9 : decode cX12_isIn 9 = .ok (.iconst 1, 1) := by decide +kernel
theorem dX12_isIn_10 : decode cX12_isIn 10 = .ok (.goto 4, 3) := by decide +kernel
theorem dX12_isIn_13 : decode cX12_isIn 13 = .ok (.iconst 0, 1) := by decide +kernel
theorem dX12_isIn_14 : decode cX12_isIn 14 = .ok (.ireturn, 1) := by decide +kernel
theorem bX12_isIn_0 {d : Nat} {P : Int → q_Mem → Prop} {M : q_Mem} (x0 x1 : Int) (h : ((¬ (q_and (q_shr x0 x1) 1) = (1 : Int)) → P 0 M) ∧ (((q_and (q_shr x0 x1) 1) = (1 : Int)) → P 1 M)) : q_v mX12_isIn d (qPI P) M 0 [some (qI x0), some (qI x1)] [] := by
  refine qr_iload_n 0 1 rfl (x := x0) rfl dX12_isIn_0 ?_
  refine qr_iload_n 1 2 rfl (x := x1) rfl dX12_isIn_1 ?_
  refine qr_ishr 2 3 rfl dX12_isIn_2 ?_
  refine qr_iconst 3 4 rfl (q_l32 _ rfl) dX12_isIn_3 ?_
  refine qr_iand 4 5 rfl dX12_isIn_4 ?_
  refine qr_iconst 5 6 rfl (q_l32 _ rfl) dX12_isIn_5 ?_
  refine qr_icmp_ne 6 9 13 rfl (by decide) dX12_isIn_6 (fun c6 => ?_) (fun c6 => ?_)
  · have h := h.1 c6
    refine qr_iconst 13 14 rfl (q_l32 _ rfl) dX12_isIn_13 ?_
    exact qe_z 14 rfl (by decide) dX12_isIn_14 h
  · have h := h.2 c6
    refine qr_iconst 9 10 rfl (q_l32 _ rfl) dX12_isIn_9 ?_
    refine qr_goto 10 14 (by decide) dX12_isIn_10 ?_
    exact qe_z 14 rfl (by decide) dX12_isIn_14 h
theorem dX12_feed_0 : decode cX12_feed 0 = .ok (.aload_n 0, 1) := by decide +kernel
theorem dX12_feed_1 : decode cX12_feed 1 = .ok (.iconst 0, 1) := by decide +kernel
theorem dX12_feed_2 : decode cX12_feed 2 = .ok (.putfield 1, 3) := by decide +kernel
theorem dX12_feed_5 : decode cX12_feed 5 = .ok (.aload_n 0, 1) := by decide +kernel
theorem dX12_feed_6 : decode cX12_feed 6 = .ok (.getfield 111, 3) := by decide +kernel
theorem dX12_feed_9 : decode cX12_feed 9 = .ok (.bipush 20, 2) := by decide +kernel
theorem dX12_feed_11 : decode cX12_feed 11 = .ok (.iadd, 1) := by decide +kernel
theorem dX12_feed_12 : decode cX12_feed 12 = .ok (.sipush 900, 3) := by decide +kernel
theorem dX12_feed_15 : decode cX12_feed 15 = .ok (.if_icmp .le 6, 3) := by decide +kernel
theorem dX12_feed_18 : decode cX12_feed 18 = .ok (.bipush (-5), 2) := by decide +kernel
theorem dX12_feed_20 : decode cX12_feed 20 = .ok (.ireturn, 1) := by decide +kernel
theorem dX12_feed_21 : decode cX12_feed 21 = .ok (.iconst 0, 1) := by decide +kernel
theorem dX12_feed_22 : decode cX12_feed 22 = .ok (.istore 6, 2) := by decide +kernel
theorem dX12_feed_24 : decode cX12_feed 24 = .ok (.iload 6, 2) := by decide +kernel
theorem dX12_feed_26 : decode cX12_feed 26 = .ok (.bipush 20, 2) := by decide +kernel
theorem dX12_feed_28 : decode cX12_feed 28 = .ok (.if_icmp .ge 93, 3) := by decide +kernel
theorem dX12_feed_31 : decode cX12_feed 31 = .ok (.iload 6, 2) := by decide +kernel
theorem dX12_feed_33 : decode cX12_feed 33 = .ok (.iconst 4, 1) := by decide +kernel
theorem dX12_feed_34 : decode cX12_feed 34 = .ok (.if_icmp .ge 7, 3) := by decide +kernel
theorem dX12_feed_37 : decode cX12_feed 37 = .ok (.iload_n 1, 1) := by decide +kernel
theorem dX12_feed_38 : decode cX12_feed 38 = .ok (.goto 39, 3) := by decide +kernel
theorem dX12_feed_41 : decode cX12_feed 41 = .ok (.iload 6, 2) := by decide +kernel
theorem dX12_feed_43 : decode cX12_feed 43 = .ok (.bipush 8, 2) := by decide +kernel
theorem dX12_feed_45 : decode cX12_feed 45 = .ok (.if_icmp .ge 7, 3) := by decide +kernel
theorem dX12_feed_48 : decode cX12_feed 48 = .ok (.iload_n 2, 1) := by decide +kernel
theorem dX12_feed_49 : decode cX12_feed 49 = .ok (.goto 28, 3) := by decide +kernel
theorem dX12_feed_52 : decode cX12_feed 52 = .ok (.iload 6, 2) := by decide +kernel
theorem dX12_feed_54 : decode cX12_feed 54 = .ok (.bipush 12, 2) := by decide +kernel
theorem dX12_feed_56 : decode cX12_feed 56 = .ok (.if_icmp .ge 7, 3) := by decide +kernel
theorem dX12_feed_59 : decode cX12_feed 59 = .ok (.iload_n 3, 1) := by decide +kernel
theorem dX12_feed_60 : decode cX12_feed 60 = .ok (.goto 17, 3) := by decide +kernel
theorem dX12_feed_63 : decode cX12_feed 63 = .ok (.iload 6, 2) := by decide +kernel
theorem dX12_feed_65 : decode cX12_feed 65 = .ok (.bipush 16, 2) := by decide +kernel
theorem dX12_feed_67 : decode cX12_feed 67 = .ok (.if_icmp .ge 8, 3) := by decide +kernel
theorem dX12_feed_70 : decode cX12_feed 70 = .ok (.iload 4, 2) := by decide +kernel
theorem dX12_feed_72 : decode cX12_feed 72 = .ok (.goto 5, 3) := by decide +kernel
theorem dX12_feed_75 : decode cX12_feed 75 = .ok (.iload 5, 2) := by decide +kernel
theorem dX12_feed_77 : decode cX12_feed 77 = .ok (.istore 7, 2) := by decide +kernel
theorem dX12_feed_79 : decode cX12_feed 79 = .ok (.aload_n 0, 1) := by decide +kernel
theorem dX12_feed_80 : decode cX12_feed 80 = .ok (.getfield 21, 3) := by decide +kernel
theorem dX12_feed_83 : decode cX12_feed 83 = .ok (.aload_n 0, 1) := by decide +kernel
theorem dX12_feed_84 : decode cX12_feed 84 = .ok (.getfield 111, 3) := by decide +kernel
theorem dX12_feed_87 : decode cX12_feed 87 = .ok (.iload 7, 2) := by decide +kernel
theorem dX12_feed_89 : decode cX12_feed 89 = .ok (.bipush 24, 2) := by decide +kernel
theorem dX12_feed_91 : decode cX12_feed 91 = .ok (.bipush 8, 2) := by decide +kernel
theorem dX12_feed_93 : decode cX12_feed 93 = .ok (.iload 6, 2) := by decide +kernel
theorem dX12_feed_95 : decode cX12_feed 95 = .ok (.iconst 4, 1) := by decide +kernel
theorem dX12_feed_96 : decode cX12_feed 96 = .ok (.irem, 1) := by decide +kernel
theorem dX12_feed_97 : decode cX12_feed 97 = .ok (.imul, 1) := by decide +kernel
theorem dX12_feed_98 : decode cX12_feed 98 = .ok (.isub, 1) := by decide +kernel
theorem dX12_feed_99 : decode cX12_feed 99 = .ok (.ishr, 1) := by decide +kernel
theorem dX12_feed_100 : decode cX12_feed 100 = .ok (.sipush 255, 3) := by decide +kernel
theorem dX12_feed_103 : decode cX12_feed 103 = .ok (.iand, 1) := by decide +kernel
theorem dX12_feed_104 : decode cX12_feed 104 = .ok (.iastore, 1) := by decide +kernel
theorem dX12_feed_105 : decode cX12_feed 105 = .ok (.aload_n 0, 1) := by decide +kernel
theorem dX12_feed_106 : decode cX12_feed 106 = .ok (.dup, 1) := by decide +kernel
theorem dX12_feed_107 : decode cX12_feed 107 = .ok (.getfield 111, 3) := by decide +kernel
theorem dX12_feed_110 : decode cX12_feed 110 = .ok (.iconst 1, 1) := by decide +kernel
theorem dX12_feed_111 : decode cX12_feed 111 = .ok (.iadd, 1) := by decide +kernel
theorem dX12_feed_112 : decode cX12_feed 112 = .ok (.putfield 111, 3) := by decide +kernel
theorem dX12_feed_115 : decode cX12_feed 115 = .ok (.iinc 6 1, 3) := by decide +kernel
theorem dX12_feed_118 : decode cX12_feed 118 = .ok (.goto (-94), 3) := by decide +kernel
theorem dX12_feed_121 : decode cX12_feed 121 = .ok (.aload_n 0, 1) := by decide +kernel
theorem dX12_feed_122 : decode cX12_feed 122 = .ok (.getfield 111, 3) := by decide +kernel
theorem dX12_feed_125 : decode cX12_feed 125 = .ok (.ireturn, 1) := by decide +kernel
theorem bX12_feed_0 {d : Nat} {P : Int → q_Mem → Prop} {M : q_Mem} (x1 x2 x3 x4 x5 : Int) (h : (∀ M1 : q_Mem, M1 = q_up M 178 0 0 → (((q_add (M1 178 7) 20) ≤ (900 : Int)) → q_v mX12_feed d (qPI P) M1 24 [some (qR 178), some (qI x1), some (qI x2), some (qI x3), some (qI x4), some (qI x5), some (qI 0), none] []) ∧ ((¬ ((q_add (M1 178 7) 20) ≤ (900 : Int))) → P (-5) M1))) : q_v mX12_feed d (qPI P) M 0 [some (qR 178), some (qI x1), some (qI x2), some (qI x3), some (qI x4), some (qI x5), none, none] [] := by
  refine qr_aload_n 0 1 rfl (x := 178) rfl dX12_feed_0 ?_
  refine qr_iconst 1 2 rfl (q_l32 _ rfl) dX12_feed_1 ?_
  refine qp_i 2 5 rfl ck12 0 (kk := 0) (by decide) (by decide +kernel) (by decide) rfl rfl wm_1326 rfl dX12_feed_2 (fun M1 e_M1 => ?_)
  have h := h M1 e_M1
  refine qr_aload_n 5 6 rfl (x := 178) rfl dX12_feed_5 ?_
  refine qg_i 6 9 rfl ck12 7 (kk := 7) (by decide) (by decide +kernel) (by decide +kernel) rfl wm_1333 rfl dX12_feed_6 ?_
  refine qr_bipush 9 11 rfl (q_l32 _ rfl) (by decide) dX12_feed_9 ?_
  refine qr_iadd 11 12 rfl dX12_feed_11 ?_
  refine qr_sipush 12 15 rfl (q_l32 _ rfl) (by decide) dX12_feed_12 ?_
  refine qr_icmp_le 15 18 21 rfl (by decide) dX12_feed_15 (fun c15 => ?_) (fun c15 => ?_)
  · have h := h.1 c15
    refine qr_iconst 21 22 rfl (q_l32 _ rfl) dX12_feed_21 ?_
    refine qr_istore 22 24 rfl (by decide) rfl rfl dX12_feed_22 ?_
    exact h
  · have h := h.2 c15
    refine qr_bipush 18 20 rfl (q_l32 _ rfl) (by decide) dX12_feed_18 ?_
    exact qe_i 20 rfl dX12_feed_20 h
theorem bX12_feed_24 {d : Nat} {P : Int → q_Mem → Prop} {M : q_Mem} (x1 x2 x3 x4 x5 x6 : Int) (h : (((20 : Int) ≤ x6) → P (M 178 7) M) ∧ ((¬ ((20 : Int) ≤ x6)) → (((4 : Int) ≤ x6) → (((8 : Int) ≤ x6) → (((12 : Int) ≤ x6) → (((16 : Int) ≤ x6) → q_v mX12_feed d (qPI P) M 77 [some (qR 178), some (qI x1), some (qI x2), some (qI x3), some (qI x4), some (qI x5), some (qI x6), none] [qI x5]) ∧ ((¬ ((16 : Int) ≤ x6)) → q_v mX12_feed d (qPI P) M 77 [some (qR 178), some (qI x1), some (qI x2), some (qI x3), some (qI x4), some (qI x5), some (qI x6), none] [qI x4])) ∧ ((¬ ((12 : Int) ≤ x6)) → q_v mX12_feed d (qPI P) M 77 [some (qR 178), some (qI x1), some (qI x2), some (qI x3), some (qI x4), some (qI x5), some (qI x6), none] [qI x3])) ∧ ((¬ ((8 : Int) ≤ x6)) → q_v mX12_feed d (qPI P) M 77 [some (qR 178), some (qI x1), some (qI x2), some (qI x3), some (qI x4), some (qI x5), some (qI x6), none] [qI x2])) ∧ ((¬ ((4 : Int) ≤ x6)) → q_v mX12_feed d (qPI P) M 77 [some (qR 178), some (qI x1), some (qI x2), some (qI x3), some (qI x4), some (qI x5), some (qI x6), none] [qI x1]))) : q_v mX12_feed d (qPI P) M 24 [some (qR 178), some (qI x1), some (qI x2), some (qI x3), some (qI x4), some (qI x5), some (qI x6), none] [] := by
  refine qr_iload 24 26 rfl (x := x6) rfl dX12_feed_24 ?_
  refine qr_bipush 26 28 rfl (q_l32 _ rfl) (by decide) dX12_feed_26 ?_
  refine qr_icmp_ge 28 31 121 rfl (by decide) dX12_feed_28 (fun c28 => ?_) (fun c28 => ?_)
  · have h := h.1 c28
    refine qr_aload_n 121 122 rfl (x := 178) rfl dX12_feed_121 ?_
    refine qg_i 122 125 rfl ck12 7 (kk := 7) (by decide) (by decide +kernel) (by decide +kernel) rfl wm_1333 rfl dX12_feed_122 ?_
    exact qe_i 125 rfl dX12_feed_125 h
  · have h := h.2 c28
    refine qr_iload 31 33 rfl (x := x6) rfl dX12_feed_31 ?_
    refine qr_iconst 33 34 rfl (q_l32 _ rfl) dX12_feed_33 ?_
    refine qr_icmp_ge 34 37 41 rfl (by decide) dX12_feed_34 (fun c34 => ?_) (fun c34 => ?_)
    · have h := h.1 c34
      refine qr_iload 41 43 rfl (x := x6) rfl dX12_feed_41 ?_
      refine qr_bipush 43 45 rfl (q_l32 _ rfl) (by decide) dX12_feed_43 ?_
      refine qr_icmp_ge 45 48 52 rfl (by decide) dX12_feed_45 (fun c45 => ?_) (fun c45 => ?_)
      · have h := h.1 c45
        refine qr_iload 52 54 rfl (x := x6) rfl dX12_feed_52 ?_
        refine qr_bipush 54 56 rfl (q_l32 _ rfl) (by decide) dX12_feed_54 ?_
        refine qr_icmp_ge 56 59 63 rfl (by decide) dX12_feed_56 (fun c56 => ?_) (fun c56 => ?_)
        · have h := h.1 c56
          refine qr_iload 63 65 rfl (x := x6) rfl dX12_feed_63 ?_
          refine qr_bipush 65 67 rfl (q_l32 _ rfl) (by decide) dX12_feed_65 ?_
          refine qr_icmp_ge 67 70 75 rfl (by decide) dX12_feed_67 (fun c67 => ?_) (fun c67 => ?_)
          · have h := h.1 c67
            refine qr_iload 75 77 rfl (x := x5) rfl dX12_feed_75 ?_
            exact h
          · have h := h.2 c67
            refine qr_iload 70 72 rfl (x := x4) rfl dX12_feed_70 ?_
            refine qr_goto 72 77 (by decide) dX12_feed_72 ?_
            exact h
        · have h := h.2 c56
          refine qr_iload_n 59 60 rfl (x := x3) rfl dX12_feed_59 ?_
          refine qr_goto 60 77 (by decide) dX12_feed_60 ?_
          exact h
      · have h := h.2 c45
        refine qr_iload_n 48 49 rfl (x := x2) rfl dX12_feed_48 ?_
        refine qr_goto 49 77 (by decide) dX12_feed_49 ?_
        exact h
    · have h := h.2 c34
      refine qr_iload_n 37 38 rfl (x := x1) rfl dX12_feed_37 ?_
      refine qr_goto 38 77 (by decide) dX12_feed_38 ?_
      exact h
theorem bX12_feed_77 {d : Nat} {P : Int → q_Mem → Prop} {M : q_Mem} (x1 x2 x3 x4 x5 x6 y0 : Int) (h : (0 ≤ (M 178 7) ∧ (M 178 7) < (900 : Int)) ∧ (∀ M2 : q_Mem, M2 = q_up M 181 (M 178 7) (q_and (q_shr y0 (q_sub 24 (q_mul 8 (q_rem x6 4)))) 255) → (∀ M3 : q_Mem, M3 = q_up M2 178 7 (q_add (M2 178 7) 1) → q_v mX12_feed d (qPI P) M3 24 [some (qR 178), some (qI x1), some (qI x2), some (qI x3), some (qI x4), some (qI x5), some (qI (q_add x6 1)), none] []))) : q_v mX12_feed d (qPI P) M 77 [some (qR 178), some (qI x1), some (qI x2), some (qI x3), some (qI x4), some (qI x5), some (qI x6), none] [qI y0] := by
  refine qr_istore 77 79 rfl (by decide) rfl rfl dX12_feed_77 ?_
  refine qr_aload_n 79 80 rfl (x := 178) rfl dX12_feed_79 ?_
  refine qr_getF 80 83 rfl ck12 3 (by decide) (b := 181) (by decide +kernel) rfl (by decide +kernel) (by decide +kernel) wm_1329 rfl dX12_feed_80 ?_
  refine qr_aload_n 83 84 rfl (x := 178) rfl dX12_feed_83 ?_
  refine qg_i 84 87 rfl ck12 7 (kk := 7) (by decide) (by decide +kernel) (by decide +kernel) rfl wm_1333 rfl dX12_feed_84 ?_
  refine qr_iload 87 89 rfl (x := y0) rfl dX12_feed_87 ?_
  refine qr_bipush 89 91 rfl (q_l32 _ rfl) (by decide) dX12_feed_89 ?_
  refine qr_bipush 91 93 rfl (q_l32 _ rfl) (by decide) dX12_feed_91 ?_
  refine qr_iload 93 95 rfl (x := x6) rfl dX12_feed_93 ?_
  refine qr_iconst 95 96 rfl (q_l32 _ rfl) dX12_feed_95 ?_
  refine qr_irem 96 97 rfl (by decide) dX12_feed_96 ?_
  refine qr_imul 97 98 rfl dX12_feed_97 ?_
  refine qr_isub 98 99 rfl dX12_feed_98 ?_
  refine qr_ishr 99 100 rfl dX12_feed_99 ?_
  refine qr_sipush 100 103 rfl (q_l32 _ rfl) (by decide) dX12_feed_100 ?_
  refine qr_iand 103 104 rfl dX12_feed_103 ?_
  have hb1 := h.1
  have h := h.2
  refine qi_st 104 105 rfl (N := 900) (by decide +kernel) (by decide +kernel) hb1.1 hb1.2 dX12_feed_104 (fun M2 e_M2 => ?_)
  have h := h M2 e_M2
  refine qr_aload_n 105 106 rfl (x := 178) rfl dX12_feed_105 ?_
  refine qr_dup 106 107 rfl rfl dX12_feed_106 ?_
  refine qg_i 107 110 rfl ck12 7 (kk := 7) (by decide) (by decide +kernel) (by decide +kernel) rfl wm_1333 rfl dX12_feed_107 ?_
  refine qr_iconst 110 111 rfl (q_l32 _ rfl) dX12_feed_110 ?_
  refine qr_iadd 111 112 rfl dX12_feed_111 ?_
  refine qp_i 112 115 rfl ck12 7 (kk := 7) (by decide) (by decide +kernel) (by decide) rfl rfl wm_1333 rfl dX12_feed_112 (fun M3 e_M3 => ?_)
  have h := h M3 e_M3
  refine qr_iinc 115 118 rfl (by decide) (x := x6) rfl rfl rfl dX12_feed_115 ?_
  refine qr_goto 118 24 (by decide) dX12_feed_118 ?_
  exact qr_cut 24 (ls' := [some (qR 178), some (qI x1), some (qI x2), some (qI x3), some (qI x4), some (qI x5), some (qI (q_add x6 1)), none]) (And.intro rfl (And.intro rfl (And.intro rfl (And.intro rfl (And.intro rfl (And.intro rfl (And.intro rfl trivial))))))) h
theorem dX12_see_0 : decode cX12_see 0 = .ok (.iload_n 1, 1) := by decide +kernel
theorem dX12_see_1 : decode cX12_see 1 = .ok (.aload_n 0, 1) := by decide +kernel
theorem dX12_see_2 : decode cX12_see 2 = .ok (.getfield 114, 3) := by decide +kernel
theorem dX12_see_5 : decode cX12_see 5 = .ok (.if_icmp .ge 12, 3) := by decide +kernel
theorem dX12_see_8 : decode cX12_see 8 = .ok (.aload_n 0, 1) := by decide +kernel
theorem dX12_see_9 : decode cX12_see 9 = .ok (.getfield 21, 3) := by decide +kernel
theorem dX12_see_12 : decode cX12_see 12 = .ok (.iload_n 1, 1) := by decide +kernel
theorem dX12_see_13 : decode cX12_see 13 = .ok (.iaload, 1) := by decide +kernel
theorem dX12_see_14 : decode cX12_see 14 = .ok (.goto 4, 3) := by decide +kernel
theorem dX12_see_17 : decode cX12_see 17 = .ok (.iconst (-1), 1) := by decide +kernel
theorem dX12_see_18 : decode cX12_see 18 = .ok (.ireturn, 1) := by decide +kernel
theorem bX12_see_0 {d : Nat} {P : Int → q_Mem → Prop} {M : q_Mem} (x1 : Int) (h : (((M 178 10) ≤ x1) → P (-1) M) ∧ ((¬ ((M 178 10) ≤ x1)) → (0 ≤ x1 ∧ x1 < (900 : Int)) ∧ (P (M 181 x1) M))) : q_v mX12_see d (qPI P) M 0 [some (qR 178), some (qI x1)] [] := by
  refine qr_iload_n 0 1 rfl (x := x1) rfl dX12_see_0 ?_
  refine qr_aload_n 1 2 rfl (x := 178) rfl dX12_see_1 ?_
  refine qg_i 2 5 rfl ck12 10 (kk := 10) (by decide) (by decide +kernel) (by decide +kernel) rfl wm_1336 rfl dX12_see_2 ?_
  refine qr_icmp_ge 5 8 17 rfl (by decide) dX12_see_5 (fun c5 => ?_) (fun c5 => ?_)
  · have h := h.1 c5
    refine qr_iconst 17 18 rfl (q_l32 _ rfl) dX12_see_17 ?_
    exact qe_i 18 rfl dX12_see_18 h
  · have h := h.2 c5
    refine qr_aload_n 8 9 rfl (x := 178) rfl dX12_see_8 ?_
    refine qr_getF 9 12 rfl ck12 3 (by decide) (b := 181) (by decide +kernel) rfl (by decide +kernel) (by decide +kernel) wm_1329 rfl dX12_see_9 ?_
    refine qr_iload_n 12 13 rfl (x := x1) rfl dX12_see_12 ?_
    have hb1 := h.1
    have h := h.2
    refine qi_ld 13 14 rfl (N := 900) (by decide +kernel) (by decide +kernel) hb1.1 hb1.2 dX12_see_13 ?_
    refine qr_goto 14 18 (by decide) dX12_see_14 ?_
    exact qe_i 18 rfl dX12_see_18 h
theorem dX12_isSmall_0 : decode cX12_isSmall 0 = .ok (.iload_n 0, 1) := by decide +kernel
theorem dX12_isSmall_1 : decode cX12_isSmall 1 = .ok (.bipush 97, 2) := by decide +kernel
theorem dX12_isSmall_3 : decode cX12_isSmall 3 = .ok (.if_icmp .lt 13, 3) := by decide +kernel
theorem dX12_isSmall_6 : decode cX12_isSmall 6 = .ok (.iload_n 0, 1) := by decide +kernel
theorem dX12_isSmall_7 : decode cX12_isSmall 7 = .ok (.bipush 122, 2) := by decide +kernel
theorem dX12_isSmall_9 : decode cX12_isSmall 9 = .ok (.if_icmp .gt 7, 3) := by decide +kernel
theorem dX12_isSmall_12 : decode cX12_isSmall 12 = .ok (.iconst 1, 1) := by decide +kernel
theorem dX12_isSmall_13 : decode cX12_isSmall 13 = .ok (.goto 4, 3) := by decide +kernel
theorem dX12_isSmall_16 : decode cX12_isSmall 16 = .ok (.iconst 0, 1) := by decide +kernel
theorem dX12_isSmall_17 : decode cX12_isSmall 17 = .ok (.ireturn, 1) := by decide +kernel
theorem bX12_isSmall_0 {d : Nat} {P : Int → q_Mem → Prop} {M : q_Mem} (x0 : Int) (h : ((x0 < (97 : Int)) → P 0 M) ∧ ((¬ (x0 < (97 : Int))) → (((122 : Int) < x0) → P 0 M) ∧ ((¬ ((122 : Int) < x0)) → P 1 M))) : q_v mX12_isSmall d (qPI P) M 0 [some (qI x0)] [] := by
  refine qr_iload_n 0 1 rfl (x := x0) rfl dX12_isSmall_0 ?_
  refine qr_bipush 1 3 rfl (q_l32 _ rfl) (by decide) dX12_isSmall_1 ?_
  refine qr_icmp_lt 3 6 16 rfl (by decide) dX12_isSmall_3 (fun c3 => ?_) (fun c3 => ?_)
  · have h := h.1 c3
    refine qr_iconst 16 17 rfl (q_l32 _ rfl) dX12_isSmall_16 ?_
    exact qe_z 17 rfl (by decide) dX12_isSmall_17 h
  · have h := h.2 c3
    refine qr_iload_n 6 7 rfl (x := x0) rfl dX12_isSmall_6 ?_
    refine qr_bipush 7 9 rfl (q_l32 _ rfl) (by decide) dX12_isSmall_7 ?_
    refine qr_icmp_gt 9 12 16 rfl (by decide) dX12_isSmall_9 (fun c9 => ?_) (fun c9 => ?_)
    · have h := h.1 c9
      refine qr_iconst 16 17 rfl (q_l32 _ rfl) dX12_isSmall_16 ?_
      exact qe_z 17 rfl (by decide) dX12_isSmall_17 h
    · have h := h.2 c9
      refine qr_iconst 12 13 rfl (q_l32 _ rfl) dX12_isSmall_12 ?_
      refine qr_goto 13 17 (by decide) dX12_isSmall_13 ?_
      exact qe_z 17 rfl (by decide) dX12_isSmall_17 h
theorem dX12_isDigit_0 : decode cX12_isDigit 0 = .ok (.iload_n 0, 1) := by decide +kernel
theorem dX12_isDigit_1 : decode cX12_isDigit 1 = .ok (.bipush 48, 2) := by decide +kernel
theorem dX12_isDigit_3 : decode cX12_isDigit 3 = .ok (.if_icmp .lt 13, 3) := by decide +kernel
theorem dX12_isDigit_6 : decode cX12_isDigit 6 = .ok (.iload_n 0, 1) := by decide +kernel
theorem dX12_isDigit_7 : decode cX12_isDigit 7 = .ok (.bipush 57, 2) := by decide +kernel
theorem dX12_isDigit_9 : decode cX12_isDigit 9 = .ok (.if_icmp .gt 7, 3) := by decide +kernel
theorem dX12_isDigit_12 : decode cX12_isDigit 12 = .ok (.iconst 1, 1) := by decide +kernel
theorem dX12_isDigit_13 : decode cX12_isDigit 13 = .ok (.goto 4, 3) := by decide +kernel
theorem dX12_isDigit_16 : decode cX12_isDigit 16 = .ok (.iconst 0, 1) := by decide +kernel
theorem dX12_isDigit_17 : decode cX12_isDigit 17 = .ok (.ireturn, 1) := by decide +kernel
theorem bX12_isDigit_0 {d : Nat} {P : Int → q_Mem → Prop} {M : q_Mem} (x0 : Int) (h : ((x0 < (48 : Int)) → P 0 M) ∧ ((¬ (x0 < (48 : Int))) → (((57 : Int) < x0) → P 0 M) ∧ ((¬ ((57 : Int) < x0)) → P 1 M))) : q_v mX12_isDigit d (qPI P) M 0 [some (qI x0)] [] := by
  refine qr_iload_n 0 1 rfl (x := x0) rfl dX12_isDigit_0 ?_
  refine qr_bipush 1 3 rfl (q_l32 _ rfl) (by decide) dX12_isDigit_1 ?_
  refine qr_icmp_lt 3 6 16 rfl (by decide) dX12_isDigit_3 (fun c3 => ?_) (fun c3 => ?_)
  · have h := h.1 c3
    refine qr_iconst 16 17 rfl (q_l32 _ rfl) dX12_isDigit_16 ?_
    exact qe_z 17 rfl (by decide) dX12_isDigit_17 h
  · have h := h.2 c3
    refine qr_iload_n 6 7 rfl (x := x0) rfl dX12_isDigit_6 ?_
    refine qr_bipush 7 9 rfl (q_l32 _ rfl) (by decide) dX12_isDigit_7 ?_
    refine qr_icmp_gt 9 12 16 rfl (by decide) dX12_isDigit_9 (fun c9 => ?_) (fun c9 => ?_)
    · have h := h.1 c9
      refine qr_iconst 16 17 rfl (q_l32 _ rfl) dX12_isDigit_16 ?_
      exact qe_z 17 rfl (by decide) dX12_isDigit_17 h
    · have h := h.2 c9
      refine qr_iconst 12 13 rfl (q_l32 _ rfl) dX12_isDigit_12 ?_
      refine qr_goto 13 17 (by decide) dX12_isDigit_13 ?_
      exact qe_z 17 rfl (by decide) dX12_isDigit_17 h
theorem dX12_keyAt_0 : decode cX12_keyAt 0 = .ok (.iconst 0, 1) := by decide +kernel
theorem dX12_keyAt_1 : decode cX12_keyAt 1 = .ok (.istore_n 1, 1) := by decide +kernel
theorem dX12_keyAt_2 : decode cX12_keyAt 2 = .ok (.iconst 1, 1) := by decide +kernel
theorem dX12_keyAt_3 : decode cX12_keyAt 3 = .ok (.istore_n 2, 1) := by decide +kernel
theorem dX12_keyAt_4 : decode cX12_keyAt 4 = .ok (.iload_n 2, 1) := by decide +kernel
theorem dX12_keyAt_5 : decode cX12_keyAt 5 = .ok (.ldc 117, 2) := by decide +kernel
theorem dX12_keyAt_7 : decode cX12_keyAt 7 = .ok (.invokevirtual 119, 3) := by decide +kernel
theorem dX12_keyAt_10 : decode cX12_keyAt 10 = .ok (.if_icmp .ge 113, 3) := by decide +kernel
theorem dX12_keyAt_13 : decode cX12_keyAt 13 = .ok (.iconst 0, 1) := by decide +kernel
theorem dX12_keyAt_14 : decode cX12_keyAt 14 = .ok (.istore_n 3, 1) := by decide +kernel
theorem dX12_keyAt_15 : decode cX12_keyAt 15 = .ok (.ldc 117, 2) := by decide +kernel
theorem dX12_keyAt_17 : decode cX12_keyAt 17 = .ok (.iload_n 2, 1) := by decide +kernel
theorem dX12_keyAt_18 : decode cX12_keyAt 18 = .ok (.iload_n 3, 1) := by decide +kernel
theorem dX12_keyAt_19 : decode cX12_keyAt 19 = .ok (.iadd, 1) := by decide +kernel
theorem dX12_keyAt_20 : decode cX12_keyAt 20 = .ok (.invokevirtual 125, 3) := by decide +kernel
theorem dX12_keyAt_23 : decode cX12_keyAt 23 = .ok (.bipush 32, 2) := by decide +kernel
theorem dX12_keyAt_25 : decode cX12_keyAt 25 = .ok (.if_icmp .eq 44, 3) := by decide +kernel
theorem dX12_keyAt_28 : decode cX12_keyAt 28 = .ok (.aload_n 0, 1) := by decide +kernel
theorem dX12_keyAt_29 : decode cX12_keyAt 29 = .ok (.getfield 129, 3) := by decide +kernel
theorem dX12_keyAt_32 : decode cX12_keyAt 32 = .ok (.iload_n 3, 1) := by decide +kernel
theorem dX12_keyAt_33 : decode cX12_keyAt 33 = .ok (.iadd, 1) := by decide +kernel
theorem dX12_keyAt_34 : decode cX12_keyAt 34 = .ok (.aload_n 0, 1) := by decide +kernel
theorem dX12_keyAt_35 : decode cX12_keyAt 35 = .ok (.getfield 132, 3) := by decide +kernel
theorem dX12_keyAt_38 : decode cX12_keyAt 38 = .ok (.if_icmp .ge 31, 3) := by decide +kernel
theorem dX12_keyAt_41 : decode cX12_keyAt 41 = .ok (.aload_n 0, 1) := by decide +kernel
theorem dX12_keyAt_42 : decode cX12_keyAt 42 = .ok (.getfield 21, 3) := by decide +kernel
theorem dX12_keyAt_45 : decode cX12_keyAt 45 = .ok (.aload_n 0, 1) := by decide +kernel
theorem dX12_keyAt_46 : decode cX12_keyAt 46 = .ok (.getfield 129, 3) := by decide +kernel
theorem dX12_keyAt_49 : decode cX12_keyAt 49 = .ok (.iload_n 3, 1) := by decide +kernel
theorem dX12_keyAt_50 : decode cX12_keyAt 50 = .ok (.iadd, 1) := by decide +kernel
theorem dX12_keyAt_51 : decode cX12_keyAt 51 = .ok (.iaload, 1) := by decide +kernel
theorem dX12_keyAt_52 : decode cX12_keyAt 52 = .ok (.ldc 117, 2) := by decide +kernel
theorem dX12_keyAt_54 : decode cX12_keyAt 54 = .ok (.iload_n 2, 1) := by decide +kernel
theorem dX12_keyAt_55 : decode cX12_keyAt 55 = .ok (.iload_n 3, 1) := by decide +kernel
theorem dX12_keyAt_56 : decode cX12_keyAt 56 = .ok (.iadd, 1) := by decide +kernel
theorem dX12_keyAt_57 : decode cX12_keyAt 57 = .ok (.invokevirtual 125, 3) := by decide +kernel
theorem dX12_keyAt_60 : decode cX12_keyAt 60 = .ok (.if_icmp .ne 9, 3) := by decide +kernel
theorem dX12_keyAt_63 : decode cX12_keyAt 63 = .ok (.iinc 3 1, 3) := by decide +kernel
theorem dX12_keyAt_66 : decode cX12_keyAt 66 = .ok (.goto (-51), 3) := by decide +kernel
theorem dX12_keyAt_69 : decode cX12_keyAt 69 = .ok (.ldc 117, 2) := by decide +kernel
theorem dX12_keyAt_71 : decode cX12_keyAt 71 = .ok (.iload_n 2, 1) := by decide +kernel
theorem dX12_keyAt_72 : decode cX12_keyAt 72 = .ok (.iload_n 3, 1) := by decide +kernel
theorem dX12_keyAt_73 : decode cX12_keyAt 73 = .ok (.iadd, 1) := by decide +kernel
theorem dX12_keyAt_74 : decode cX12_keyAt 74 = .ok (.invokevirtual 125, 3) := by decide +kernel
theorem dX12_keyAt_77 : decode cX12_keyAt 77 = .ok (.bipush 32, 2) := by decide +kernel
theorem dX12_keyAt_79 : decode cX12_keyAt 79 = .ok (.if_icmp .ne 18, 3) := by decide +kernel
theorem dX12_keyAt_82 : decode cX12_keyAt 82 = .ok (.aload_n 0, 1) := by decide +kernel
theorem dX12_keyAt_83 : decode cX12_keyAt 83 = .ok (.getfield 129, 3) := by decide +kernel
theorem dX12_keyAt_86 : decode cX12_keyAt 86 = .ok (.iload_n 3, 1) := by decide +kernel
theorem dX12_keyAt_87 : decode cX12_keyAt 87 = .ok (.iadd, 1) := by decide +kernel
theorem dX12_keyAt_88 : decode cX12_keyAt 88 = .ok (.aload_n 0, 1) := by decide +kernel
theorem dX12_keyAt_89 : decode cX12_keyAt 89 = .ok (.getfield 132, 3) := by decide +kernel
theorem dX12_keyAt_92 : decode cX12_keyAt 92 = .ok (.if_icmp .ne 5, 3) := by decide +kernel
theorem dX12_keyAt_95 : decode cX12_keyAt 95 = .ok (.iload_n 1, 1) := by decide +kernel
theorem dX12_keyAt_96 : decode cX12_keyAt 96 = .ok (.ireturn, 1) := by decide +kernel
theorem dX12_keyAt_97 : decode cX12_keyAt 97 = .ok (.ldc 117, 2) := by decide +kernel
theorem dX12_keyAt_99 : decode cX12_keyAt 99 = .ok (.iload_n 2, 1) := by decide +kernel
theorem dX12_keyAt_100 : decode cX12_keyAt 100 = .ok (.invokevirtual 125, 3) := by decide +kernel
theorem dX12_keyAt_103 : decode cX12_keyAt 103 = .ok (.bipush 32, 2) := by decide +kernel
theorem dX12_keyAt_105 : decode cX12_keyAt 105 = .ok (.if_icmp .eq 9, 3) := by decide +kernel
theorem dX12_keyAt_108 : decode cX12_keyAt 108 = .ok (.iinc 2 1, 3) := by decide +kernel
theorem dX12_keyAt_111 : decode cX12_keyAt 111 = .ok (.goto (-14), 3) := by decide +kernel
theorem dX12_keyAt_114 : decode cX12_keyAt 114 = .ok (.iinc 2 1, 3) := by decide +kernel
theorem dX12_keyAt_117 : decode cX12_keyAt 117 = .ok (.iinc 1 1, 3) := by decide +kernel
theorem dX12_keyAt_120 : decode cX12_keyAt 120 = .ok (.goto (-116), 3) := by decide +kernel
theorem dX12_keyAt_123 : decode cX12_keyAt 123 = .ok (.bipush 19, 2) := by decide +kernel
theorem dX12_keyAt_125 : decode cX12_keyAt 125 = .ok (.ireturn, 1) := by decide +kernel
theorem bX12_keyAt_0 {d : Nat} {P : Int → q_Mem → Prop} {M : q_Mem} (h : q_v mX12_keyAt d (qPI P) M 4 [some (qR 178), some (qI 0), some (qI 1), none] []) : q_v mX12_keyAt d (qPI P) M 0 [some (qR 178), none, none, none] [] := by
  refine qr_iconst 0 1 rfl (q_l32 _ rfl) dX12_keyAt_0 ?_
  refine qr_istore_n 1 2 rfl (by decide) rfl rfl dX12_keyAt_1 ?_
  refine qr_iconst 2 3 rfl (q_l32 _ rfl) dX12_keyAt_2 ?_
  refine qr_istore_n 3 4 rfl (by decide) rfl rfl dX12_keyAt_3 ?_
  exact h
theorem bX12_keyAt_4 {d : Nat} {P : Int → q_Mem → Prop} {M : q_Mem} (x1 x2 : Int) (h : q_kI yJ0_length_8abf5 mJ0_length_8abf5 d [qR (-((20 : Nat) : Int) - 1)] M (fun v2 M1 => ((v2 ≤ x2) → P 19 M1) ∧ ((¬ (v2 ≤ x2)) → q_v mX12_keyAt d (qPI P) M1 15 [some (qR 178), some (qI x1), some (qI x2), some (qI 0)] []))) : q_v mX12_keyAt d (qPI P) M 4 [some (qR 178), some (qI x1), some (qI x2), none] [] := by
  refine qr_iload_n 4 5 rfl (x := x2) rfl dX12_keyAt_4 ?_
  refine qr_ldcS 5 7 rfl 20 (by decide) rfl rfl rfl dX12_keyAt_5 ?_
  refine qt_I 7 10 rfl (20 : Nat) (by decide) (av := []) ca_J0_length_8abf5 wm_506 wm_507 wm_1499 rfl rfl rfl (Nat.le_of_ble_eq_true rfl) dX12_keyAt_7 h (fun v2 M1 h => ?_)
  refine qr_icmp_ge 10 13 123 rfl (by decide) dX12_keyAt_10 (fun c10 => ?_) (fun c10 => ?_)
  · have h := h.1 c10
    refine qr_bipush 123 125 rfl (q_l32 _ rfl) (by decide) dX12_keyAt_123 ?_
    exact qe_i 125 rfl dX12_keyAt_125 h
  · have h := h.2 c10
    refine qr_iconst 13 14 rfl (q_l32 _ rfl) dX12_keyAt_13 ?_
    refine qr_istore_n 14 15 rfl (by decide) rfl rfl dX12_keyAt_14 ?_
    exact h
theorem bX12_keyAt_15 {d : Nat} {P : Int → q_Mem → Prop} {M : q_Mem} (x1 x2 x3 : Int) (h : q_kI yJ0_charAt_5068e mJ0_charAt_5068e d [qR (-((20 : Nat) : Int) - 1), qI (q_add x2 x3)] M (fun v2 M1 => ((v2 = (32 : Int)) → q_v mX12_keyAt d (qPI P) M1 69 [some (qR 178), some (qI x1), some (qI x2), some (qI x3)] []) ∧ ((¬ (v2 = (32 : Int))) → (((M1 178 9) ≤ (q_add (M1 178 8) x3)) → q_v mX12_keyAt d (qPI P) M1 69 [some (qR 178), some (qI x1), some (qI x2), some (qI x3)] []) ∧ ((¬ ((M1 178 9) ≤ (q_add (M1 178 8) x3))) → (0 ≤ (q_add (M1 178 8) x3) ∧ (q_add (M1 178 8) x3) < (900 : Int)) ∧ (q_kI yJ0_charAt_5068e mJ0_charAt_5068e d [qR (-((20 : Nat) : Int) - 1), qI (q_add x2 x3)] M1 (fun v5 M4 => ((¬ (M1 181 (q_add (M1 178 8) x3)) = v5) → q_v mX12_keyAt d (qPI P) M4 69 [some (qR 178), some (qI x1), some (qI x2), some (qI x3)] []) ∧ (((M1 181 (q_add (M1 178 8) x3)) = v5) → q_v mX12_keyAt d (qPI P) M4 15 [some (qR 178), some (qI x1), some (qI x2), some (qI (q_add x3 1))] []))))))) : q_v mX12_keyAt d (qPI P) M 15 [some (qR 178), some (qI x1), some (qI x2), some (qI x3)] [] := by
  refine qr_ldcS 15 17 rfl 20 (by decide) rfl rfl rfl dX12_keyAt_15 ?_
  refine qr_iload_n 17 18 rfl (x := x2) rfl dX12_keyAt_17 ?_
  refine qr_iload_n 18 19 rfl (x := x3) rfl dX12_keyAt_18 ?_
  refine qr_iadd 19 20 rfl dX12_keyAt_19 ?_
  refine qt_I 20 23 rfl (20 : Nat) (by decide) (av := [qI (q_add x2 x3)]) ca_J0_charAt_5068e wm_590 wm_591 wm_1500 rfl rfl rfl (Nat.le_of_ble_eq_true rfl) dX12_keyAt_20 h (fun v2 M1 h => ?_)
  refine qr_bipush 23 25 rfl (q_l32 _ rfl) (by decide) dX12_keyAt_23 ?_
  refine qr_icmp_eq 25 28 69 rfl (by decide) dX12_keyAt_25 (fun c25 => ?_) (fun c25 => ?_)
  · have h := h.1 c25
    exact h
  · have h := h.2 c25
    refine qr_aload_n 28 29 rfl (x := 178) rfl dX12_keyAt_28 ?_
    refine qg_i 29 32 rfl ck12 8 (kk := 8) (by decide) (by decide +kernel) (by decide +kernel) rfl wm_1334 rfl dX12_keyAt_29 ?_
    refine qr_iload_n 32 33 rfl (x := x3) rfl dX12_keyAt_32 ?_
    refine qr_iadd 33 34 rfl dX12_keyAt_33 ?_
    refine qr_aload_n 34 35 rfl (x := 178) rfl dX12_keyAt_34 ?_
    refine qg_i 35 38 rfl ck12 9 (kk := 9) (by decide) (by decide +kernel) (by decide +kernel) rfl wm_1335 rfl dX12_keyAt_35 ?_
    refine qr_icmp_ge 38 41 69 rfl (by decide) dX12_keyAt_38 (fun c38 => ?_) (fun c38 => ?_)
    · have h := h.1 c38
      exact h
    · have h := h.2 c38
      refine qr_aload_n 41 42 rfl (x := 178) rfl dX12_keyAt_41 ?_
      refine qr_getF 42 45 rfl ck12 3 (by decide) (b := 181) (by decide +kernel) rfl (by decide +kernel) (by decide +kernel) wm_1329 rfl dX12_keyAt_42 ?_
      refine qr_aload_n 45 46 rfl (x := 178) rfl dX12_keyAt_45 ?_
      refine qg_i 46 49 rfl ck12 8 (kk := 8) (by decide) (by decide +kernel) (by decide +kernel) rfl wm_1334 rfl dX12_keyAt_46 ?_
      refine qr_iload_n 49 50 rfl (x := x3) rfl dX12_keyAt_49 ?_
      refine qr_iadd 50 51 rfl dX12_keyAt_50 ?_
      have hb3 := h.1
      have h := h.2
      refine qi_ld 51 52 rfl (N := 900) (by decide +kernel) (by decide +kernel) hb3.1 hb3.2 dX12_keyAt_51 ?_
      refine qr_ldcS 52 54 rfl 20 (by decide) rfl rfl rfl dX12_keyAt_52 ?_
      refine qr_iload_n 54 55 rfl (x := x2) rfl dX12_keyAt_54 ?_
      refine qr_iload_n 55 56 rfl (x := x3) rfl dX12_keyAt_55 ?_
      refine qr_iadd 56 57 rfl dX12_keyAt_56 ?_
      refine qt_I 57 60 rfl (20 : Nat) (by decide) (av := [qI (q_add x2 x3)]) ca_J0_charAt_5068e wm_590 wm_591 wm_1500 rfl rfl rfl (Nat.le_of_ble_eq_true rfl) dX12_keyAt_57 h (fun v5 M4 h => ?_)
      refine qr_icmp_ne 60 63 69 rfl (by decide) dX12_keyAt_60 (fun c60 => ?_) (fun c60 => ?_)
      · have h := h.1 c60
        exact h
      · have h := h.2 c60
        refine qr_iinc 63 66 rfl (by decide) (x := x3) rfl rfl rfl dX12_keyAt_63 ?_
        refine qr_goto 66 15 (by decide) dX12_keyAt_66 ?_
        exact h
theorem bX12_keyAt_69 {d : Nat} {P : Int → q_Mem → Prop} {M : q_Mem} (x1 x2 x3 : Int) (h : q_kI yJ0_charAt_5068e mJ0_charAt_5068e d [qR (-((20 : Nat) : Int) - 1), qI (q_add x2 x3)] M (fun v2 M1 => ((¬ v2 = (32 : Int)) → q_v mX12_keyAt d (qPI P) M1 97 [some (qR 178), some (qI x1), some (qI x2), none] []) ∧ ((v2 = (32 : Int)) → ((¬ (q_add (M1 178 8) x3) = (M1 178 9)) → q_v mX12_keyAt d (qPI P) M1 97 [some (qR 178), some (qI x1), some (qI x2), none] []) ∧ (((q_add (M1 178 8) x3) = (M1 178 9)) → P x1 M1)))) : q_v mX12_keyAt d (qPI P) M 69 [some (qR 178), some (qI x1), some (qI x2), some (qI x3)] [] := by
  refine qr_ldcS 69 71 rfl 20 (by decide) rfl rfl rfl dX12_keyAt_69 ?_
  refine qr_iload_n 71 72 rfl (x := x2) rfl dX12_keyAt_71 ?_
  refine qr_iload_n 72 73 rfl (x := x3) rfl dX12_keyAt_72 ?_
  refine qr_iadd 73 74 rfl dX12_keyAt_73 ?_
  refine qt_I 74 77 rfl (20 : Nat) (by decide) (av := [qI (q_add x2 x3)]) ca_J0_charAt_5068e wm_590 wm_591 wm_1500 rfl rfl rfl (Nat.le_of_ble_eq_true rfl) dX12_keyAt_74 h (fun v2 M1 h => ?_)
  refine qr_bipush 77 79 rfl (q_l32 _ rfl) (by decide) dX12_keyAt_77 ?_
  refine qr_icmp_ne 79 82 97 rfl (by decide) dX12_keyAt_79 (fun c79 => ?_) (fun c79 => ?_)
  · have h := h.1 c79
    exact qr_cut 97 (ls' := [some (qR 178), some (qI x1), some (qI x2), none]) (And.intro rfl (And.intro rfl (And.intro rfl trivial))) h
  · have h := h.2 c79
    refine qr_aload_n 82 83 rfl (x := 178) rfl dX12_keyAt_82 ?_
    refine qg_i 83 86 rfl ck12 8 (kk := 8) (by decide) (by decide +kernel) (by decide +kernel) rfl wm_1334 rfl dX12_keyAt_83 ?_
    refine qr_iload_n 86 87 rfl (x := x3) rfl dX12_keyAt_86 ?_
    refine qr_iadd 87 88 rfl dX12_keyAt_87 ?_
    refine qr_aload_n 88 89 rfl (x := 178) rfl dX12_keyAt_88 ?_
    refine qg_i 89 92 rfl ck12 9 (kk := 9) (by decide) (by decide +kernel) (by decide +kernel) rfl wm_1335 rfl dX12_keyAt_89 ?_
    refine qr_icmp_ne 92 95 97 rfl (by decide) dX12_keyAt_92 (fun c92 => ?_) (fun c92 => ?_)
    · have h := h.1 c92
      exact qr_cut 97 (ls' := [some (qR 178), some (qI x1), some (qI x2), none]) (And.intro rfl (And.intro rfl (And.intro rfl trivial))) h
    · have h := h.2 c92
      refine qr_iload_n 95 96 rfl (x := x1) rfl dX12_keyAt_95 ?_
      exact qe_i 96 rfl dX12_keyAt_96 h
theorem bX12_keyAt_97 {d : Nat} {P : Int → q_Mem → Prop} {M : q_Mem} (x1 x2 : Int) (h : q_kI yJ0_charAt_5068e mJ0_charAt_5068e d [qR (-((20 : Nat) : Int) - 1), qI x2] M (fun v2 M1 => ((v2 = (32 : Int)) → q_v mX12_keyAt d (qPI P) M1 4 [some (qR 178), some (qI (q_add x1 1)), some (qI (q_add x2 1)), none] []) ∧ ((¬ (v2 = (32 : Int))) → q_v mX12_keyAt d (qPI P) M1 97 [some (qR 178), some (qI x1), some (qI (q_add x2 1)), none] []))) : q_v mX12_keyAt d (qPI P) M 97 [some (qR 178), some (qI x1), some (qI x2), none] [] := by
  refine qr_ldcS 97 99 rfl 20 (by decide) rfl rfl rfl dX12_keyAt_97 ?_
  refine qr_iload_n 99 100 rfl (x := x2) rfl dX12_keyAt_99 ?_
  refine qt_I 100 103 rfl (20 : Nat) (by decide) (av := [qI x2]) ca_J0_charAt_5068e wm_590 wm_591 wm_1500 rfl rfl rfl (Nat.le_of_ble_eq_true rfl) dX12_keyAt_100 h (fun v2 M1 h => ?_)
  refine qr_bipush 103 105 rfl (q_l32 _ rfl) (by decide) dX12_keyAt_103 ?_
  refine qr_icmp_eq 105 108 114 rfl (by decide) dX12_keyAt_105 (fun c105 => ?_) (fun c105 => ?_)
  · have h := h.1 c105
    refine qr_iinc 114 117 rfl (by decide) (x := x2) rfl rfl rfl dX12_keyAt_114 ?_
    refine qr_iinc 117 120 rfl (by decide) (x := x1) rfl rfl rfl dX12_keyAt_117 ?_
    refine qr_goto 120 4 (by decide) dX12_keyAt_120 ?_
    exact h
  · have h := h.2 c105
    refine qr_iinc 108 111 rfl (by decide) (x := x2) rfl rfl rfl dX12_keyAt_108 ?_
    refine qr_goto 111 97 (by decide) dX12_keyAt_111 ?_
    exact h
theorem dX12_goes_0 : decode cX12_goes 0 = .ok (.aload_n 0, 1) := by decide +kernel
theorem dX12_goes_1 : decode cX12_goes 1 = .ok (.aload_n 0, 1) := by decide +kernel
theorem dX12_goes_2 : decode cX12_goes 2 = .ok (.getfield 132, 3) := by decide +kernel
theorem dX12_goes_5 : decode cX12_goes 5 = .ok (.putfield 129, 3) := by decide +kernel
theorem dX12_goes_8 : decode cX12_goes 8 = .ok (.aload_n 0, 1) := by decide +kernel
theorem dX12_goes_9 : decode cX12_goes 9 = .ok (.aload_n 0, 1) := by decide +kernel
theorem dX12_goes_10 : decode cX12_goes 10 = .ok (.getfield 129, 3) := by decide +kernel
theorem dX12_goes_13 : decode cX12_goes 13 = .ok (.invokevirtual 135, 3) := by decide +kernel
theorem dX12_goes_16 : decode cX12_goes 16 = .ok (.bipush 10, 2) := by decide +kernel
theorem dX12_goes_18 : decode cX12_goes 18 = .ok (.if_icmp .eq 16, 3) := by decide +kernel
theorem dX12_goes_21 : decode cX12_goes 21 = .ok (.aload_n 0, 1) := by decide +kernel
theorem dX12_goes_22 : decode cX12_goes 22 = .ok (.aload_n 0, 1) := by decide +kernel
theorem dX12_goes_23 : decode cX12_goes 23 = .ok (.getfield 129, 3) := by decide +kernel
theorem dX12_goes_26 : decode cX12_goes 26 = .ok (.invokevirtual 135, 3) := by decide +kernel
theorem dX12_goes_29 : decode cX12_goes 29 = .ok (.bipush 32, 2) := by decide +kernel
theorem dX12_goes_31 : decode cX12_goes 31 = .ok (.if_icmp .ne 16, 3) := by decide +kernel
theorem dX12_goes_34 : decode cX12_goes 34 = .ok (.aload_n 0, 1) := by decide +kernel
theorem dX12_goes_35 : decode cX12_goes 35 = .ok (.dup, 1) := by decide +kernel
theorem dX12_goes_36 : decode cX12_goes 36 = .ok (.getfield 129, 3) := by decide +kernel
theorem dX12_goes_39 : decode cX12_goes 39 = .ok (.iconst 1, 1) := by decide +kernel
theorem dX12_goes_40 : decode cX12_goes 40 = .ok (.iadd, 1) := by decide +kernel
theorem dX12_goes_41 : decode cX12_goes 41 = .ok (.putfield 129, 3) := by decide +kernel
theorem dX12_goes_44 : decode cX12_goes 44 = .ok (.goto (-36), 3) := by decide +kernel
theorem dX12_goes_47 : decode cX12_goes 47 = .ok (.aload_n 0, 1) := by decide +kernel
theorem dX12_goes_48 : decode cX12_goes 48 = .ok (.aload_n 0, 1) := by decide +kernel
theorem dX12_goes_49 : decode cX12_goes 49 = .ok (.getfield 129, 3) := by decide +kernel
theorem dX12_goes_52 : decode cX12_goes 52 = .ok (.putfield 132, 3) := by decide +kernel
theorem dX12_goes_55 : decode cX12_goes 55 = .ok (.aload_n 0, 1) := by decide +kernel
theorem dX12_goes_56 : decode cX12_goes 56 = .ok (.getfield 129, 3) := by decide +kernel
theorem dX12_goes_59 : decode cX12_goes 59 = .ok (.aload_n 0, 1) := by decide +kernel
theorem dX12_goes_60 : decode cX12_goes 60 = .ok (.getfield 114, 3) := by decide +kernel
theorem dX12_goes_63 : decode cX12_goes 63 = .ok (.if_icmp .lt 12, 3) := by decide +kernel
theorem dX12_goes_66 : decode cX12_goes 66 = .ok (.aload_n 0, 1) := by decide +kernel
theorem dX12_goes_67 : decode cX12_goes 67 = .ok (.bipush 21, 2) := by decide +kernel
theorem dX12_goes_69 : decode cX12_goes 69 = .ok (.putfield 139, 3) := by decide +kernel
theorem dX12_goes_72 : decode cX12_goes 72 = .ok (.goto 222, 3) := by decide +kernel
theorem dX12_goes_75 : decode cX12_goes 75 = .ok (.aload_n 0, 1) := by decide +kernel
theorem dX12_goes_76 : decode cX12_goes 76 = .ok (.aload_n 0, 1) := by decide +kernel
theorem dX12_goes_77 : decode cX12_goes 77 = .ok (.getfield 129, 3) := by decide +kernel
theorem dX12_goes_80 : decode cX12_goes 80 = .ok (.invokevirtual 135, 3) := by decide +kernel
theorem dX12_goes_83 : decode cX12_goes 83 = .ok (.invokestatic 142, 3) := by decide +kernel
theorem dX12_goes_86 : decode cX12_goes 86 = .ok (.ifCond .eq 41, 3) := by decide +kernel
theorem dX12_goes_89 : decode cX12_goes 89 = .ok (.aload_n 0, 1) := by decide +kernel
theorem dX12_goes_90 : decode cX12_goes 90 = .ok (.aload_n 0, 1) := by decide +kernel
theorem dX12_goes_91 : decode cX12_goes 91 = .ok (.getfield 132, 3) := by decide +kernel
theorem dX12_goes_94 : decode cX12_goes 94 = .ok (.invokevirtual 135, 3) := by decide +kernel
theorem dX12_goes_97 : decode cX12_goes 97 = .ok (.invokestatic 142, 3) := by decide +kernel
theorem dX12_goes_100 : decode cX12_goes 100 = .ok (.ifCond .eq 16, 3) := by decide +kernel
theorem dX12_goes_103 : decode cX12_goes 103 = .ok (.aload_n 0, 1) := by decide +kernel
theorem dX12_goes_104 : decode cX12_goes 104 = .ok (.dup, 1) := by decide +kernel
theorem dX12_goes_105 : decode cX12_goes 105 = .ok (.getfield 132, 3) := by decide +kernel
theorem dX12_goes_108 : decode cX12_goes 108 = .ok (.iconst 1, 1) := by decide +kernel
theorem dX12_goes_109 : decode cX12_goes 109 = .ok (.iadd, 1) := by decide +kernel
theorem dX12_goes_110 : decode cX12_goes 110 = .ok (.putfield 132, 3) := by decide +kernel
theorem dX12_goes_113 : decode cX12_goes 113 = .ok (.goto (-24), 3) := by decide +kernel
theorem dX12_goes_116 : decode cX12_goes 116 = .ok (.aload_n 0, 1) := by decide +kernel
theorem dX12_goes_117 : decode cX12_goes 117 = .ok (.aload_n 0, 1) := by decide +kernel
theorem dX12_goes_118 : decode cX12_goes 118 = .ok (.invokevirtual 146, 3) := by decide +kernel
theorem dX12_goes_121 : decode cX12_goes 121 = .ok (.putfield 139, 3) := by decide +kernel
theorem dX12_goes_124 : decode cX12_goes 124 = .ok (.goto 170, 3) := by decide +kernel
theorem dX12_goes_127 : decode cX12_goes 127 = .ok (.aload_n 0, 1) := by decide +kernel
theorem dX12_goes_128 : decode cX12_goes 128 = .ok (.aload_n 0, 1) := by decide +kernel
theorem dX12_goes_129 : decode cX12_goes 129 = .ok (.getfield 129, 3) := by decide +kernel
theorem dX12_goes_132 : decode cX12_goes 132 = .ok (.invokevirtual 135, 3) := by decide +kernel
theorem dX12_goes_135 : decode cX12_goes 135 = .ok (.invokestatic 149, 3) := by decide +kernel
theorem dX12_goes_138 : decode cX12_goes 138 = .ok (.ifCond .eq 98, 3) := by decide +kernel
theorem dX12_goes_141 : decode cX12_goes 141 = .ok (.aload_n 0, 1) := by decide +kernel
theorem dX12_goes_142 : decode cX12_goes 142 = .ok (.iconst 0, 1) := by decide +kernel
theorem dX12_goes_143 : decode cX12_goes 143 = .ok (.putfield 152, 3) := by decide +kernel
theorem dX12_goes_146 : decode cX12_goes 146 = .ok (.aload_n 0, 1) := by decide +kernel
theorem dX12_goes_147 : decode cX12_goes 147 = .ok (.aload_n 0, 1) := by decide +kernel
theorem dX12_goes_148 : decode cX12_goes 148 = .ok (.getfield 132, 3) := by decide +kernel
theorem dX12_goes_151 : decode cX12_goes 151 = .ok (.invokevirtual 135, 3) := by decide +kernel
theorem dX12_goes_154 : decode cX12_goes 154 = .ok (.invokestatic 149, 3) := by decide +kernel
theorem dX12_goes_157 : decode cX12_goes 157 = .ok (.ifCond .eq 52, 3) := by decide +kernel
theorem dX12_goes_160 : decode cX12_goes 160 = .ok (.aload_n 0, 1) := by decide +kernel
theorem dX12_goes_161 : decode cX12_goes 161 = .ok (.getfield 132, 3) := by decide +kernel
theorem dX12_goes_164 : decode cX12_goes 164 = .ok (.aload_n 0, 1) := by decide +kernel
theorem dX12_goes_165 : decode cX12_goes 165 = .ok (.getfield 129, 3) := by decide +kernel
theorem dX12_goes_168 : decode cX12_goes 168 = .ok (.isub, 1) := by decide +kernel
theorem dX12_goes_169 : decode cX12_goes 169 = .ok (.iconst 3, 1) := by decide +kernel
theorem dX12_goes_170 : decode cX12_goes 170 = .ok (.if_icmp .ge 26, 3) := by decide +kernel
theorem dX12_goes_173 : decode cX12_goes 173 = .ok (.aload_n 0, 1) := by decide +kernel
theorem dX12_goes_174 : decode cX12_goes 174 = .ok (.bipush 10, 2) := by decide +kernel
theorem dX12_goes_176 : decode cX12_goes 176 = .ok (.aload_n 0, 1) := by decide +kernel
theorem dX12_goes_177 : decode cX12_goes 177 = .ok (.getfield 152, 3) := by decide +kernel
theorem dX12_goes_180 : decode cX12_goes 180 = .ok (.imul, 1) := by decide +kernel
theorem dX12_goes_181 : decode cX12_goes 181 = .ok (.aload_n 0, 1) := by decide +kernel
theorem dX12_goes_182 : decode cX12_goes 182 = .ok (.aload_n 0, 1) := by decide +kernel
theorem dX12_goes_183 : decode cX12_goes 183 = .ok (.getfield 132, 3) := by decide +kernel
theorem dX12_goes_186 : decode cX12_goes 186 = .ok (.invokevirtual 135, 3) := by decide +kernel
theorem dX12_goes_189 : decode cX12_goes 189 = .ok (.iadd, 1) := by decide +kernel
theorem dX12_goes_190 : decode cX12_goes 190 = .ok (.bipush 48, 2) := by decide +kernel
theorem dX12_goes_192 : decode cX12_goes 192 = .ok (.isub, 1) := by decide +kernel
theorem dX12_goes_193 : decode cX12_goes 193 = .ok (.putfield 152, 3) := by decide +kernel
theorem dX12_goes_196 : decode cX12_goes 196 = .ok (.aload_n 0, 1) := by decide +kernel
theorem dX12_goes_197 : decode cX12_goes 197 = .ok (.dup, 1) := by decide +kernel
theorem dX12_goes_198 : decode cX12_goes 198 = .ok (.getfield 132, 3) := by decide +kernel
theorem dX12_goes_201 : decode cX12_goes 201 = .ok (.iconst 1, 1) := by decide +kernel
theorem dX12_goes_202 : decode cX12_goes 202 = .ok (.iadd, 1) := by decide +kernel
theorem dX12_goes_203 : decode cX12_goes 203 = .ok (.putfield 132, 3) := by decide +kernel
theorem dX12_goes_206 : decode cX12_goes 206 = .ok (.goto (-60), 3) := by decide +kernel
theorem dX12_goes_209 : decode cX12_goes 209 = .ok (.aload_n 0, 1) := by decide +kernel
theorem dX12_goes_210 : decode cX12_goes 210 = .ok (.aload_n 0, 1) := by decide +kernel
theorem dX12_goes_211 : decode cX12_goes 211 = .ok (.getfield 132, 3) := by decide +kernel
theorem dX12_goes_214 : decode cX12_goes 214 = .ok (.aload_n 0, 1) := by decide +kernel
theorem dX12_goes_215 : decode cX12_goes 215 = .ok (.getfield 129, 3) := by decide +kernel
theorem dX12_goes_218 : decode cX12_goes 218 = .ok (.isub, 1) := by decide +kernel
theorem dX12_goes_219 : decode cX12_goes 219 = .ok (.iconst 3, 1) := by decide +kernel
theorem dX12_goes_220 : decode cX12_goes 220 = .ok (.if_icmp .le 8, 3) := by decide +kernel
theorem dX12_goes_223 : decode cX12_goes 223 = .ok (.bipush 22, 2) := by decide +kernel
theorem dX12_goes_225 : decode cX12_goes 225 = .ok (.goto 5, 3) := by decide +kernel
theorem dX12_goes_228 : decode cX12_goes 228 = .ok (.bipush 20, 2) := by decide +kernel
theorem dX12_goes_230 : decode cX12_goes 230 = .ok (.putfield 139, 3) := by decide +kernel
theorem dX12_goes_233 : decode cX12_goes 233 = .ok (.goto 61, 3) := by decide +kernel
theorem dX12_goes_236 : decode cX12_goes 236 = .ok (.aload_n 0, 1) := by decide +kernel
theorem dX12_goes_237 : decode cX12_goes 237 = .ok (.dup, 1) := by decide +kernel
theorem dX12_goes_238 : decode cX12_goes 238 = .ok (.getfield 132, 3) := by decide +kernel
theorem dX12_goes_241 : decode cX12_goes 241 = .ok (.iconst 1, 1) := by decide +kernel
theorem dX12_goes_242 : decode cX12_goes 242 = .ok (.iadd, 1) := by decide +kernel
theorem dX12_goes_243 : decode cX12_goes 243 = .ok (.putfield 132, 3) := by decide +kernel
theorem dX12_goes_246 : decode cX12_goes 246 = .ok (.aload_n 0, 1) := by decide +kernel
theorem dX12_goes_247 : decode cX12_goes 247 = .ok (.bipush 22, 2) := by decide +kernel
theorem dX12_goes_249 : decode cX12_goes 249 = .ok (.putfield 139, 3) := by decide +kernel
theorem dX12_goes_252 : decode cX12_goes 252 = .ok (.iconst 0, 1) := by decide +kernel
theorem dX12_goes_253 : decode cX12_goes 253 = .ok (.istore_n 1, 1) := by decide +kernel
theorem dX12_goes_254 : decode cX12_goes 254 = .ok (.iload_n 1, 1) := by decide +kernel
theorem dX12_goes_255 : decode cX12_goes 255 = .ok (.ldc 155, 2) := by decide +kernel
theorem dX12_goes_257 : decode cX12_goes 257 = .ok (.invokevirtual 119, 3) := by decide +kernel
theorem dX12_goes_260 : decode cX12_goes 260 = .ok (.if_icmp .ge 34, 3) := by decide +kernel
theorem dX12_goes_263 : decode cX12_goes 263 = .ok (.aload_n 0, 1) := by decide +kernel
theorem dX12_goes_264 : decode cX12_goes 264 = .ok (.aload_n 0, 1) := by decide +kernel
theorem dX12_goes_265 : decode cX12_goes 265 = .ok (.getfield 129, 3) := by decide +kernel
theorem dX12_goes_268 : decode cX12_goes 268 = .ok (.invokevirtual 135, 3) := by decide +kernel
theorem dX12_goes_271 : decode cX12_goes 271 = .ok (.ldc 155, 2) := by decide +kernel
theorem dX12_goes_273 : decode cX12_goes 273 = .ok (.iload_n 1, 1) := by decide +kernel
theorem dX12_goes_274 : decode cX12_goes 274 = .ok (.invokevirtual 125, 3) := by decide +kernel
theorem dX12_goes_277 : decode cX12_goes 277 = .ok (.if_icmp .ne 11, 3) := by decide +kernel
theorem dX12_goes_280 : decode cX12_goes 280 = .ok (.aload_n 0, 1) := by decide +kernel
theorem dX12_goes_281 : decode cX12_goes 281 = .ok (.bipush 30, 2) := by decide +kernel
theorem dX12_goes_283 : decode cX12_goes 283 = .ok (.iload_n 1, 1) := by decide +kernel
theorem dX12_goes_284 : decode cX12_goes 284 = .ok (.iadd, 1) := by decide +kernel
theorem dX12_goes_285 : decode cX12_goes 285 = .ok (.putfield 139, 3) := by decide +kernel
theorem dX12_goes_288 : decode cX12_goes 288 = .ok (.iinc 1 1, 3) := by decide +kernel
theorem dX12_goes_291 : decode cX12_goes 291 = .ok (.goto (-37), 3) := by decide +kernel
theorem dX12_goes_294 : decode cX12_goes 294 = .ok (.return_, 1) := by decide +kernel
theorem bX12_goes_0 {d : Nat} {P : q_Mem → Prop} {M : q_Mem} (h : (∀ M1 : q_Mem, M1 = q_up M 178 8 (M 178 9) → q_v mX12_goes d (qPU P) M1 8 [some (qR 178), none] [])) : q_v mX12_goes d (qPU P) M 0 [some (qR 178), none] [] := by
  refine qr_aload_n 0 1 rfl (x := 178) rfl dX12_goes_0 ?_
  refine qr_aload_n 1 2 rfl (x := 178) rfl dX12_goes_1 ?_
  refine qg_i 2 5 rfl ck12 9 (kk := 9) (by decide) (by decide +kernel) (by decide +kernel) rfl wm_1335 rfl dX12_goes_2 ?_
  refine qp_i 5 8 rfl ck12 8 (kk := 8) (by decide) (by decide +kernel) (by decide) rfl rfl wm_1334 rfl dX12_goes_5 (fun M1 e_M1 => ?_)
  have h := h M1 e_M1
  exact h
theorem bX12_goes_8 {d : Nat} {P : q_Mem → Prop} {M : q_Mem} (h : q_kI yX12_see mX12_see d [qR 178, qI (M 178 8)] M (fun v2 M1 => ((v2 = (10 : Int)) → (∀ M3 : q_Mem, M3 = q_up M1 178 8 (q_add (M1 178 8) 1) → q_v mX12_goes d (qPU P) M3 8 [some (qR 178), none] [])) ∧ ((¬ (v2 = (10 : Int))) → q_kI yX12_see mX12_see d [qR 178, qI (M1 178 8)] M1 (fun v5 M4 => ((¬ v5 = (32 : Int)) → (∀ M6 : q_Mem, M6 = q_up M4 178 9 (M4 178 8) → (((M6 178 8) < (M6 178 10)) → q_kI yX12_see mX12_see d [qR 178, qI (M6 178 8)] M6 (fun v8 M7 => q_kI yX12_isSmall mX12_isSmall d [qI v8] M7 (fun v10 M9 => ((v10 = 0) → q_kI yX12_see mX12_see d [qR 178, qI (M9 178 8)] M9 (fun v12 M11 => q_kI yX12_isDigit mX12_isDigit d [qI v12] M11 (fun v14 M13 => ((v14 = 0) → (∀ M15 : q_Mem, M15 = q_up M13 178 9 (q_add (M13 178 9) 1) → (∀ M16 : q_Mem, M16 = q_up M15 178 11 22 → q_v mX12_goes d (qPU P) M16 254 [some (qR 178), some (qI 0)] []))) ∧ ((¬ (v14 = 0)) → (∀ M17 : q_Mem, M17 = q_up M13 178 12 0 → q_v mX12_goes d (qPU P) M17 146 [some (qR 178), none] []))))) ∧ ((¬ (v10 = 0)) → q_v mX12_goes d (qPU P) M9 89 [some (qR 178), none] [])))) ∧ ((¬ ((M6 178 8) < (M6 178 10))) → (∀ M18 : q_Mem, M18 = q_up M6 178 11 21 → P M18)))) ∧ ((v5 = (32 : Int)) → (∀ M19 : q_Mem, M19 = q_up M4 178 8 (q_add (M4 178 8) 1) → q_v mX12_goes d (qPU P) M19 8 [some (qR 178), none] [])))))) : q_v mX12_goes d (qPU P) M 8 [some (qR 178), none] [] := by
  refine qr_aload_n 8 9 rfl (x := 178) rfl dX12_goes_8 ?_
  refine qr_aload_n 9 10 rfl (x := 178) rfl dX12_goes_9 ?_
  refine qg_i 10 13 rfl ck12 8 (kk := 8) (by decide) (by decide +kernel) (by decide +kernel) rfl wm_1334 rfl dX12_goes_10 ?_
  refine qw_I 13 16 rfl (av := [qI (M 178 8)]) ca_X12_see wm_1489 wp_76 wm_1487 ck12 (by decide +kernel) rfl rfl (Nat.le_of_ble_eq_true rfl) dX12_goes_13 h (fun v2 M1 h => ?_)
  refine qr_bipush 16 18 rfl (q_l32 _ rfl) (by decide) dX12_goes_16 ?_
  refine qr_icmp_eq 18 21 34 rfl (by decide) dX12_goes_18 (fun c18 => ?_) (fun c18 => ?_)
  · have h := h.1 c18
    refine qr_aload_n 34 35 rfl (x := 178) rfl dX12_goes_34 ?_
    refine qr_dup 35 36 rfl rfl dX12_goes_35 ?_
    refine qg_i 36 39 rfl ck12 8 (kk := 8) (by decide) (by decide +kernel) (by decide +kernel) rfl wm_1334 rfl dX12_goes_36 ?_
    refine qr_iconst 39 40 rfl (q_l32 _ rfl) dX12_goes_39 ?_
    refine qr_iadd 40 41 rfl dX12_goes_40 ?_
    refine qp_i 41 44 rfl ck12 8 (kk := 8) (by decide) (by decide +kernel) (by decide) rfl rfl wm_1334 rfl dX12_goes_41 (fun M3 e_M3 => ?_)
    have h := h M3 e_M3
    refine qr_goto 44 8 (by decide) dX12_goes_44 ?_
    exact h
  · have h := h.2 c18
    refine qr_aload_n 21 22 rfl (x := 178) rfl dX12_goes_21 ?_
    refine qr_aload_n 22 23 rfl (x := 178) rfl dX12_goes_22 ?_
    refine qg_i 23 26 rfl ck12 8 (kk := 8) (by decide) (by decide +kernel) (by decide +kernel) rfl wm_1334 rfl dX12_goes_23 ?_
    refine qw_I 26 29 rfl (av := [qI (M1 178 8)]) ca_X12_see wm_1489 wp_76 wm_1487 ck12 (by decide +kernel) rfl rfl (Nat.le_of_ble_eq_true rfl) dX12_goes_26 h (fun v5 M4 h => ?_)
    refine qr_bipush 29 31 rfl (q_l32 _ rfl) (by decide) dX12_goes_29 ?_
    refine qr_icmp_ne 31 34 47 rfl (by decide) dX12_goes_31 (fun c31 => ?_) (fun c31 => ?_)
    · have h := h.1 c31
      refine qr_aload_n 47 48 rfl (x := 178) rfl dX12_goes_47 ?_
      refine qr_aload_n 48 49 rfl (x := 178) rfl dX12_goes_48 ?_
      refine qg_i 49 52 rfl ck12 8 (kk := 8) (by decide) (by decide +kernel) (by decide +kernel) rfl wm_1334 rfl dX12_goes_49 ?_
      refine qp_i 52 55 rfl ck12 9 (kk := 9) (by decide) (by decide +kernel) (by decide) rfl rfl wm_1335 rfl dX12_goes_52 (fun M6 e_M6 => ?_)
      have h := h M6 e_M6
      refine qr_aload_n 55 56 rfl (x := 178) rfl dX12_goes_55 ?_
      refine qg_i 56 59 rfl ck12 8 (kk := 8) (by decide) (by decide +kernel) (by decide +kernel) rfl wm_1334 rfl dX12_goes_56 ?_
      refine qr_aload_n 59 60 rfl (x := 178) rfl dX12_goes_59 ?_
      refine qg_i 60 63 rfl ck12 10 (kk := 10) (by decide) (by decide +kernel) (by decide +kernel) rfl wm_1336 rfl dX12_goes_60 ?_
      refine qr_icmp_lt 63 66 75 rfl (by decide) dX12_goes_63 (fun c63 => ?_) (fun c63 => ?_)
      · have h := h.1 c63
        refine qr_aload_n 75 76 rfl (x := 178) rfl dX12_goes_75 ?_
        refine qr_aload_n 76 77 rfl (x := 178) rfl dX12_goes_76 ?_
        refine qg_i 77 80 rfl ck12 8 (kk := 8) (by decide) (by decide +kernel) (by decide +kernel) rfl wm_1334 rfl dX12_goes_77 ?_
        refine qw_I 80 83 rfl (av := [qI (M6 178 8)]) ca_X12_see wm_1489 wp_76 wm_1487 ck12 (by decide +kernel) rfl rfl (Nat.le_of_ble_eq_true rfl) dX12_goes_80 h (fun v8 M7 h => ?_)
        refine qs_I 83 86 rfl (av := [qI v8]) ca_X12_isSmall wm_1492 wm_1491 rfl rfl (Nat.le_of_ble_eq_true rfl) dX12_goes_83 h (fun v10 M9 h => ?_)
        refine qr_if_eq 86 89 127 rfl (by decide) dX12_goes_86 (fun c86 => ?_) (fun c86 => ?_)
        · have h := h.1 c86
          refine qr_aload_n 127 128 rfl (x := 178) rfl dX12_goes_127 ?_
          refine qr_aload_n 128 129 rfl (x := 178) rfl dX12_goes_128 ?_
          refine qg_i 129 132 rfl ck12 8 (kk := 8) (by decide) (by decide +kernel) (by decide +kernel) rfl wm_1334 rfl dX12_goes_129 ?_
          refine qw_I 132 135 rfl (av := [qI (M9 178 8)]) ca_X12_see wm_1489 wp_76 wm_1487 ck12 (by decide +kernel) rfl rfl (Nat.le_of_ble_eq_true rfl) dX12_goes_132 h (fun v12 M11 h => ?_)
          refine qs_I 135 138 rfl (av := [qI v12]) ca_X12_isDigit wm_1502 wm_1501 rfl rfl (Nat.le_of_ble_eq_true rfl) dX12_goes_135 h (fun v14 M13 h => ?_)
          refine qr_if_eq 138 141 236 rfl (by decide) dX12_goes_138 (fun c138 => ?_) (fun c138 => ?_)
          · have h := h.1 c138
            refine qr_aload_n 236 237 rfl (x := 178) rfl dX12_goes_236 ?_
            refine qr_dup 237 238 rfl rfl dX12_goes_237 ?_
            refine qg_i 238 241 rfl ck12 9 (kk := 9) (by decide) (by decide +kernel) (by decide +kernel) rfl wm_1335 rfl dX12_goes_238 ?_
            refine qr_iconst 241 242 rfl (q_l32 _ rfl) dX12_goes_241 ?_
            refine qr_iadd 242 243 rfl dX12_goes_242 ?_
            refine qp_i 243 246 rfl ck12 9 (kk := 9) (by decide) (by decide +kernel) (by decide) rfl rfl wm_1335 rfl dX12_goes_243 (fun M15 e_M15 => ?_)
            have h := h M15 e_M15
            refine qr_aload_n 246 247 rfl (x := 178) rfl dX12_goes_246 ?_
            refine qr_bipush 247 249 rfl (q_l32 _ rfl) (by decide) dX12_goes_247 ?_
            refine qp_i 249 252 rfl ck12 11 (kk := 11) (by decide) (by decide +kernel) (by decide) rfl rfl wm_1337 rfl dX12_goes_249 (fun M16 e_M16 => ?_)
            have h := h M16 e_M16
            refine qr_iconst 252 253 rfl (q_l32 _ rfl) dX12_goes_252 ?_
            refine qr_istore_n 253 254 rfl (by decide) rfl rfl dX12_goes_253 ?_
            exact h
          · have h := h.2 c138
            refine qr_aload_n 141 142 rfl (x := 178) rfl dX12_goes_141 ?_
            refine qr_iconst 142 143 rfl (q_l32 _ rfl) dX12_goes_142 ?_
            refine qp_i 143 146 rfl ck12 12 (kk := 12) (by decide) (by decide +kernel) (by decide) rfl rfl wm_1338 rfl dX12_goes_143 (fun M17 e_M17 => ?_)
            have h := h M17 e_M17
            exact h
        · have h := h.2 c86
          exact h
      · have h := h.2 c63
        refine qr_aload_n 66 67 rfl (x := 178) rfl dX12_goes_66 ?_
        refine qr_bipush 67 69 rfl (q_l32 _ rfl) (by decide) dX12_goes_67 ?_
        refine qp_i 69 72 rfl ck12 11 (kk := 11) (by decide) (by decide +kernel) (by decide) rfl rfl wm_1337 rfl dX12_goes_69 (fun M18 e_M18 => ?_)
        have h := h M18 e_M18
        refine qr_goto 72 294 (by decide) dX12_goes_72 ?_
        exact qe_u 294 rfl dX12_goes_294 h
    · have h := h.2 c31
      refine qr_aload_n 34 35 rfl (x := 178) rfl dX12_goes_34 ?_
      refine qr_dup 35 36 rfl rfl dX12_goes_35 ?_
      refine qg_i 36 39 rfl ck12 8 (kk := 8) (by decide) (by decide +kernel) (by decide +kernel) rfl wm_1334 rfl dX12_goes_36 ?_
      refine qr_iconst 39 40 rfl (q_l32 _ rfl) dX12_goes_39 ?_
      refine qr_iadd 40 41 rfl dX12_goes_40 ?_
      refine qp_i 41 44 rfl ck12 8 (kk := 8) (by decide) (by decide +kernel) (by decide) rfl rfl wm_1334 rfl dX12_goes_41 (fun M19 e_M19 => ?_)
      have h := h M19 e_M19
      refine qr_goto 44 8 (by decide) dX12_goes_44 ?_
      exact h
theorem bX12_goes_89 {d : Nat} {P : q_Mem → Prop} {M : q_Mem} (h : q_kI yX12_see mX12_see d [qR 178, qI (M 178 9)] M (fun v2 M1 => q_kI yX12_isSmall mX12_isSmall d [qI v2] M1 (fun v4 M3 => ((v4 = 0) → q_kI yX12_keyAt mX12_keyAt d [qR 178] M3 (fun v6 M5 => (∀ M7 : q_Mem, M7 = q_up M5 178 11 v6 → P M7))) ∧ ((¬ (v4 = 0)) → (∀ M8 : q_Mem, M8 = q_up M3 178 9 (q_add (M3 178 9) 1) → q_v mX12_goes d (qPU P) M8 89 [some (qR 178), none] []))))) : q_v mX12_goes d (qPU P) M 89 [some (qR 178), none] [] := by
  refine qr_aload_n 89 90 rfl (x := 178) rfl dX12_goes_89 ?_
  refine qr_aload_n 90 91 rfl (x := 178) rfl dX12_goes_90 ?_
  refine qg_i 91 94 rfl ck12 9 (kk := 9) (by decide) (by decide +kernel) (by decide +kernel) rfl wm_1335 rfl dX12_goes_91 ?_
  refine qw_I 94 97 rfl (av := [qI (M 178 9)]) ca_X12_see wm_1489 wp_76 wm_1487 ck12 (by decide +kernel) rfl rfl (Nat.le_of_ble_eq_true rfl) dX12_goes_94 h (fun v2 M1 h => ?_)
  refine qs_I 97 100 rfl (av := [qI v2]) ca_X12_isSmall wm_1492 wm_1491 rfl rfl (Nat.le_of_ble_eq_true rfl) dX12_goes_97 h (fun v4 M3 h => ?_)
  refine qr_if_eq 100 103 116 rfl (by decide) dX12_goes_100 (fun c100 => ?_) (fun c100 => ?_)
  · have h := h.1 c100
    refine qr_aload_n 116 117 rfl (x := 178) rfl dX12_goes_116 ?_
    refine qr_aload_n 117 118 rfl (x := 178) rfl dX12_goes_117 ?_
    refine qw_I 118 121 rfl (av := []) ca_X12_keyAt wm_1496 wp_77 wm_1494 ck12 (by decide +kernel) rfl rfl (Nat.le_of_ble_eq_true rfl) dX12_goes_118 h (fun v6 M5 h => ?_)
    refine qp_i 121 124 rfl ck12 11 (kk := 11) (by decide) (by decide +kernel) (by decide) rfl rfl wm_1337 rfl dX12_goes_121 (fun M7 e_M7 => ?_)
    have h := h M7 e_M7
    refine qr_goto 124 294 (by decide) dX12_goes_124 ?_
    exact qe_u 294 rfl dX12_goes_294 h
  · have h := h.2 c100
    refine qr_aload_n 103 104 rfl (x := 178) rfl dX12_goes_103 ?_
    refine qr_dup 104 105 rfl rfl dX12_goes_104 ?_
    refine qg_i 105 108 rfl ck12 9 (kk := 9) (by decide) (by decide +kernel) (by decide +kernel) rfl wm_1335 rfl dX12_goes_105 ?_
    refine qr_iconst 108 109 rfl (q_l32 _ rfl) dX12_goes_108 ?_
    refine qr_iadd 109 110 rfl dX12_goes_109 ?_
    refine qp_i 110 113 rfl ck12 9 (kk := 9) (by decide) (by decide +kernel) (by decide) rfl rfl wm_1335 rfl dX12_goes_110 (fun M8 e_M8 => ?_)
    have h := h M8 e_M8
    refine qr_goto 113 89 (by decide) dX12_goes_113 ?_
    exact h
theorem bX12_goes_146 {d : Nat} {P : q_Mem → Prop} {M : q_Mem} (h : q_kI yX12_see mX12_see d [qR 178, qI (M 178 9)] M (fun v2 M1 => q_kI yX12_isDigit mX12_isDigit d [qI v2] M1 (fun v4 M3 => ((v4 = 0) → (((q_sub (M3 178 9) (M3 178 8)) ≤ (3 : Int)) → (∀ M5 : q_Mem, M5 = q_up M3 178 11 20 → P M5)) ∧ ((¬ ((q_sub (M3 178 9) (M3 178 8)) ≤ (3 : Int))) → (∀ M6 : q_Mem, M6 = q_up M3 178 11 22 → P M6))) ∧ ((¬ (v4 = 0)) → (((3 : Int) ≤ (q_sub (M3 178 9) (M3 178 8))) → (∀ M7 : q_Mem, M7 = q_up M3 178 9 (q_add (M3 178 9) 1) → q_v mX12_goes d (qPU P) M7 146 [some (qR 178), none] [])) ∧ ((¬ ((3 : Int) ≤ (q_sub (M3 178 9) (M3 178 8)))) → q_kI yX12_see mX12_see d [qR 178, qI (M3 178 9)] M3 (fun v9 M8 => (∀ M10 : q_Mem, M10 = q_up M8 178 12 (q_sub (q_add (q_mul 10 (M3 178 12)) v9) 48) → (∀ M11 : q_Mem, M11 = q_up M10 178 9 (q_add (M10 178 9) 1) → q_v mX12_goes d (qPU P) M11 146 [some (qR 178), none] [])))))))) : q_v mX12_goes d (qPU P) M 146 [some (qR 178), none] [] := by
  refine qr_aload_n 146 147 rfl (x := 178) rfl dX12_goes_146 ?_
  refine qr_aload_n 147 148 rfl (x := 178) rfl dX12_goes_147 ?_
  refine qg_i 148 151 rfl ck12 9 (kk := 9) (by decide) (by decide +kernel) (by decide +kernel) rfl wm_1335 rfl dX12_goes_148 ?_
  refine qw_I 151 154 rfl (av := [qI (M 178 9)]) ca_X12_see wm_1489 wp_76 wm_1487 ck12 (by decide +kernel) rfl rfl (Nat.le_of_ble_eq_true rfl) dX12_goes_151 h (fun v2 M1 h => ?_)
  refine qs_I 154 157 rfl (av := [qI v2]) ca_X12_isDigit wm_1502 wm_1501 rfl rfl (Nat.le_of_ble_eq_true rfl) dX12_goes_154 h (fun v4 M3 h => ?_)
  refine qr_if_eq 157 160 209 rfl (by decide) dX12_goes_157 (fun c157 => ?_) (fun c157 => ?_)
  · have h := h.1 c157
    refine qr_aload_n 209 210 rfl (x := 178) rfl dX12_goes_209 ?_
    refine qr_aload_n 210 211 rfl (x := 178) rfl dX12_goes_210 ?_
    refine qg_i 211 214 rfl ck12 9 (kk := 9) (by decide) (by decide +kernel) (by decide +kernel) rfl wm_1335 rfl dX12_goes_211 ?_
    refine qr_aload_n 214 215 rfl (x := 178) rfl dX12_goes_214 ?_
    refine qg_i 215 218 rfl ck12 8 (kk := 8) (by decide) (by decide +kernel) (by decide +kernel) rfl wm_1334 rfl dX12_goes_215 ?_
    refine qr_isub 218 219 rfl dX12_goes_218 ?_
    refine qr_iconst 219 220 rfl (q_l32 _ rfl) dX12_goes_219 ?_
    refine qr_icmp_le 220 223 228 rfl (by decide) dX12_goes_220 (fun c220 => ?_) (fun c220 => ?_)
    · have h := h.1 c220
      refine qr_bipush 228 230 rfl (q_l32 _ rfl) (by decide) dX12_goes_228 ?_
      refine qp_i 230 233 rfl ck12 11 (kk := 11) (by decide) (by decide +kernel) (by decide) rfl rfl wm_1337 rfl dX12_goes_230 (fun M5 e_M5 => ?_)
      have h := h M5 e_M5
      refine qr_goto 233 294 (by decide) dX12_goes_233 ?_
      exact qe_u 294 rfl dX12_goes_294 h
    · have h := h.2 c220
      refine qr_bipush 223 225 rfl (q_l32 _ rfl) (by decide) dX12_goes_223 ?_
      refine qr_goto 225 230 (by decide) dX12_goes_225 ?_
      refine qp_i 230 233 rfl ck12 11 (kk := 11) (by decide) (by decide +kernel) (by decide) rfl rfl wm_1337 rfl dX12_goes_230 (fun M6 e_M6 => ?_)
      have h := h M6 e_M6
      refine qr_goto 233 294 (by decide) dX12_goes_233 ?_
      exact qe_u 294 rfl dX12_goes_294 h
  · have h := h.2 c157
    refine qr_aload_n 160 161 rfl (x := 178) rfl dX12_goes_160 ?_
    refine qg_i 161 164 rfl ck12 9 (kk := 9) (by decide) (by decide +kernel) (by decide +kernel) rfl wm_1335 rfl dX12_goes_161 ?_
    refine qr_aload_n 164 165 rfl (x := 178) rfl dX12_goes_164 ?_
    refine qg_i 165 168 rfl ck12 8 (kk := 8) (by decide) (by decide +kernel) (by decide +kernel) rfl wm_1334 rfl dX12_goes_165 ?_
    refine qr_isub 168 169 rfl dX12_goes_168 ?_
    refine qr_iconst 169 170 rfl (q_l32 _ rfl) dX12_goes_169 ?_
    refine qr_icmp_ge 170 173 196 rfl (by decide) dX12_goes_170 (fun c170 => ?_) (fun c170 => ?_)
    · have h := h.1 c170
      refine qr_aload_n 196 197 rfl (x := 178) rfl dX12_goes_196 ?_
      refine qr_dup 197 198 rfl rfl dX12_goes_197 ?_
      refine qg_i 198 201 rfl ck12 9 (kk := 9) (by decide) (by decide +kernel) (by decide +kernel) rfl wm_1335 rfl dX12_goes_198 ?_
      refine qr_iconst 201 202 rfl (q_l32 _ rfl) dX12_goes_201 ?_
      refine qr_iadd 202 203 rfl dX12_goes_202 ?_
      refine qp_i 203 206 rfl ck12 9 (kk := 9) (by decide) (by decide +kernel) (by decide) rfl rfl wm_1335 rfl dX12_goes_203 (fun M7 e_M7 => ?_)
      have h := h M7 e_M7
      refine qr_goto 206 146 (by decide) dX12_goes_206 ?_
      exact h
    · have h := h.2 c170
      refine qr_aload_n 173 174 rfl (x := 178) rfl dX12_goes_173 ?_
      refine qr_bipush 174 176 rfl (q_l32 _ rfl) (by decide) dX12_goes_174 ?_
      refine qr_aload_n 176 177 rfl (x := 178) rfl dX12_goes_176 ?_
      refine qg_i 177 180 rfl ck12 12 (kk := 12) (by decide) (by decide +kernel) (by decide +kernel) rfl wm_1338 rfl dX12_goes_177 ?_
      refine qr_imul 180 181 rfl dX12_goes_180 ?_
      refine qr_aload_n 181 182 rfl (x := 178) rfl dX12_goes_181 ?_
      refine qr_aload_n 182 183 rfl (x := 178) rfl dX12_goes_182 ?_
      refine qg_i 183 186 rfl ck12 9 (kk := 9) (by decide) (by decide +kernel) (by decide +kernel) rfl wm_1335 rfl dX12_goes_183 ?_
      refine qw_I 186 189 rfl (av := [qI (M3 178 9)]) ca_X12_see wm_1489 wp_76 wm_1487 ck12 (by decide +kernel) rfl rfl (Nat.le_of_ble_eq_true rfl) dX12_goes_186 h (fun v9 M8 h => ?_)
      refine qr_iadd 189 190 rfl dX12_goes_189 ?_
      refine qr_bipush 190 192 rfl (q_l32 _ rfl) (by decide) dX12_goes_190 ?_
      refine qr_isub 192 193 rfl dX12_goes_192 ?_
      refine qp_i 193 196 rfl ck12 12 (kk := 12) (by decide) (by decide +kernel) (by decide) rfl rfl wm_1338 rfl dX12_goes_193 (fun M10 e_M10 => ?_)
      have h := h M10 e_M10
      refine qr_aload_n 196 197 rfl (x := 178) rfl dX12_goes_196 ?_
      refine qr_dup 197 198 rfl rfl dX12_goes_197 ?_
      refine qg_i 198 201 rfl ck12 9 (kk := 9) (by decide) (by decide +kernel) (by decide +kernel) rfl wm_1335 rfl dX12_goes_198 ?_
      refine qr_iconst 201 202 rfl (q_l32 _ rfl) dX12_goes_201 ?_
      refine qr_iadd 202 203 rfl dX12_goes_202 ?_
      refine qp_i 203 206 rfl ck12 9 (kk := 9) (by decide) (by decide +kernel) (by decide) rfl rfl wm_1335 rfl dX12_goes_203 (fun M11 e_M11 => ?_)
      have h := h M11 e_M11
      refine qr_goto 206 146 (by decide) dX12_goes_206 ?_
      exact h
theorem bX12_goes_254 {d : Nat} {P : q_Mem → Prop} {M : q_Mem} (x1 : Int) (h : q_kI yJ0_length_8abf5 mJ0_length_8abf5 d [qR (-((21 : Nat) : Int) - 1)] M (fun v2 M1 => ((v2 ≤ x1) → P M1) ∧ ((¬ (v2 ≤ x1)) → q_kI yX12_see mX12_see d [qR 178, qI (M1 178 8)] M1 (fun v4 M3 => q_kI yJ0_charAt_5068e mJ0_charAt_5068e d [qR (-((21 : Nat) : Int) - 1), qI x1] M3 (fun v6 M5 => ((¬ v4 = v6) → q_v mX12_goes d (qPU P) M5 254 [some (qR 178), some (qI (q_add x1 1))] []) ∧ ((v4 = v6) → (∀ M7 : q_Mem, M7 = q_up M5 178 11 (q_add 30 x1) → q_v mX12_goes d (qPU P) M7 254 [some (qR 178), some (qI (q_add x1 1))] []))))))) : q_v mX12_goes d (qPU P) M 254 [some (qR 178), some (qI x1)] [] := by
  refine qr_iload_n 254 255 rfl (x := x1) rfl dX12_goes_254 ?_
  refine qr_ldcS 255 257 rfl 21 (by decide) rfl rfl rfl dX12_goes_255 ?_
  refine qt_I 257 260 rfl (21 : Nat) (by decide) (av := []) ca_J0_length_8abf5 wm_506 wm_507 wm_1499 rfl rfl rfl (Nat.le_of_ble_eq_true rfl) dX12_goes_257 h (fun v2 M1 h => ?_)
  refine qr_icmp_ge 260 263 294 rfl (by decide) dX12_goes_260 (fun c260 => ?_) (fun c260 => ?_)
  · have h := h.1 c260
    exact qe_u 294 rfl dX12_goes_294 h
  · have h := h.2 c260
    refine qr_aload_n 263 264 rfl (x := 178) rfl dX12_goes_263 ?_
    refine qr_aload_n 264 265 rfl (x := 178) rfl dX12_goes_264 ?_
    refine qg_i 265 268 rfl ck12 8 (kk := 8) (by decide) (by decide +kernel) (by decide +kernel) rfl wm_1334 rfl dX12_goes_265 ?_
    refine qw_I 268 271 rfl (av := [qI (M1 178 8)]) ca_X12_see wm_1489 wp_76 wm_1487 ck12 (by decide +kernel) rfl rfl (Nat.le_of_ble_eq_true rfl) dX12_goes_268 h (fun v4 M3 h => ?_)
    refine qr_ldcS 271 273 rfl 21 (by decide) rfl rfl rfl dX12_goes_271 ?_
    refine qr_iload_n 273 274 rfl (x := x1) rfl dX12_goes_273 ?_
    refine qt_I 274 277 rfl (21 : Nat) (by decide) (av := [qI x1]) ca_J0_charAt_5068e wm_590 wm_591 wm_1500 rfl rfl rfl (Nat.le_of_ble_eq_true rfl) dX12_goes_274 h (fun v6 M5 h => ?_)
    refine qr_icmp_ne 277 280 288 rfl (by decide) dX12_goes_277 (fun c277 => ?_) (fun c277 => ?_)
    · have h := h.1 c277
      refine qr_iinc 288 291 rfl (by decide) (x := x1) rfl rfl rfl dX12_goes_288 ?_
      refine qr_goto 291 254 (by decide) dX12_goes_291 ?_
      exact h
    · have h := h.2 c277
      refine qr_aload_n 280 281 rfl (x := 178) rfl dX12_goes_280 ?_
      refine qr_bipush 281 283 rfl (q_l32 _ rfl) (by decide) dX12_goes_281 ?_
      refine qr_iload_n 283 284 rfl (x := x1) rfl dX12_goes_283 ?_
      refine qr_iadd 284 285 rfl dX12_goes_284 ?_
      refine qp_i 285 288 rfl ck12 11 (kk := 11) (by decide) (by decide +kernel) (by decide) rfl rfl wm_1337 rfl dX12_goes_285 (fun M7 e_M7 => ?_)
      have h := h M7 e_M7
      refine qr_iinc 288 291 rfl (by decide) (x := x1) rfl rfl rfl dX12_goes_288 ?_
      refine qr_goto 291 254 (by decide) dX12_goes_291 ?_
      exact h
theorem dX12_fails_0 : decode cX12_fails 0 = .ok (.aload_n 0, 1) := by decide +kernel
theorem dX12_fails_1 : decode cX12_fails 1 = .ok (.getfield 157, 3) := by decide +kernel
theorem dX12_fails_4 : decode cX12_fails 4 = .ok (.ifCond .eq 4, 3) := by decide +kernel
theorem dX12_fails_7 : decode cX12_fails 7 = .ok (.return_, 1) := by decide +kernel
theorem dX12_fails_8 : decode cX12_fails 8 = .ok (.aload_n 0, 1) := by decide +kernel
theorem dX12_fails_9 : decode cX12_fails 9 = .ok (.aload_n 0, 1) := by decide +kernel
theorem dX12_fails_10 : decode cX12_fails 10 = .ok (.getfield 139, 3) := by decide +kernel
theorem dX12_fails_13 : decode cX12_fails 13 = .ok (.bipush 22, 2) := by decide +kernel
theorem dX12_fails_15 : decode cX12_fails 15 = .ok (.if_icmp .ne 7, 3) := by decide +kernel
theorem dX12_fails_18 : decode cX12_fails 18 = .ok (.iconst 1, 1) := by decide +kernel
theorem dX12_fails_19 : decode cX12_fails 19 = .ok (.goto 4, 3) := by decide +kernel
theorem dX12_fails_22 : decode cX12_fails 22 = .ok (.iload_n 1, 1) := by decide +kernel
theorem dX12_fails_23 : decode cX12_fails 23 = .ok (.putfield 157, 3) := by decide +kernel
theorem dX12_fails_26 : decode cX12_fails 26 = .ok (.aload_n 0, 1) := by decide +kernel
theorem dX12_fails_27 : decode cX12_fails 27 = .ok (.aload_n 0, 1) := by decide +kernel
theorem dX12_fails_28 : decode cX12_fails 28 = .ok (.getfield 129, 3) := by decide +kernel
theorem dX12_fails_31 : decode cX12_fails 31 = .ok (.putfield 160, 3) := by decide +kernel
theorem dX12_fails_34 : decode cX12_fails 34 = .ok (.return_, 1) := by decide +kernel
theorem bX12_fails_0 {d : Nat} {P : q_Mem → Prop} {M : q_Mem} (x1 : Int) (h : (((M 178 13) = 0) → ((¬ (M 178 11) = (22 : Int)) → (∀ M1 : q_Mem, M1 = q_up M 178 13 x1 → (∀ M2 : q_Mem, M2 = q_up M1 178 14 (M1 178 8) → P M2))) ∧ (((M 178 11) = (22 : Int)) → (∀ M3 : q_Mem, M3 = q_up M 178 13 1 → (∀ M4 : q_Mem, M4 = q_up M3 178 14 (M3 178 8) → P M4)))) ∧ ((¬ ((M 178 13) = 0)) → P M)) : q_v mX12_fails d (qPU P) M 0 [some (qR 178), some (qI x1)] [] := by
  refine qr_aload_n 0 1 rfl (x := 178) rfl dX12_fails_0 ?_
  refine qg_i 1 4 rfl ck12 13 (kk := 13) (by decide) (by decide +kernel) (by decide +kernel) rfl wm_1339 rfl dX12_fails_1 ?_
  refine qr_if_eq 4 7 8 rfl (by decide) dX12_fails_4 (fun c4 => ?_) (fun c4 => ?_)
  · have h := h.1 c4
    refine qr_aload_n 8 9 rfl (x := 178) rfl dX12_fails_8 ?_
    refine qr_aload_n 9 10 rfl (x := 178) rfl dX12_fails_9 ?_
    refine qg_i 10 13 rfl ck12 11 (kk := 11) (by decide) (by decide +kernel) (by decide +kernel) rfl wm_1337 rfl dX12_fails_10 ?_
    refine qr_bipush 13 15 rfl (q_l32 _ rfl) (by decide) dX12_fails_13 ?_
    refine qr_icmp_ne 15 18 22 rfl (by decide) dX12_fails_15 (fun c15 => ?_) (fun c15 => ?_)
    · have h := h.1 c15
      refine qr_iload_n 22 23 rfl (x := x1) rfl dX12_fails_22 ?_
      refine qp_i 23 26 rfl ck12 13 (kk := 13) (by decide) (by decide +kernel) (by decide) rfl rfl wm_1339 rfl dX12_fails_23 (fun M1 e_M1 => ?_)
      have h := h M1 e_M1
      refine qr_aload_n 26 27 rfl (x := 178) rfl dX12_fails_26 ?_
      refine qr_aload_n 27 28 rfl (x := 178) rfl dX12_fails_27 ?_
      refine qg_i 28 31 rfl ck12 8 (kk := 8) (by decide) (by decide +kernel) (by decide +kernel) rfl wm_1334 rfl dX12_fails_28 ?_
      refine qp_i 31 34 rfl ck12 14 (kk := 14) (by decide) (by decide +kernel) (by decide) rfl rfl wm_1340 rfl dX12_fails_31 (fun M2 e_M2 => ?_)
      have h := h M2 e_M2
      exact qe_u 34 rfl dX12_fails_34 h
    · have h := h.2 c15
      refine qr_iconst 18 19 rfl (q_l32 _ rfl) dX12_fails_18 ?_
      refine qr_goto 19 23 (by decide) dX12_fails_19 ?_
      refine qp_i 23 26 rfl ck12 13 (kk := 13) (by decide) (by decide +kernel) (by decide) rfl rfl wm_1339 rfl dX12_fails_23 (fun M3 e_M3 => ?_)
      have h := h M3 e_M3
      refine qr_aload_n 26 27 rfl (x := 178) rfl dX12_fails_26 ?_
      refine qr_aload_n 27 28 rfl (x := 178) rfl dX12_fails_27 ?_
      refine qg_i 28 31 rfl ck12 8 (kk := 8) (by decide) (by decide +kernel) (by decide +kernel) rfl wm_1334 rfl dX12_fails_28 ?_
      refine qp_i 31 34 rfl ck12 14 (kk := 14) (by decide) (by decide +kernel) (by decide) rfl rfl wm_1340 rfl dX12_fails_31 (fun M4 e_M4 => ?_)
      have h := h M4 e_M4
      exact qe_u 34 rfl dX12_fails_34 h
  · have h := h.2 c4
    exact qe_u 7 rfl dX12_fails_7 h
theorem dX12_is_0 : decode cX12_is 0 = .ok (.aload_n 0, 1) := by decide +kernel
theorem dX12_is_1 : decode cX12_is 1 = .ok (.getfield 157, 3) := by decide +kernel
theorem dX12_is_4 : decode cX12_is 4 = .ok (.ifCond .ne 15, 3) := by decide +kernel
theorem dX12_is_7 : decode cX12_is 7 = .ok (.aload_n 0, 1) := by decide +kernel
theorem dX12_is_8 : decode cX12_is 8 = .ok (.getfield 139, 3) := by decide +kernel
theorem dX12_is_11 : decode cX12_is 11 = .ok (.iload_n 1, 1) := by decide +kernel
theorem dX12_is_12 : decode cX12_is 12 = .ok (.if_icmp .ne 7, 3) := by decide +kernel
theorem dX12_is_15 : decode cX12_is 15 = .ok (.iconst 1, 1) := by decide +kernel
theorem dX12_is_16 : decode cX12_is 16 = .ok (.goto 4, 3) := by decide +kernel
theorem dX12_is_19 : decode cX12_is 19 = .ok (.iconst 0, 1) := by decide +kernel
theorem dX12_is_20 : decode cX12_is 20 = .ok (.ireturn, 1) := by decide +kernel
theorem bX12_is_0 {d : Nat} {P : Int → q_Mem → Prop} {M : q_Mem} (x1 : Int) (h : ((¬ (M 178 13) = 0) → P 0 M) ∧ (((M 178 13) = 0) → ((¬ (M 178 11) = x1) → P 0 M) ∧ (((M 178 11) = x1) → P 1 M))) : q_v mX12_is d (qPI P) M 0 [some (qR 178), some (qI x1)] [] := by
  refine qr_aload_n 0 1 rfl (x := 178) rfl dX12_is_0 ?_
  refine qg_i 1 4 rfl ck12 13 (kk := 13) (by decide) (by decide +kernel) (by decide +kernel) rfl wm_1339 rfl dX12_is_1 ?_
  refine qr_if_ne 4 7 19 rfl (by decide) dX12_is_4 (fun c4 => ?_) (fun c4 => ?_)
  · have h := h.1 c4
    refine qr_iconst 19 20 rfl (q_l32 _ rfl) dX12_is_19 ?_
    exact qe_z 20 rfl (by decide) dX12_is_20 h
  · have h := h.2 c4
    refine qr_aload_n 7 8 rfl (x := 178) rfl dX12_is_7 ?_
    refine qg_i 8 11 rfl ck12 11 (kk := 11) (by decide) (by decide +kernel) (by decide +kernel) rfl wm_1337 rfl dX12_is_8 ?_
    refine qr_iload_n 11 12 rfl (x := x1) rfl dX12_is_11 ?_
    refine qr_icmp_ne 12 15 19 rfl (by decide) dX12_is_12 (fun c12 => ?_) (fun c12 => ?_)
    · have h := h.1 c12
      refine qr_iconst 19 20 rfl (q_l32 _ rfl) dX12_is_19 ?_
      exact qe_z 20 rfl (by decide) dX12_is_20 h
    · have h := h.2 c12
      refine qr_iconst 15 16 rfl (q_l32 _ rfl) dX12_is_15 ?_
      refine qr_goto 16 20 (by decide) dX12_is_16 ?_
      exact qe_z 20 rfl (by decide) dX12_is_20 h
theorem dX12_eats_0 : decode cX12_eats 0 = .ok (.aload_n 0, 1) := by decide +kernel
theorem dX12_eats_1 : decode cX12_eats 1 = .ok (.iload_n 1, 1) := by decide +kernel
theorem dX12_eats_2 : decode cX12_eats 2 = .ok (.invokevirtual 163, 3) := by decide +kernel
theorem dX12_eats_5 : decode cX12_eats 5 = .ok (.ifCond .ne 5, 3) := by decide +kernel
theorem dX12_eats_8 : decode cX12_eats 8 = .ok (.iconst 0, 1) := by decide +kernel
theorem dX12_eats_9 : decode cX12_eats 9 = .ok (.ireturn, 1) := by decide +kernel
theorem dX12_eats_10 : decode cX12_eats 10 = .ok (.aload_n 0, 1) := by decide +kernel
theorem dX12_eats_11 : decode cX12_eats 11 = .ok (.invokevirtual 166, 3) := by decide +kernel
theorem dX12_eats_14 : decode cX12_eats 14 = .ok (.iconst 1, 1) := by decide +kernel
theorem dX12_eats_15 : decode cX12_eats 15 = .ok (.ireturn, 1) := by decide +kernel
theorem bX12_eats_0 {d : Nat} {P : Int → q_Mem → Prop} {M : q_Mem} (x1 : Int) (h : q_kI yX12_is mX12_is d [qR 178, qI x1] M (fun v2 M1 => ((¬ v2 = 0) → q_kU yX12_goes mX12_goes d [qR 178] M1 (fun M3 => P 1 M3)) ∧ ((v2 = 0) → P 0 M1))) : q_v mX12_eats d (qPI P) M 0 [some (qR 178), some (qI x1)] [] := by
  refine qr_aload_n 0 1 rfl (x := 178) rfl dX12_eats_0 ?_
  refine qr_iload_n 1 2 rfl (x := x1) rfl dX12_eats_1 ?_
  refine qw_I 2 5 rfl (av := [qI x1]) ca_X12_is wm_1515 wp_80 wm_1513 ck12 (by decide +kernel) rfl rfl (Nat.le_of_ble_eq_true rfl) dX12_eats_2 h (fun v2 M1 h => ?_)
  refine qr_if_ne 5 8 10 rfl (by decide) dX12_eats_5 (fun c5 => ?_) (fun c5 => ?_)
  · have h := h.1 c5
    refine qr_aload_n 10 11 rfl (x := 178) rfl dX12_eats_10 ?_
    refine qw_U 11 14 rfl (av := []) ca_X12_goes wm_1485 wp_75 wm_1483 ck12 (by decide +kernel) rfl rfl (Nat.le_of_ble_eq_true rfl) dX12_eats_11 h (fun M3 h => ?_)
    refine qr_iconst 14 15 rfl (q_l32 _ rfl) dX12_eats_14 ?_
    exact qe_z 15 rfl (by decide) dX12_eats_15 h
  · have h := h.2 c5
    refine qr_iconst 8 9 rfl (q_l32 _ rfl) dX12_eats_8 ?_
    exact qe_z 9 rfl (by decide) dX12_eats_9 h
theorem dX12_wants_0 : decode cX12_wants 0 = .ok (.aload_n 0, 1) := by decide +kernel
theorem dX12_wants_1 : decode cX12_wants 1 = .ok (.iload_n 1, 1) := by decide +kernel
theorem dX12_wants_2 : decode cX12_wants 2 = .ok (.invokevirtual 169, 3) := by decide +kernel
theorem dX12_wants_5 : decode cX12_wants 5 = .ok (.ifCond .ne 8, 3) := by decide +kernel
theorem dX12_wants_8 : decode cX12_wants 8 = .ok (.aload_n 0, 1) := by decide +kernel
theorem dX12_wants_9 : decode cX12_wants 9 = .ok (.iconst 2, 1) := by decide +kernel
theorem dX12_wants_10 : decode cX12_wants 10 = .ok (.invokevirtual 172, 3) := by decide +kernel
theorem dX12_wants_13 : decode cX12_wants 13 = .ok (.return_, 1) := by decide +kernel
theorem bX12_wants_0 {d : Nat} {P : q_Mem → Prop} {M : q_Mem} (x1 : Int) (h : q_kI yX12_eats mX12_eats d [qR 178, qI x1] M (fun v2 M1 => ((¬ v2 = 0) → P M1) ∧ ((v2 = 0) → q_kU yX12_fails mX12_fails d [qR 178, qI 2] M1 (fun M3 => P M3)))) : q_v mX12_wants d (qPU P) M 0 [some (qR 178), some (qI x1)] [] := by
  refine qr_aload_n 0 1 rfl (x := 178) rfl dX12_wants_0 ?_
  refine qr_iload_n 1 2 rfl (x := x1) rfl dX12_wants_1 ?_
  refine qw_I 2 5 rfl (av := [qI x1]) ca_X12_eats wm_1511 wp_79 wm_1509 ck12 (by decide +kernel) rfl rfl (Nat.le_of_ble_eq_true rfl) dX12_wants_2 h (fun v2 M1 h => ?_)
  refine qr_if_ne 5 8 13 rfl (by decide) dX12_wants_5 (fun c5 => ?_) (fun c5 => ?_)
  · have h := h.1 c5
    exact qe_u 13 rfl dX12_wants_13 h
  · have h := h.2 c5
    refine qr_aload_n 8 9 rfl (x := 178) rfl dX12_wants_8 ?_
    refine qr_iconst 9 10 rfl (q_l32 _ rfl) dX12_wants_9 ?_
    refine qw_U 10 13 rfl (av := [qI 2]) ca_X12_fails wm_1519 wp_81 wm_1517 ck12 (by decide +kernel) rfl rfl (Nat.le_of_ble_eq_true rfl) dX12_wants_10 h (fun M3 h => ?_)
    exact qe_u 13 rfl dX12_wants_13 h
theorem dX12_takes_0 : decode cX12_takes 0 = .ok (.aload_n 0, 1) := by decide +kernel
theorem dX12_takes_1 : decode cX12_takes 1 = .ok (.bipush 20, 2) := by decide +kernel
theorem dX12_takes_3 : decode cX12_takes 3 = .ok (.invokevirtual 163, 3) := by decide +kernel
theorem dX12_takes_6 : decode cX12_takes 6 = .ok (.ifCond .ne 11, 3) := by decide +kernel
theorem dX12_takes_9 : decode cX12_takes 9 = .ok (.aload_n 0, 1) := by decide +kernel
theorem dX12_takes_10 : decode cX12_takes 10 = .ok (.iconst 2, 1) := by decide +kernel
theorem dX12_takes_11 : decode cX12_takes 11 = .ok (.invokevirtual 172, 3) := by decide +kernel
theorem dX12_takes_14 : decode cX12_takes 14 = .ok (.goto 23, 3) := by decide +kernel
theorem dX12_takes_17 : decode cX12_takes 17 = .ok (.aload_n 0, 1) := by decide +kernel
theorem dX12_takes_18 : decode cX12_takes 18 = .ok (.getfield 152, 3) := by decide +kernel
theorem dX12_takes_21 : decode cX12_takes 21 = .ok (.i2l, 1) := by decide +kernel
theorem dX12_takes_22 : decode cX12_takes 22 = .ok (.iload_n 1, 1) := by decide +kernel
theorem dX12_takes_23 : decode cX12_takes 23 = .ok (.i2l, 1) := by decide +kernel
theorem dX12_takes_24 : decode cX12_takes 24 = .ok (.iload_n 2, 1) := by decide +kernel
theorem dX12_takes_25 : decode cX12_takes 25 = .ok (.i2l, 1) := by decide +kernel
theorem dX12_takes_26 : decode cX12_takes 26 = .ok (.invokestatic 176, 3) := by decide +kernel
theorem dX12_takes_29 : decode cX12_takes 29 = .ok (.ifCond .ne 8, 3) := by decide +kernel
theorem dX12_takes_32 : decode cX12_takes 32 = .ok (.aload_n 0, 1) := by decide +kernel
theorem dX12_takes_33 : decode cX12_takes 33 = .ok (.iconst 3, 1) := by decide +kernel
theorem dX12_takes_34 : decode cX12_takes 34 = .ok (.invokevirtual 172, 3) := by decide +kernel
theorem dX12_takes_37 : decode cX12_takes 37 = .ok (.aload_n 0, 1) := by decide +kernel
theorem dX12_takes_38 : decode cX12_takes 38 = .ok (.getfield 152, 3) := by decide +kernel
theorem dX12_takes_41 : decode cX12_takes 41 = .ok (.istore_n 3, 1) := by decide +kernel
theorem dX12_takes_42 : decode cX12_takes 42 = .ok (.aload_n 0, 1) := by decide +kernel
theorem dX12_takes_43 : decode cX12_takes 43 = .ok (.getfield 157, 3) := by decide +kernel
theorem dX12_takes_46 : decode cX12_takes 46 = .ok (.ifCond .ne 7, 3) := by decide +kernel
theorem dX12_takes_49 : decode cX12_takes 49 = .ok (.aload_n 0, 1) := by decide +kernel
theorem dX12_takes_50 : decode cX12_takes 50 = .ok (.invokevirtual 166, 3) := by decide +kernel
theorem dX12_takes_53 : decode cX12_takes 53 = .ok (.iload_n 3, 1) := by decide +kernel
theorem dX12_takes_54 : decode cX12_takes 54 = .ok (.ireturn, 1) := by decide +kernel
theorem bX12_takes_0 {d : Nat} {P : Int → q_Mem → Prop} {M : q_Mem} (x1 x2 : Int) (h : q_kI yX12_is mX12_is d [qR 178, qI 20] M (fun v2 M1 => ((¬ v2 = 0) → q_kI yX12_within mX12_within d [qL (M1 178 12), qL x1, qL x2] M1 (fun v4 M3 => ((¬ v4 = 0) → q_v mX12_takes d (qPI P) M3 37 [some (qR 178), none, none, none] []) ∧ ((v4 = 0) → q_kU yX12_fails mX12_fails d [qR 178, qI 3] M3 (fun M5 => q_v mX12_takes d (qPI P) M5 37 [some (qR 178), none, none, none] [])))) ∧ ((v2 = 0) → q_kU yX12_fails mX12_fails d [qR 178, qI 2] M1 (fun M6 => q_v mX12_takes d (qPI P) M6 37 [some (qR 178), none, none, none] [])))) : q_v mX12_takes d (qPI P) M 0 [some (qR 178), some (qI x1), some (qI x2), none] [] := by
  refine qr_aload_n 0 1 rfl (x := 178) rfl dX12_takes_0 ?_
  refine qr_bipush 1 3 rfl (q_l32 _ rfl) (by decide) dX12_takes_1 ?_
  refine qw_I 3 6 rfl (av := [qI 20]) ca_X12_is wm_1515 wp_80 wm_1513 ck12 (by decide +kernel) rfl rfl (Nat.le_of_ble_eq_true rfl) dX12_takes_3 h (fun v2 M1 h => ?_)
  refine qr_if_ne 6 9 17 rfl (by decide) dX12_takes_6 (fun c6 => ?_) (fun c6 => ?_)
  · have h := h.1 c6
    refine qr_aload_n 17 18 rfl (x := 178) rfl dX12_takes_17 ?_
    refine qg_i 18 21 rfl ck12 12 (kk := 12) (by decide) (by decide +kernel) (by decide +kernel) rfl wm_1338 rfl dX12_takes_18 ?_
    refine qr_i2l 21 22 rfl dX12_takes_21 ?_
    refine qr_iload_n 22 23 rfl (x := x1) rfl dX12_takes_22 ?_
    refine qr_i2l 23 24 rfl dX12_takes_23 ?_
    refine qr_iload_n 24 25 rfl (x := x2) rfl dX12_takes_24 ?_
    refine qr_i2l 25 26 rfl dX12_takes_25 ?_
    refine qs_I 26 29 rfl (av := [qL (M1 178 12), qL x1, qL x2]) ca_X12_within wm_1481 wm_1480 rfl rfl (Nat.le_of_ble_eq_true rfl) dX12_takes_26 h (fun v4 M3 h => ?_)
    refine qr_if_ne 29 32 37 rfl (by decide) dX12_takes_29 (fun c29 => ?_) (fun c29 => ?_)
    · have h := h.1 c29
      exact qr_cut 37 (ls' := [some (qR 178), none, none, none]) (And.intro rfl trivial) h
    · have h := h.2 c29
      refine qr_aload_n 32 33 rfl (x := 178) rfl dX12_takes_32 ?_
      refine qr_iconst 33 34 rfl (q_l32 _ rfl) dX12_takes_33 ?_
      refine qw_U 34 37 rfl (av := [qI 3]) ca_X12_fails wm_1519 wp_81 wm_1517 ck12 (by decide +kernel) rfl rfl (Nat.le_of_ble_eq_true rfl) dX12_takes_34 h (fun M5 h => ?_)
      exact qr_cut 37 (ls' := [some (qR 178), none, none, none]) (And.intro rfl trivial) h
  · have h := h.2 c6
    refine qr_aload_n 9 10 rfl (x := 178) rfl dX12_takes_9 ?_
    refine qr_iconst 10 11 rfl (q_l32 _ rfl) dX12_takes_10 ?_
    refine qw_U 11 14 rfl (av := [qI 2]) ca_X12_fails wm_1519 wp_81 wm_1517 ck12 (by decide +kernel) rfl rfl (Nat.le_of_ble_eq_true rfl) dX12_takes_11 h (fun M6 h => ?_)
    refine qr_goto 14 37 (by decide) dX12_takes_14 ?_
    exact qr_cut 37 (ls' := [some (qR 178), none, none, none]) (And.intro rfl trivial) h
theorem bX12_takes_37 {d : Nat} {P : Int → q_Mem → Prop} {M : q_Mem} (h : ∀ x3_1 : Int, x3_1 = (M 178 12) → ((¬ (M 178 13) = 0) → P x3_1 M) ∧ (((M 178 13) = 0) → q_kU yX12_goes mX12_goes d [qR 178] M (fun M2 => P x3_1 M2))) : q_v mX12_takes d (qPI P) M 37 [some (qR 178), none, none, none] [] := by
  refine qr_aload_n 37 38 rfl (x := 178) rfl dX12_takes_37 ?_
  refine qg_i 38 41 rfl ck12 12 (kk := 12) (by decide) (by decide +kernel) (by decide +kernel) rfl wm_1338 rfl dX12_takes_38 ?_
  refine qn_i 41 (fun x3_1 e_x3_1 => ?_)
  have h := h x3_1 e_x3_1
  refine qr_istore_n 41 42 rfl (by decide) rfl rfl dX12_takes_41 ?_
  refine qr_aload_n 42 43 rfl (x := 178) rfl dX12_takes_42 ?_
  refine qg_i 43 46 rfl ck12 13 (kk := 13) (by decide) (by decide +kernel) (by decide +kernel) rfl wm_1339 rfl dX12_takes_43 ?_
  refine qr_if_ne 46 49 53 rfl (by decide) dX12_takes_46 (fun c46 => ?_) (fun c46 => ?_)
  · have h := h.1 c46
    refine qr_iload_n 53 54 rfl (x := x3_1) rfl dX12_takes_53 ?_
    exact qe_i 54 rfl dX12_takes_54 h
  · have h := h.2 c46
    refine qr_aload_n 49 50 rfl (x := 178) rfl dX12_takes_49 ?_
    refine qw_U 50 53 rfl (av := []) ca_X12_goes wm_1485 wp_75 wm_1483 ck12 (by decide +kernel) rfl rfl (Nat.le_of_ble_eq_true rfl) dX12_takes_50 h (fun M2 h => ?_)
    refine qr_iload_n 53 54 rfl (x := x3_1) rfl dX12_takes_53 ?_
    exact qe_i 54 rfl dX12_takes_54 h
theorem dX12_wordOf_0 : decode cX12_wordOf 0 = .ok (.iload_n 0, 1) := by decide +kernel
theorem dX12_wordOf_1 : decode cX12_wordOf 1 = .ok (.tableswitch 85 1 15 #[83, 85, 81, 85, 85, 85, 85, 85, 85, 85, 85, 85, 75, 77, 79], 75) := by decide +kernel
theorem dX12_wordOf_76 : decode cX12_wordOf 76 = .ok (.iconst 0, 1) := by decide +kernel
theorem dX12_wordOf_77 : decode cX12_wordOf 77 = .ok (.ireturn, 1) := by decide +kernel
theorem dX12_wordOf_78 : decode cX12_wordOf 78 = .ok (.iconst 1, 1) := by decide +kernel
theorem dX12_wordOf_79 : decode cX12_wordOf 79 = .ok (.ireturn, 1) := by decide +kernel
theorem dX12_wordOf_80 : decode cX12_wordOf 80 = .ok (.iconst 2, 1) := by decide +kernel
theorem dX12_wordOf_81 : decode cX12_wordOf 81 = .ok (.ireturn, 1) := by decide +kernel
theorem dX12_wordOf_82 : decode cX12_wordOf 82 = .ok (.iconst 3, 1) := by decide +kernel
theorem dX12_wordOf_83 : decode cX12_wordOf 83 = .ok (.ireturn, 1) := by decide +kernel
theorem dX12_wordOf_84 : decode cX12_wordOf 84 = .ok (.iconst 4, 1) := by decide +kernel
theorem dX12_wordOf_85 : decode cX12_wordOf 85 = .ok (.ireturn, 1) := by decide +kernel
theorem dX12_wordOf_86 : decode cX12_wordOf 86 = .ok (.iconst (-1), 1) := by decide +kernel
theorem dX12_wordOf_87 : decode cX12_wordOf 87 = .ok (.ireturn, 1) := by decide +kernel
theorem txX12_wordOf_1 (x : Int) (h : ¬ (x < 1 ∨ 15 < x)) (h0 : ¬ x = 1) (h1 : ¬ x = 2) (h2 : ¬ x = 3) (h3 : ¬ x = 4) (h4 : ¬ x = 5) (h5 : ¬ x = 6) (h6 : ¬ x = 7) (h7 : ¬ x = 8) (h8 : ¬ x = 9) (h9 : ¬ x = 10) (h10 : ¬ x = 11) (h11 : ¬ x = 12) (h12 : ¬ x = 13) (h13 : ¬ x = 14) (h14 : ¬ x = 15) : False := by omega
theorem bX12_wordOf_0 {d : Nat} {P : Int → q_Mem → Prop} {M : q_Mem} (x0 : Int) (h : (((x0 < 1 ∨ 15 < x0) → P (-1) M) ∧ (((x0 = 1) → P 4 M) ∧ (((x0 = 2) → P (-1) M) ∧ (((x0 = 3) → P 3 M) ∧ (((x0 = 4) → P (-1) M) ∧ (((x0 = 5) → P (-1) M) ∧ (((x0 = 6) → P (-1) M) ∧ (((x0 = 7) → P (-1) M) ∧ (((x0 = 8) → P (-1) M) ∧ (((x0 = 9) → P (-1) M) ∧ (((x0 = 10) → P (-1) M) ∧ (((x0 = 11) → P (-1) M) ∧ (((x0 = 12) → P (-1) M) ∧ (((x0 = 13) → P 0 M) ∧ (((x0 = 14) → P 1 M) ∧ (((x0 = 15) → P 2 M)))))))))))))))))) : q_v mX12_wordOf d (qPI P) M 0 [some (qI x0)] [] := by
  refine qr_iload_n 0 1 rfl (x := x0) rfl dX12_wordOf_0 ?_
  by_cases c1 : x0 < 1 ∨ 15 < x0
  · have h := h.1 c1
    refine qr_tabOut 1 86 c1 (by decide) dX12_wordOf_1 ?_
    refine qr_iconst 86 87 rfl (q_l32 _ rfl) dX12_wordOf_86 ?_
    exact qe_i 87 rfl dX12_wordOf_87 h
  have h := h.2
  by_cases e1_0 : x0 = 1
  · have h := h.1 e1_0
    refine qr_tabIn 1 84 0 (e1_0.trans (by decide)) (by decide) rfl (by decide) dX12_wordOf_1 ?_
    refine qr_iconst 84 85 rfl (q_l32 _ rfl) dX12_wordOf_84 ?_
    exact qe_i 85 rfl dX12_wordOf_85 h
  have h := h.2
  by_cases e1_1 : x0 = 2
  · have h := h.1 e1_1
    refine qr_tabIn 1 86 1 (e1_1.trans (by decide)) (by decide) rfl (by decide) dX12_wordOf_1 ?_
    refine qr_iconst 86 87 rfl (q_l32 _ rfl) dX12_wordOf_86 ?_
    exact qe_i 87 rfl dX12_wordOf_87 h
  have h := h.2
  by_cases e1_2 : x0 = 3
  · have h := h.1 e1_2
    refine qr_tabIn 1 82 2 (e1_2.trans (by decide)) (by decide) rfl (by decide) dX12_wordOf_1 ?_
    refine qr_iconst 82 83 rfl (q_l32 _ rfl) dX12_wordOf_82 ?_
    exact qe_i 83 rfl dX12_wordOf_83 h
  have h := h.2
  by_cases e1_3 : x0 = 4
  · have h := h.1 e1_3
    refine qr_tabIn 1 86 3 (e1_3.trans (by decide)) (by decide) rfl (by decide) dX12_wordOf_1 ?_
    refine qr_iconst 86 87 rfl (q_l32 _ rfl) dX12_wordOf_86 ?_
    exact qe_i 87 rfl dX12_wordOf_87 h
  have h := h.2
  by_cases e1_4 : x0 = 5
  · have h := h.1 e1_4
    refine qr_tabIn 1 86 4 (e1_4.trans (by decide)) (by decide) rfl (by decide) dX12_wordOf_1 ?_
    refine qr_iconst 86 87 rfl (q_l32 _ rfl) dX12_wordOf_86 ?_
    exact qe_i 87 rfl dX12_wordOf_87 h
  have h := h.2
  by_cases e1_5 : x0 = 6
  · have h := h.1 e1_5
    refine qr_tabIn 1 86 5 (e1_5.trans (by decide)) (by decide) rfl (by decide) dX12_wordOf_1 ?_
    refine qr_iconst 86 87 rfl (q_l32 _ rfl) dX12_wordOf_86 ?_
    exact qe_i 87 rfl dX12_wordOf_87 h
  have h := h.2
  by_cases e1_6 : x0 = 7
  · have h := h.1 e1_6
    refine qr_tabIn 1 86 6 (e1_6.trans (by decide)) (by decide) rfl (by decide) dX12_wordOf_1 ?_
    refine qr_iconst 86 87 rfl (q_l32 _ rfl) dX12_wordOf_86 ?_
    exact qe_i 87 rfl dX12_wordOf_87 h
  have h := h.2
  by_cases e1_7 : x0 = 8
  · have h := h.1 e1_7
    refine qr_tabIn 1 86 7 (e1_7.trans (by decide)) (by decide) rfl (by decide) dX12_wordOf_1 ?_
    refine qr_iconst 86 87 rfl (q_l32 _ rfl) dX12_wordOf_86 ?_
    exact qe_i 87 rfl dX12_wordOf_87 h
  have h := h.2
  by_cases e1_8 : x0 = 9
  · have h := h.1 e1_8
    refine qr_tabIn 1 86 8 (e1_8.trans (by decide)) (by decide) rfl (by decide) dX12_wordOf_1 ?_
    refine qr_iconst 86 87 rfl (q_l32 _ rfl) dX12_wordOf_86 ?_
    exact qe_i 87 rfl dX12_wordOf_87 h
  have h := h.2
  by_cases e1_9 : x0 = 10
  · have h := h.1 e1_9
    refine qr_tabIn 1 86 9 (e1_9.trans (by decide)) (by decide) rfl (by decide) dX12_wordOf_1 ?_
    refine qr_iconst 86 87 rfl (q_l32 _ rfl) dX12_wordOf_86 ?_
    exact qe_i 87 rfl dX12_wordOf_87 h
  have h := h.2
  by_cases e1_10 : x0 = 11
  · have h := h.1 e1_10
    refine qr_tabIn 1 86 10 (e1_10.trans (by decide)) (by decide) rfl (by decide) dX12_wordOf_1 ?_
    refine qr_iconst 86 87 rfl (q_l32 _ rfl) dX12_wordOf_86 ?_
    exact qe_i 87 rfl dX12_wordOf_87 h
  have h := h.2
  by_cases e1_11 : x0 = 12
  · have h := h.1 e1_11
    refine qr_tabIn 1 86 11 (e1_11.trans (by decide)) (by decide) rfl (by decide) dX12_wordOf_1 ?_
    refine qr_iconst 86 87 rfl (q_l32 _ rfl) dX12_wordOf_86 ?_
    exact qe_i 87 rfl dX12_wordOf_87 h
  have h := h.2
  by_cases e1_12 : x0 = 13
  · have h := h.1 e1_12
    refine qr_tabIn 1 76 12 (e1_12.trans (by decide)) (by decide) rfl (by decide) dX12_wordOf_1 ?_
    refine qr_iconst 76 77 rfl (q_l32 _ rfl) dX12_wordOf_76 ?_
    exact qe_i 77 rfl dX12_wordOf_77 h
  have h := h.2
  by_cases e1_13 : x0 = 14
  · have h := h.1 e1_13
    refine qr_tabIn 1 78 13 (e1_13.trans (by decide)) (by decide) rfl (by decide) dX12_wordOf_1 ?_
    refine qr_iconst 78 79 rfl (q_l32 _ rfl) dX12_wordOf_78 ?_
    exact qe_i 79 rfl dX12_wordOf_79 h
  have h := h.2
  by_cases e1_14 : x0 = 15
  · have h := h e1_14
    refine qr_tabIn 1 80 14 (e1_14.trans (by decide)) (by decide) rfl (by decide) dX12_wordOf_1 ?_
    refine qr_iconst 80 81 rfl (q_l32 _ rfl) dX12_wordOf_80 ?_
    exact qe_i 81 rfl dX12_wordOf_81 h
  exact (txX12_wordOf_1 x0 c1 e1_0 e1_1 e1_2 e1_3 e1_4 e1_5 e1_6 e1_7 e1_8 e1_9 e1_10 e1_11 e1_12 e1_13 e1_14).elim
theorem dX12_codes_0 : decode cX12_codes 0 = .ok (.aload_n 0, 1) := by decide +kernel
theorem dX12_codes_1 : decode cX12_codes 1 = .ok (.getfield 157, 3) := by decide +kernel
theorem dX12_codes_4 : decode cX12_codes 4 = .ok (.ifCond .eq 4, 3) := by decide +kernel
theorem dX12_codes_7 : decode cX12_codes 7 = .ok (.return_, 1) := by decide +kernel
theorem dX12_codes_8 : decode cX12_codes 8 = .ok (.aload_n 0, 1) := by decide +kernel
theorem dX12_codes_9 : decode cX12_codes 9 = .ok (.getfield 24, 3) := by decide +kernel
theorem dX12_codes_12 : decode cX12_codes 12 = .ok (.sipush 604, 3) := by decide +kernel
theorem dX12_codes_15 : decode cX12_codes 15 = .ok (.aload_n 0, 1) := by decide +kernel
theorem dX12_codes_16 : decode cX12_codes 16 = .ok (.getfield 24, 3) := by decide +kernel
theorem dX12_codes_19 : decode cX12_codes 19 = .ok (.sipush 603, 3) := by decide +kernel
theorem dX12_codes_22 : decode cX12_codes 22 = .ok (.iaload, 1) := by decide +kernel
theorem dX12_codes_23 : decode cX12_codes 23 = .ok (.iadd, 1) := by decide +kernel
theorem dX12_codes_24 : decode cX12_codes 24 = .ok (.iload_n 1, 1) := by decide +kernel
theorem dX12_codes_25 : decode cX12_codes 25 = .ok (.iastore, 1) := by decide +kernel
theorem dX12_codes_26 : decode cX12_codes 26 = .ok (.aload_n 0, 1) := by decide +kernel
theorem dX12_codes_27 : decode cX12_codes 27 = .ok (.getfield 24, 3) := by decide +kernel
theorem dX12_codes_30 : decode cX12_codes 30 = .ok (.sipush 603, 3) := by decide +kernel
theorem dX12_codes_33 : decode cX12_codes 33 = .ok (.dup2, 1) := by decide +kernel
theorem dX12_codes_34 : decode cX12_codes 34 = .ok (.iaload, 1) := by decide +kernel
theorem dX12_codes_35 : decode cX12_codes 35 = .ok (.iconst 1, 1) := by decide +kernel
theorem dX12_codes_36 : decode cX12_codes 36 = .ok (.iadd, 1) := by decide +kernel
theorem dX12_codes_37 : decode cX12_codes 37 = .ok (.iastore, 1) := by decide +kernel
theorem dX12_codes_38 : decode cX12_codes 38 = .ok (.return_, 1) := by decide +kernel
theorem bX12_codes_0 {d : Nat} {P : q_Mem → Prop} {M : q_Mem} (x1 : Int) (h : (((M 178 13) = 0) → ((0 ≤ (q_add 604 (M 182 603)) ∧ (q_add 604 (M 182 603)) < (1504 : Int)) ∧ (∀ M2 : q_Mem, M2 = q_up M 182 (q_add 604 (M 182 603)) x1 → ((∀ M3 : q_Mem, M3 = q_up M2 182 603 (q_add (M2 182 603) 1) → P M3))))) ∧ ((¬ ((M 178 13) = 0)) → P M)) : q_v mX12_codes d (qPU P) M 0 [some (qR 178), some (qI x1)] [] := by
  refine qr_aload_n 0 1 rfl (x := 178) rfl dX12_codes_0 ?_
  refine qg_i 1 4 rfl ck12 13 (kk := 13) (by decide) (by decide +kernel) (by decide +kernel) rfl wm_1339 rfl dX12_codes_1 ?_
  refine qr_if_eq 4 7 8 rfl (by decide) dX12_codes_4 (fun c4 => ?_) (fun c4 => ?_)
  · have h := h.1 c4
    refine qr_aload_n 8 9 rfl (x := 178) rfl dX12_codes_8 ?_
    refine qr_getF 9 12 rfl ck12 4 (by decide) (b := 182) (by decide +kernel) rfl (by decide +kernel) (by decide +kernel) wm_1330 rfl dX12_codes_9 ?_
    refine qr_sipush 12 15 rfl (q_l32 _ rfl) (by decide) dX12_codes_12 ?_
    refine qr_aload_n 15 16 rfl (x := 178) rfl dX12_codes_15 ?_
    refine qr_getF 16 19 rfl ck12 4 (by decide) (b := 182) (by decide +kernel) rfl (by decide +kernel) (by decide +kernel) wm_1330 rfl dX12_codes_16 ?_
    refine qr_sipush 19 22 rfl (q_l32 _ rfl) (by decide) dX12_codes_19 ?_
    refine qi_ld 22 23 rfl (N := 1504) (by decide +kernel) (by decide +kernel) (by decide) (by decide) dX12_codes_22 ?_
    refine qr_iadd 23 24 rfl dX12_codes_23 ?_
    refine qr_iload_n 24 25 rfl (x := x1) rfl dX12_codes_24 ?_
    have hb1 := h.1
    have h := h.2
    refine qi_st 25 26 rfl (N := 1504) (by decide +kernel) (by decide +kernel) hb1.1 hb1.2 dX12_codes_25 (fun M2 e_M2 => ?_)
    have h := h M2 e_M2
    refine qr_aload_n 26 27 rfl (x := 178) rfl dX12_codes_26 ?_
    refine qr_getF 27 30 rfl ck12 4 (by decide) (b := 182) (by decide +kernel) rfl (by decide +kernel) (by decide +kernel) wm_1330 rfl dX12_codes_27 ?_
    refine qr_sipush 30 33 rfl (q_l32 _ rfl) (by decide) dX12_codes_30 ?_
    refine qr_dup2 33 34 rfl rfl rfl dX12_codes_33 ?_
    refine qi_ld 34 35 rfl (N := 1504) (by decide +kernel) (by decide +kernel) (by decide) (by decide) dX12_codes_34 ?_
    refine qr_iconst 35 36 rfl (q_l32 _ rfl) dX12_codes_35 ?_
    refine qr_iadd 36 37 rfl dX12_codes_36 ?_
    refine qi_st 37 38 rfl (N := 1504) (by decide +kernel) (by decide +kernel) (by decide) (by decide) dX12_codes_37 (fun M3 e_M3 => ?_)
    have h := h M3 e_M3
    exact qe_u 38 rfl dX12_codes_38 h
  · have h := h.2 c4
    exact qe_u 7 rfl dX12_codes_7 h
theorem dX12_goesIn_0 : decode cX12_goesIn 0 = .ok (.iload_n 1, 1) := by decide +kernel
theorem dX12_goesIn_1 : decode cX12_goesIn 1 = .ok (.bipush 6, 2) := by decide +kernel
theorem dX12_goesIn_3 : decode cX12_goesIn 3 = .ok (.if_icmp .ne 8, 3) := by decide +kernel
theorem dX12_goesIn_6 : decode cX12_goesIn 6 = .ok (.aload_n 0, 1) := by decide +kernel
theorem dX12_goesIn_7 : decode cX12_goesIn 7 = .ok (.iconst 4, 1) := by decide +kernel
theorem dX12_goesIn_8 : decode cX12_goesIn 8 = .ok (.invokevirtual 172, 3) := by decide +kernel
theorem dX12_goesIn_11 : decode cX12_goesIn 11 = .ok (.aload_n 0, 1) := by decide +kernel
theorem dX12_goesIn_12 : decode cX12_goesIn 12 = .ok (.getfield 157, 3) := by decide +kernel
theorem dX12_goesIn_15 : decode cX12_goesIn 15 = .ok (.ifCond .ne 7, 3) := by decide +kernel
theorem dX12_goesIn_18 : decode cX12_goesIn 18 = .ok (.aload_n 0, 1) := by decide +kernel
theorem dX12_goesIn_19 : decode cX12_goesIn 19 = .ok (.invokevirtual 166, 3) := by decide +kernel
theorem dX12_goesIn_22 : decode cX12_goesIn 22 = .ok (.aload_n 0, 1) := by decide +kernel
theorem dX12_goesIn_23 : decode cX12_goesIn 23 = .ok (.getfield 157, 3) := by decide +kernel
theorem dX12_goesIn_26 : decode cX12_goesIn 26 = .ok (.ifCond .ne 7, 3) := by decide +kernel
theorem dX12_goesIn_29 : decode cX12_goesIn 29 = .ok (.iconst 1, 1) := by decide +kernel
theorem dX12_goesIn_30 : decode cX12_goesIn 30 = .ok (.goto 4, 3) := by decide +kernel
theorem dX12_goesIn_33 : decode cX12_goesIn 33 = .ok (.iconst 0, 1) := by decide +kernel
theorem dX12_goesIn_34 : decode cX12_goesIn 34 = .ok (.ireturn, 1) := by decide +kernel
theorem bX12_goesIn_0 {d : Nat} {P : Int → q_Mem → Prop} {M : q_Mem} (x1 : Int) (h : ((¬ x1 = (6 : Int)) → q_v mX12_goesIn d (qPI P) M 11 [some (qR 178), none] []) ∧ ((x1 = (6 : Int)) → q_kU yX12_fails mX12_fails d [qR 178, qI 4] M (fun M1 => q_v mX12_goesIn d (qPI P) M1 11 [some (qR 178), none] []))) : q_v mX12_goesIn d (qPI P) M 0 [some (qR 178), some (qI x1)] [] := by
  refine qr_iload_n 0 1 rfl (x := x1) rfl dX12_goesIn_0 ?_
  refine qr_bipush 1 3 rfl (q_l32 _ rfl) (by decide) dX12_goesIn_1 ?_
  refine qr_icmp_ne 3 6 11 rfl (by decide) dX12_goesIn_3 (fun c3 => ?_) (fun c3 => ?_)
  · have h := h.1 c3
    exact qr_cut 11 (ls' := [some (qR 178), none]) (And.intro rfl trivial) h
  · have h := h.2 c3
    refine qr_aload_n 6 7 rfl (x := 178) rfl dX12_goesIn_6 ?_
    refine qr_iconst 7 8 rfl (q_l32 _ rfl) dX12_goesIn_7 ?_
    refine qw_U 8 11 rfl (av := [qI 4]) ca_X12_fails wm_1519 wp_81 wm_1517 ck12 (by decide +kernel) rfl rfl (Nat.le_of_ble_eq_true rfl) dX12_goesIn_8 h (fun M1 h => ?_)
    exact qr_cut 11 (ls' := [some (qR 178), none]) (And.intro rfl trivial) h
theorem bX12_goesIn_11 {d : Nat} {P : Int → q_Mem → Prop} {M : q_Mem} (h : ((¬ (M 178 13) = 0) → ((¬ (M 178 13) = 0) → P 0 M) ∧ (((M 178 13) = 0) → P 1 M)) ∧ (((M 178 13) = 0) → q_kU yX12_goes mX12_goes d [qR 178] M (fun M1 => ((¬ (M1 178 13) = 0) → P 0 M1) ∧ (((M1 178 13) = 0) → P 1 M1)))) : q_v mX12_goesIn d (qPI P) M 11 [some (qR 178), none] [] := by
  refine qr_aload_n 11 12 rfl (x := 178) rfl dX12_goesIn_11 ?_
  refine qg_i 12 15 rfl ck12 13 (kk := 13) (by decide) (by decide +kernel) (by decide +kernel) rfl wm_1339 rfl dX12_goesIn_12 ?_
  refine qr_if_ne 15 18 22 rfl (by decide) dX12_goesIn_15 (fun c15 => ?_) (fun c15 => ?_)
  · have h := h.1 c15
    refine qr_aload_n 22 23 rfl (x := 178) rfl dX12_goesIn_22 ?_
    refine qg_i 23 26 rfl ck12 13 (kk := 13) (by decide) (by decide +kernel) (by decide +kernel) rfl wm_1339 rfl dX12_goesIn_23 ?_
    refine qr_if_ne 26 29 33 rfl (by decide) dX12_goesIn_26 (fun c26 => ?_) (fun c26 => ?_)
    · have h := h.1 c26
      refine qr_iconst 33 34 rfl (q_l32 _ rfl) dX12_goesIn_33 ?_
      exact qe_z 34 rfl (by decide) dX12_goesIn_34 h
    · have h := h.2 c26
      refine qr_iconst 29 30 rfl (q_l32 _ rfl) dX12_goesIn_29 ?_
      refine qr_goto 30 34 (by decide) dX12_goesIn_30 ?_
      exact qe_z 34 rfl (by decide) dX12_goesIn_34 h
  · have h := h.2 c15
    refine qr_aload_n 18 19 rfl (x := 178) rfl dX12_goesIn_18 ?_
    refine qw_U 19 22 rfl (av := []) ca_X12_goes wm_1485 wp_75 wm_1483 ck12 (by decide +kernel) rfl rfl (Nat.le_of_ble_eq_true rfl) dX12_goesIn_19 h (fun M1 h => ?_)
    refine qr_aload_n 22 23 rfl (x := 178) rfl dX12_goesIn_22 ?_
    refine qg_i 23 26 rfl ck12 13 (kk := 13) (by decide) (by decide +kernel) (by decide +kernel) rfl wm_1339 rfl dX12_goesIn_23 ?_
    refine qr_if_ne 26 29 33 rfl (by decide) dX12_goesIn_26 (fun c26 => ?_) (fun c26 => ?_)
    · have h := h.1 c26
      refine qr_iconst 33 34 rfl (q_l32 _ rfl) dX12_goesIn_33 ?_
      exact qe_z 34 rfl (by decide) dX12_goesIn_34 h
    · have h := h.2 c26
      refine qr_iconst 29 30 rfl (q_l32 _ rfl) dX12_goesIn_29 ?_
      refine qr_goto 30 34 (by decide) dX12_goesIn_30 ?_
      exact qe_z 34 rfl (by decide) dX12_goesIn_34 h
theorem dX12_readAtom_0 : decode cX12_readAtom 0 = .ok (.aload_n 0, 1) := by decide +kernel
theorem dX12_readAtom_1 : decode cX12_readAtom 1 = .ok (.bipush 20, 2) := by decide +kernel
theorem dX12_readAtom_3 : decode cX12_readAtom 3 = .ok (.invokevirtual 163, 3) := by decide +kernel
theorem dX12_readAtom_6 : decode cX12_readAtom 6 = .ok (.ifCond .eq 18, 3) := by decide +kernel
theorem dX12_readAtom_9 : decode cX12_readAtom 9 = .ok (.aload_n 0, 1) := by decide +kernel
theorem dX12_readAtom_10 : decode cX12_readAtom 10 = .ok (.aload_n 0, 1) := by decide +kernel
theorem dX12_readAtom_11 : decode cX12_readAtom 11 = .ok (.getfield 152, 3) := by decide +kernel
theorem dX12_readAtom_14 : decode cX12_readAtom 14 = .ok (.invokevirtual 180, 3) := by decide +kernel
theorem dX12_readAtom_17 : decode cX12_readAtom 17 = .ok (.aload_n 0, 1) := by decide +kernel
theorem dX12_readAtom_18 : decode cX12_readAtom 18 = .ok (.invokevirtual 166, 3) := by decide +kernel
theorem dX12_readAtom_21 : decode cX12_readAtom 21 = .ok (.goto 99, 3) := by decide +kernel
theorem dX12_readAtom_24 : decode cX12_readAtom 24 = .ok (.aload_n 0, 1) := by decide +kernel
theorem dX12_readAtom_25 : decode cX12_readAtom 25 = .ok (.getfield 157, 3) := by decide +kernel
theorem dX12_readAtom_28 : decode cX12_readAtom 28 = .ok (.ifCond .ne 36, 3) := by decide +kernel
theorem dX12_readAtom_31 : decode cX12_readAtom 31 = .ok (.aload_n 0, 1) := by decide +kernel
theorem dX12_readAtom_32 : decode cX12_readAtom 32 = .ok (.getfield 139, 3) := by decide +kernel
theorem dX12_readAtom_35 : decode cX12_readAtom 35 = .ok (.invokestatic 183, 3) := by decide +kernel
theorem dX12_readAtom_38 : decode cX12_readAtom 38 = .ok (.iconst (-1), 1) := by decide +kernel
theorem dX12_readAtom_39 : decode cX12_readAtom 39 = .ok (.if_icmp .eq 25, 3) := by decide +kernel
theorem dX12_readAtom_42 : decode cX12_readAtom 42 = .ok (.aload_n 0, 1) := by decide +kernel
theorem dX12_readAtom_43 : decode cX12_readAtom 43 = .ok (.sipush 1000, 3) := by decide +kernel
theorem dX12_readAtom_46 : decode cX12_readAtom 46 = .ok (.aload_n 0, 1) := by decide +kernel
theorem dX12_readAtom_47 : decode cX12_readAtom 47 = .ok (.getfield 139, 3) := by decide +kernel
theorem dX12_readAtom_50 : decode cX12_readAtom 50 = .ok (.invokestatic 183, 3) := by decide +kernel
theorem dX12_readAtom_53 : decode cX12_readAtom 53 = .ok (.iadd, 1) := by decide +kernel
theorem dX12_readAtom_54 : decode cX12_readAtom 54 = .ok (.invokevirtual 180, 3) := by decide +kernel
theorem dX12_readAtom_57 : decode cX12_readAtom 57 = .ok (.aload_n 0, 1) := by decide +kernel
theorem dX12_readAtom_58 : decode cX12_readAtom 58 = .ok (.invokevirtual 166, 3) := by decide +kernel
theorem dX12_readAtom_61 : decode cX12_readAtom 61 = .ok (.goto 59, 3) := by decide +kernel
theorem dX12_readAtom_64 : decode cX12_readAtom 64 = .ok (.aload_n 0, 1) := by decide +kernel
theorem dX12_readAtom_65 : decode cX12_readAtom 65 = .ok (.bipush 35, 2) := by decide +kernel
theorem dX12_readAtom_67 : decode cX12_readAtom 67 = .ok (.invokevirtual 163, 3) := by decide +kernel
theorem dX12_readAtom_70 : decode cX12_readAtom 70 = .ok (.ifCond .eq 28, 3) := by decide +kernel
theorem dX12_readAtom_73 : decode cX12_readAtom 73 = .ok (.aload_n 0, 1) := by decide +kernel
theorem dX12_readAtom_74 : decode cX12_readAtom 74 = .ok (.iload_n 1, 1) := by decide +kernel
theorem dX12_readAtom_75 : decode cX12_readAtom 75 = .ok (.invokevirtual 186, 3) := by decide +kernel
theorem dX12_readAtom_78 : decode cX12_readAtom 78 = .ok (.ifCond .ne 4, 3) := by decide +kernel
theorem dX12_readAtom_81 : decode cX12_readAtom 81 = .ok (.return_, 1) := by decide +kernel
theorem dX12_readAtom_82 : decode cX12_readAtom 82 = .ok (.aload_n 0, 1) := by decide +kernel
theorem dX12_readAtom_83 : decode cX12_readAtom 83 = .ok (.iload_n 1, 1) := by decide +kernel
theorem dX12_readAtom_84 : decode cX12_readAtom 84 = .ok (.iconst 1, 1) := by decide +kernel
theorem dX12_readAtom_85 : decode cX12_readAtom 85 = .ok (.iadd, 1) := by decide +kernel
theorem dX12_readAtom_86 : decode cX12_readAtom 86 = .ok (.invokevirtual 189, 3) := by decide +kernel
theorem dX12_readAtom_89 : decode cX12_readAtom 89 = .ok (.aload_n 0, 1) := by decide +kernel
theorem dX12_readAtom_90 : decode cX12_readAtom 90 = .ok (.bipush 36, 2) := by decide +kernel
theorem dX12_readAtom_92 : decode cX12_readAtom 92 = .ok (.invokevirtual 192, 3) := by decide +kernel
theorem dX12_readAtom_95 : decode cX12_readAtom 95 = .ok (.goto 25, 3) := by decide +kernel
theorem dX12_readAtom_98 : decode cX12_readAtom 98 = .ok (.aload_n 0, 1) := by decide +kernel
theorem dX12_readAtom_99 : decode cX12_readAtom 99 = .ok (.bipush 9, 2) := by decide +kernel
theorem dX12_readAtom_101 : decode cX12_readAtom 101 = .ok (.invokevirtual 163, 3) := by decide +kernel
theorem dX12_readAtom_104 : decode cX12_readAtom 104 = .ok (.ifCond .eq 11, 3) := by decide +kernel
theorem dX12_readAtom_107 : decode cX12_readAtom 107 = .ok (.aload_n 0, 1) := by decide +kernel
theorem dX12_readAtom_108 : decode cX12_readAtom 108 = .ok (.iload_n 1, 1) := by decide +kernel
theorem dX12_readAtom_109 : decode cX12_readAtom 109 = .ok (.invokevirtual 195, 3) := by decide +kernel
theorem dX12_readAtom_112 : decode cX12_readAtom 112 = .ok (.goto 8, 3) := by decide +kernel
theorem dX12_readAtom_115 : decode cX12_readAtom 115 = .ok (.aload_n 0, 1) := by decide +kernel
theorem dX12_readAtom_116 : decode cX12_readAtom 116 = .ok (.iconst 2, 1) := by decide +kernel
theorem dX12_readAtom_117 : decode cX12_readAtom 117 = .ok (.invokevirtual 172, 3) := by decide +kernel
theorem dX12_readAtom_120 : decode cX12_readAtom 120 = .ok (.return_, 1) := by decide +kernel
theorem bX12_readAtom_0 {d : Nat} {P : q_Mem → Prop} {M : q_Mem} (x1 : Int) (h : q_kI yX12_is mX12_is d [qR 178, qI 20] M (fun v2 M1 => ((v2 = 0) → ((¬ (M1 178 13) = 0) → q_v mX12_readAtom d (qPU P) M1 64 [some (qR 178), some (qI x1)] []) ∧ (((M1 178 13) = 0) → q_kI yX12_wordOf mX12_wordOf d [qI (M1 178 11)] M1 (fun v4 M3 => ((v4 = ((-1) : Int)) → q_v mX12_readAtom d (qPU P) M3 64 [some (qR 178), some (qI x1)] []) ∧ ((¬ (v4 = ((-1) : Int))) → q_kI yX12_wordOf mX12_wordOf d [qI (M3 178 11)] M3 (fun v6 M5 => q_kU yX12_codes mX12_codes d [qR 178, qI (q_add 1000 v6)] M5 (fun M7 => q_kU yX12_goes mX12_goes d [qR 178] M7 (fun M8 => P M8))))))) ∧ ((¬ (v2 = 0)) → q_kU yX12_codes mX12_codes d [qR 178, qI (M1 178 12)] M1 (fun M9 => q_kU yX12_goes mX12_goes d [qR 178] M9 (fun M10 => P M10))))) : q_v mX12_readAtom d (qPU P) M 0 [some (qR 178), some (qI x1)] [] := by
  refine qr_aload_n 0 1 rfl (x := 178) rfl dX12_readAtom_0 ?_
  refine qr_bipush 1 3 rfl (q_l32 _ rfl) (by decide) dX12_readAtom_1 ?_
  refine qw_I 3 6 rfl (av := [qI 20]) ca_X12_is wm_1515 wp_80 wm_1513 ck12 (by decide +kernel) rfl rfl (Nat.le_of_ble_eq_true rfl) dX12_readAtom_3 h (fun v2 M1 h => ?_)
  refine qr_if_eq 6 9 24 rfl (by decide) dX12_readAtom_6 (fun c6 => ?_) (fun c6 => ?_)
  · have h := h.1 c6
    refine qr_aload_n 24 25 rfl (x := 178) rfl dX12_readAtom_24 ?_
    refine qg_i 25 28 rfl ck12 13 (kk := 13) (by decide) (by decide +kernel) (by decide +kernel) rfl wm_1339 rfl dX12_readAtom_25 ?_
    refine qr_if_ne 28 31 64 rfl (by decide) dX12_readAtom_28 (fun c28 => ?_) (fun c28 => ?_)
    · have h := h.1 c28
      exact h
    · have h := h.2 c28
      refine qr_aload_n 31 32 rfl (x := 178) rfl dX12_readAtom_31 ?_
      refine qg_i 32 35 rfl ck12 11 (kk := 11) (by decide) (by decide +kernel) (by decide +kernel) rfl wm_1337 rfl dX12_readAtom_32 ?_
      refine qs_I 35 38 rfl (av := [qI (M1 178 11)]) ca_X12_wordOf wm_1574 wm_1573 rfl rfl (Nat.le_of_ble_eq_true rfl) dX12_readAtom_35 h (fun v4 M3 h => ?_)
      refine qr_iconst 38 39 rfl (q_l32 _ rfl) dX12_readAtom_38 ?_
      refine qr_icmp_eq 39 42 64 rfl (by decide) dX12_readAtom_39 (fun c39 => ?_) (fun c39 => ?_)
      · have h := h.1 c39
        exact h
      · have h := h.2 c39
        refine qr_aload_n 42 43 rfl (x := 178) rfl dX12_readAtom_42 ?_
        refine qr_sipush 43 46 rfl (q_l32 _ rfl) (by decide) dX12_readAtom_43 ?_
        refine qr_aload_n 46 47 rfl (x := 178) rfl dX12_readAtom_46 ?_
        refine qg_i 47 50 rfl ck12 11 (kk := 11) (by decide) (by decide +kernel) (by decide +kernel) rfl wm_1337 rfl dX12_readAtom_47 ?_
        refine qs_I 50 53 rfl (av := [qI (M3 178 11)]) ca_X12_wordOf wm_1574 wm_1573 rfl rfl (Nat.le_of_ble_eq_true rfl) dX12_readAtom_50 h (fun v6 M5 h => ?_)
        refine qr_iadd 53 54 rfl dX12_readAtom_53 ?_
        refine qw_U 54 57 rfl (av := [qI (q_add 1000 v6)]) ca_X12_codes wm_1571 wp_94 wm_1569 ck12 (by decide +kernel) rfl rfl (Nat.le_of_ble_eq_true rfl) dX12_readAtom_54 h (fun M7 h => ?_)
        refine qr_aload_n 57 58 rfl (x := 178) rfl dX12_readAtom_57 ?_
        refine qw_U 58 61 rfl (av := []) ca_X12_goes wm_1485 wp_75 wm_1483 ck12 (by decide +kernel) rfl rfl (Nat.le_of_ble_eq_true rfl) dX12_readAtom_58 h (fun M8 h => ?_)
        refine qr_goto 61 120 (by decide) dX12_readAtom_61 ?_
        exact qe_u 120 rfl dX12_readAtom_120 h
  · have h := h.2 c6
    refine qr_aload_n 9 10 rfl (x := 178) rfl dX12_readAtom_9 ?_
    refine qr_aload_n 10 11 rfl (x := 178) rfl dX12_readAtom_10 ?_
    refine qg_i 11 14 rfl ck12 12 (kk := 12) (by decide) (by decide +kernel) (by decide +kernel) rfl wm_1338 rfl dX12_readAtom_11 ?_
    refine qw_U 14 17 rfl (av := [qI (M1 178 12)]) ca_X12_codes wm_1571 wp_94 wm_1569 ck12 (by decide +kernel) rfl rfl (Nat.le_of_ble_eq_true rfl) dX12_readAtom_14 h (fun M9 h => ?_)
    refine qr_aload_n 17 18 rfl (x := 178) rfl dX12_readAtom_17 ?_
    refine qw_U 18 21 rfl (av := []) ca_X12_goes wm_1485 wp_75 wm_1483 ck12 (by decide +kernel) rfl rfl (Nat.le_of_ble_eq_true rfl) dX12_readAtom_18 h (fun M10 h => ?_)
    refine qr_goto 21 120 (by decide) dX12_readAtom_21 ?_
    exact qe_u 120 rfl dX12_readAtom_120 h
theorem bX12_readAtom_64 {d : Nat} {P : q_Mem → Prop} {M : q_Mem} (x1 : Int) (h : q_kI yX12_is mX12_is d [qR 178, qI 35] M (fun v2 M1 => ((v2 = 0) → q_kI yX12_is mX12_is d [qR 178, qI 9] M1 (fun v4 M3 => ((v4 = 0) → q_kU yX12_fails mX12_fails d [qR 178, qI 2] M3 (fun M5 => P M5)) ∧ ((¬ (v4 = 0)) → q_kU yX12_readIf mX12_readIf d [qR 178, qI x1] M3 (fun M6 => P M6)))) ∧ ((¬ (v2 = 0)) → q_kI yX12_goesIn mX12_goesIn d [qR 178, qI x1] M1 (fun v8 M7 => ((¬ v8 = 0) → q_kU yX12_readSum mX12_readSum d [qR 178, qI (q_add x1 1)] M7 (fun M9 => q_kU yX12_wants mX12_wants d [qR 178, qI 36] M9 (fun M10 => P M10))) ∧ ((v8 = 0) → P M7))))) : q_v mX12_readAtom d (qPU P) M 64 [some (qR 178), some (qI x1)] [] := by
  refine qr_aload_n 64 65 rfl (x := 178) rfl dX12_readAtom_64 ?_
  refine qr_bipush 65 67 rfl (q_l32 _ rfl) (by decide) dX12_readAtom_65 ?_
  refine qw_I 67 70 rfl (av := [qI 35]) ca_X12_is wm_1515 wp_80 wm_1513 ck12 (by decide +kernel) rfl rfl (Nat.le_of_ble_eq_true rfl) dX12_readAtom_67 h (fun v2 M1 h => ?_)
  refine qr_if_eq 70 73 98 rfl (by decide) dX12_readAtom_70 (fun c70 => ?_) (fun c70 => ?_)
  · have h := h.1 c70
    refine qr_aload_n 98 99 rfl (x := 178) rfl dX12_readAtom_98 ?_
    refine qr_bipush 99 101 rfl (q_l32 _ rfl) (by decide) dX12_readAtom_99 ?_
    refine qw_I 101 104 rfl (av := [qI 9]) ca_X12_is wm_1515 wp_80 wm_1513 ck12 (by decide +kernel) rfl rfl (Nat.le_of_ble_eq_true rfl) dX12_readAtom_101 h (fun v4 M3 h => ?_)
    refine qr_if_eq 104 107 115 rfl (by decide) dX12_readAtom_104 (fun c104 => ?_) (fun c104 => ?_)
    · have h := h.1 c104
      refine qr_aload_n 115 116 rfl (x := 178) rfl dX12_readAtom_115 ?_
      refine qr_iconst 116 117 rfl (q_l32 _ rfl) dX12_readAtom_116 ?_
      refine qw_U 117 120 rfl (av := [qI 2]) ca_X12_fails wm_1519 wp_81 wm_1517 ck12 (by decide +kernel) rfl rfl (Nat.le_of_ble_eq_true rfl) dX12_readAtom_117 h (fun M5 h => ?_)
      exact qe_u 120 rfl dX12_readAtom_120 h
    · have h := h.2 c104
      refine qr_aload_n 107 108 rfl (x := 178) rfl dX12_readAtom_107 ?_
      refine qr_iload_n 108 109 rfl (x := x1) rfl dX12_readAtom_108 ?_
      refine qw_U 109 112 rfl (av := [qI x1]) ca_X12_readIf wm_1582 wp_96 wm_1580 ck12 (by decide +kernel) rfl rfl (Nat.le_of_ble_eq_true rfl) dX12_readAtom_109 h (fun M6 h => ?_)
      refine qr_goto 112 120 (by decide) dX12_readAtom_112 ?_
      exact qe_u 120 rfl dX12_readAtom_120 h
  · have h := h.2 c70
    refine qr_aload_n 73 74 rfl (x := 178) rfl dX12_readAtom_73 ?_
    refine qr_iload_n 74 75 rfl (x := x1) rfl dX12_readAtom_74 ?_
    refine qw_I 75 78 rfl (av := [qI x1]) ca_X12_goesIn wm_1578 wp_95 wm_1576 ck12 (by decide +kernel) rfl rfl (Nat.le_of_ble_eq_true rfl) dX12_readAtom_75 h (fun v8 M7 h => ?_)
    refine qr_if_ne 78 81 82 rfl (by decide) dX12_readAtom_78 (fun c78 => ?_) (fun c78 => ?_)
    · have h := h.1 c78
      refine qr_aload_n 82 83 rfl (x := 178) rfl dX12_readAtom_82 ?_
      refine qr_iload_n 83 84 rfl (x := x1) rfl dX12_readAtom_83 ?_
      refine qr_iconst 84 85 rfl (q_l32 _ rfl) dX12_readAtom_84 ?_
      refine qr_iadd 85 86 rfl dX12_readAtom_85 ?_
      refine qw_U 86 89 rfl (av := [qI (q_add x1 1)]) ca_X12_readSum wm_1559 wp_91 wm_1557 ck12 (by decide +kernel) rfl rfl (Nat.le_of_ble_eq_true rfl) dX12_readAtom_86 h (fun M9 h => ?_)
      refine qr_aload_n 89 90 rfl (x := 178) rfl dX12_readAtom_89 ?_
      refine qr_bipush 90 92 rfl (q_l32 _ rfl) (by decide) dX12_readAtom_90 ?_
      refine qw_U 92 95 rfl (av := [qI 36]) ca_X12_wants wm_1507 wp_78 wm_1505 ck12 (by decide +kernel) rfl rfl (Nat.le_of_ble_eq_true rfl) dX12_readAtom_92 h (fun M10 h => ?_)
      refine qr_goto 95 120 (by decide) dX12_readAtom_95 ?_
      exact qe_u 120 rfl dX12_readAtom_120 h
    · have h := h.2 c78
      exact qe_u 81 rfl dX12_readAtom_81 h
theorem dX12_readIf_0 : decode cX12_readIf 0 = .ok (.aload_n 0, 1) := by decide +kernel
theorem dX12_readIf_1 : decode cX12_readIf 1 = .ok (.iload_n 1, 1) := by decide +kernel
theorem dX12_readIf_2 : decode cX12_readIf 2 = .ok (.invokevirtual 186, 3) := by decide +kernel
theorem dX12_readIf_5 : decode cX12_readIf 5 = .ok (.ifCond .ne 4, 3) := by decide +kernel
theorem dX12_readIf_8 : decode cX12_readIf 8 = .ok (.return_, 1) := by decide +kernel
theorem dX12_readIf_9 : decode cX12_readIf 9 = .ok (.aload_n 0, 1) := by decide +kernel
theorem dX12_readIf_10 : decode cX12_readIf 10 = .ok (.iload_n 1, 1) := by decide +kernel
theorem dX12_readIf_11 : decode cX12_readIf 11 = .ok (.iconst 1, 1) := by decide +kernel
theorem dX12_readIf_12 : decode cX12_readIf 12 = .ok (.iadd, 1) := by decide +kernel
theorem dX12_readIf_13 : decode cX12_readIf 13 = .ok (.invokevirtual 198, 3) := by decide +kernel
theorem dX12_readIf_16 : decode cX12_readIf 16 = .ok (.aload_n 0, 1) := by decide +kernel
theorem dX12_readIf_17 : decode cX12_readIf 17 = .ok (.bipush 10, 2) := by decide +kernel
theorem dX12_readIf_19 : decode cX12_readIf 19 = .ok (.invokevirtual 192, 3) := by decide +kernel
theorem dX12_readIf_22 : decode cX12_readIf 22 = .ok (.aload_n 0, 1) := by decide +kernel
theorem dX12_readIf_23 : decode cX12_readIf 23 = .ok (.iload_n 1, 1) := by decide +kernel
theorem dX12_readIf_24 : decode cX12_readIf 24 = .ok (.iconst 1, 1) := by decide +kernel
theorem dX12_readIf_25 : decode cX12_readIf 25 = .ok (.iadd, 1) := by decide +kernel
theorem dX12_readIf_26 : decode cX12_readIf 26 = .ok (.invokevirtual 189, 3) := by decide +kernel
theorem dX12_readIf_29 : decode cX12_readIf 29 = .ok (.aload_n 0, 1) := by decide +kernel
theorem dX12_readIf_30 : decode cX12_readIf 30 = .ok (.bipush 11, 2) := by decide +kernel
theorem dX12_readIf_32 : decode cX12_readIf 32 = .ok (.invokevirtual 192, 3) := by decide +kernel
theorem dX12_readIf_35 : decode cX12_readIf 35 = .ok (.aload_n 0, 1) := by decide +kernel
theorem dX12_readIf_36 : decode cX12_readIf 36 = .ok (.iload_n 1, 1) := by decide +kernel
theorem dX12_readIf_37 : decode cX12_readIf 37 = .ok (.iconst 1, 1) := by decide +kernel
theorem dX12_readIf_38 : decode cX12_readIf 38 = .ok (.iadd, 1) := by decide +kernel
theorem dX12_readIf_39 : decode cX12_readIf 39 = .ok (.invokevirtual 189, 3) := by decide +kernel
theorem dX12_readIf_42 : decode cX12_readIf 42 = .ok (.aload_n 0, 1) := by decide +kernel
theorem dX12_readIf_43 : decode cX12_readIf 43 = .ok (.bipush 12, 2) := by decide +kernel
theorem dX12_readIf_45 : decode cX12_readIf 45 = .ok (.invokevirtual 192, 3) := by decide +kernel
theorem dX12_readIf_48 : decode cX12_readIf 48 = .ok (.aload_n 0, 1) := by decide +kernel
theorem dX12_readIf_49 : decode cX12_readIf 49 = .ok (.sipush 3009, 3) := by decide +kernel
theorem dX12_readIf_52 : decode cX12_readIf 52 = .ok (.invokevirtual 180, 3) := by decide +kernel
theorem dX12_readIf_55 : decode cX12_readIf 55 = .ok (.return_, 1) := by decide +kernel
theorem bX12_readIf_0 {d : Nat} {P : q_Mem → Prop} {M : q_Mem} (x1 : Int) (h : q_kI yX12_goesIn mX12_goesIn d [qR 178, qI x1] M (fun v2 M1 => ((¬ v2 = 0) → q_kU yX12_readTruth mX12_readTruth d [qR 178, qI (q_add x1 1)] M1 (fun M3 => q_kU yX12_wants mX12_wants d [qR 178, qI 10] M3 (fun M4 => q_kU yX12_readSum mX12_readSum d [qR 178, qI (q_add x1 1)] M4 (fun M5 => q_kU yX12_wants mX12_wants d [qR 178, qI 11] M5 (fun M6 => q_kU yX12_readSum mX12_readSum d [qR 178, qI (q_add x1 1)] M6 (fun M7 => q_kU yX12_wants mX12_wants d [qR 178, qI 12] M7 (fun M8 => q_kU yX12_codes mX12_codes d [qR 178, qI 3009] M8 (fun M9 => P M9)))))))) ∧ ((v2 = 0) → P M1))) : q_v mX12_readIf d (qPU P) M 0 [some (qR 178), some (qI x1)] [] := by
  refine qr_aload_n 0 1 rfl (x := 178) rfl dX12_readIf_0 ?_
  refine qr_iload_n 1 2 rfl (x := x1) rfl dX12_readIf_1 ?_
  refine qw_I 2 5 rfl (av := [qI x1]) ca_X12_goesIn wm_1578 wp_95 wm_1576 ck12 (by decide +kernel) rfl rfl (Nat.le_of_ble_eq_true rfl) dX12_readIf_2 h (fun v2 M1 h => ?_)
  refine qr_if_ne 5 8 9 rfl (by decide) dX12_readIf_5 (fun c5 => ?_) (fun c5 => ?_)
  · have h := h.1 c5
    refine qr_aload_n 9 10 rfl (x := 178) rfl dX12_readIf_9 ?_
    refine qr_iload_n 10 11 rfl (x := x1) rfl dX12_readIf_10 ?_
    refine qr_iconst 11 12 rfl (q_l32 _ rfl) dX12_readIf_11 ?_
    refine qr_iadd 12 13 rfl dX12_readIf_12 ?_
    refine qw_U 13 16 rfl (av := [qI (q_add x1 1)]) ca_X12_readTruth wm_1586 wp_97 wm_1584 ck12 (by decide +kernel) rfl rfl (Nat.le_of_ble_eq_true rfl) dX12_readIf_13 h (fun M3 h => ?_)
    refine qr_aload_n 16 17 rfl (x := 178) rfl dX12_readIf_16 ?_
    refine qr_bipush 17 19 rfl (q_l32 _ rfl) (by decide) dX12_readIf_17 ?_
    refine qw_U 19 22 rfl (av := [qI 10]) ca_X12_wants wm_1507 wp_78 wm_1505 ck12 (by decide +kernel) rfl rfl (Nat.le_of_ble_eq_true rfl) dX12_readIf_19 h (fun M4 h => ?_)
    refine qr_aload_n 22 23 rfl (x := 178) rfl dX12_readIf_22 ?_
    refine qr_iload_n 23 24 rfl (x := x1) rfl dX12_readIf_23 ?_
    refine qr_iconst 24 25 rfl (q_l32 _ rfl) dX12_readIf_24 ?_
    refine qr_iadd 25 26 rfl dX12_readIf_25 ?_
    refine qw_U 26 29 rfl (av := [qI (q_add x1 1)]) ca_X12_readSum wm_1559 wp_91 wm_1557 ck12 (by decide +kernel) rfl rfl (Nat.le_of_ble_eq_true rfl) dX12_readIf_26 h (fun M5 h => ?_)
    refine qr_aload_n 29 30 rfl (x := 178) rfl dX12_readIf_29 ?_
    refine qr_bipush 30 32 rfl (q_l32 _ rfl) (by decide) dX12_readIf_30 ?_
    refine qw_U 32 35 rfl (av := [qI 11]) ca_X12_wants wm_1507 wp_78 wm_1505 ck12 (by decide +kernel) rfl rfl (Nat.le_of_ble_eq_true rfl) dX12_readIf_32 h (fun M6 h => ?_)
    refine qr_aload_n 35 36 rfl (x := 178) rfl dX12_readIf_35 ?_
    refine qr_iload_n 36 37 rfl (x := x1) rfl dX12_readIf_36 ?_
    refine qr_iconst 37 38 rfl (q_l32 _ rfl) dX12_readIf_37 ?_
    refine qr_iadd 38 39 rfl dX12_readIf_38 ?_
    refine qw_U 39 42 rfl (av := [qI (q_add x1 1)]) ca_X12_readSum wm_1559 wp_91 wm_1557 ck12 (by decide +kernel) rfl rfl (Nat.le_of_ble_eq_true rfl) dX12_readIf_39 h (fun M7 h => ?_)
    refine qr_aload_n 42 43 rfl (x := 178) rfl dX12_readIf_42 ?_
    refine qr_bipush 43 45 rfl (q_l32 _ rfl) (by decide) dX12_readIf_43 ?_
    refine qw_U 45 48 rfl (av := [qI 12]) ca_X12_wants wm_1507 wp_78 wm_1505 ck12 (by decide +kernel) rfl rfl (Nat.le_of_ble_eq_true rfl) dX12_readIf_45 h (fun M8 h => ?_)
    refine qr_aload_n 48 49 rfl (x := 178) rfl dX12_readIf_48 ?_
    refine qr_sipush 49 52 rfl (q_l32 _ rfl) (by decide) dX12_readIf_49 ?_
    refine qw_U 52 55 rfl (av := [qI 3009]) ca_X12_codes wm_1571 wp_94 wm_1569 ck12 (by decide +kernel) rfl rfl (Nat.le_of_ble_eq_true rfl) dX12_readIf_52 h (fun M9 h => ?_)
    exact qe_u 55 rfl dX12_readIf_55 h
  · have h := h.2 c5
    exact qe_u 8 rfl dX12_readIf_8 h
theorem dX12_readTerm_0 : decode cX12_readTerm 0 = .ok (.aload_n 0, 1) := by decide +kernel
theorem dX12_readTerm_1 : decode cX12_readTerm 1 = .ok (.iload_n 1, 1) := by decide +kernel
theorem dX12_readTerm_2 : decode cX12_readTerm 2 = .ok (.invokevirtual 201, 3) := by decide +kernel
theorem dX12_readTerm_5 : decode cX12_readTerm 5 = .ok (.aload_n 0, 1) := by decide +kernel
theorem dX12_readTerm_6 : decode cX12_readTerm 6 = .ok (.bipush 34, 2) := by decide +kernel
theorem dX12_readTerm_8 : decode cX12_readTerm 8 = .ok (.invokevirtual 169, 3) := by decide +kernel
theorem dX12_readTerm_11 : decode cX12_readTerm 11 = .ok (.ifCond .eq 18, 3) := by decide +kernel
theorem dX12_readTerm_14 : decode cX12_readTerm 14 = .ok (.aload_n 0, 1) := by decide +kernel
theorem dX12_readTerm_15 : decode cX12_readTerm 15 = .ok (.iload_n 1, 1) := by decide +kernel
theorem dX12_readTerm_16 : decode cX12_readTerm 16 = .ok (.invokevirtual 201, 3) := by decide +kernel
theorem dX12_readTerm_19 : decode cX12_readTerm 19 = .ok (.aload_n 0, 1) := by decide +kernel
theorem dX12_readTerm_20 : decode cX12_readTerm 20 = .ok (.sipush 3002, 3) := by decide +kernel
theorem dX12_readTerm_23 : decode cX12_readTerm 23 = .ok (.invokevirtual 180, 3) := by decide +kernel
theorem dX12_readTerm_26 : decode cX12_readTerm 26 = .ok (.goto (-21), 3) := by decide +kernel
theorem dX12_readTerm_29 : decode cX12_readTerm 29 = .ok (.return_, 1) := by decide +kernel
theorem bX12_readTerm_0 {d : Nat} {P : q_Mem → Prop} {M : q_Mem} (x1 : Int) (h : q_kU yX12_readAtom mX12_readAtom d [qR 178, qI x1] M (fun M1 => q_v mX12_readTerm d (qPU P) M1 5 [some (qR 178), some (qI x1)] [])) : q_v mX12_readTerm d (qPU P) M 0 [some (qR 178), some (qI x1)] [] := by
  refine qr_aload_n 0 1 rfl (x := 178) rfl dX12_readTerm_0 ?_
  refine qr_iload_n 1 2 rfl (x := x1) rfl dX12_readTerm_1 ?_
  refine qw_U 2 5 rfl (av := [qI x1]) ca_X12_readAtom wm_1567 wp_93 wm_1565 ck12 (by decide +kernel) rfl rfl (Nat.le_of_ble_eq_true rfl) dX12_readTerm_2 h (fun M1 h => ?_)
  exact h
theorem bX12_readTerm_5 {d : Nat} {P : q_Mem → Prop} {M : q_Mem} (x1 : Int) (h : q_kI yX12_eats mX12_eats d [qR 178, qI 34] M (fun v2 M1 => ((v2 = 0) → P M1) ∧ ((¬ (v2 = 0)) → q_kU yX12_readAtom mX12_readAtom d [qR 178, qI x1] M1 (fun M3 => q_kU yX12_codes mX12_codes d [qR 178, qI 3002] M3 (fun M4 => q_v mX12_readTerm d (qPU P) M4 5 [some (qR 178), some (qI x1)] []))))) : q_v mX12_readTerm d (qPU P) M 5 [some (qR 178), some (qI x1)] [] := by
  refine qr_aload_n 5 6 rfl (x := 178) rfl dX12_readTerm_5 ?_
  refine qr_bipush 6 8 rfl (q_l32 _ rfl) (by decide) dX12_readTerm_6 ?_
  refine qw_I 8 11 rfl (av := [qI 34]) ca_X12_eats wm_1511 wp_79 wm_1509 ck12 (by decide +kernel) rfl rfl (Nat.le_of_ble_eq_true rfl) dX12_readTerm_8 h (fun v2 M1 h => ?_)
  refine qr_if_eq 11 14 29 rfl (by decide) dX12_readTerm_11 (fun c11 => ?_) (fun c11 => ?_)
  · have h := h.1 c11
    exact qe_u 29 rfl dX12_readTerm_29 h
  · have h := h.2 c11
    refine qr_aload_n 14 15 rfl (x := 178) rfl dX12_readTerm_14 ?_
    refine qr_iload_n 15 16 rfl (x := x1) rfl dX12_readTerm_15 ?_
    refine qw_U 16 19 rfl (av := [qI x1]) ca_X12_readAtom wm_1567 wp_93 wm_1565 ck12 (by decide +kernel) rfl rfl (Nat.le_of_ble_eq_true rfl) dX12_readTerm_16 h (fun M3 h => ?_)
    refine qr_aload_n 19 20 rfl (x := 178) rfl dX12_readTerm_19 ?_
    refine qr_sipush 20 23 rfl (q_l32 _ rfl) (by decide) dX12_readTerm_20 ?_
    refine qw_U 23 26 rfl (av := [qI 3002]) ca_X12_codes wm_1571 wp_94 wm_1569 ck12 (by decide +kernel) rfl rfl (Nat.le_of_ble_eq_true rfl) dX12_readTerm_23 h (fun M4 h => ?_)
    refine qr_goto 26 5 (by decide) dX12_readTerm_26 ?_
    exact h
theorem dX12_readSum_0 : decode cX12_readSum 0 = .ok (.aload_n 0, 1) := by decide +kernel
theorem dX12_readSum_1 : decode cX12_readSum 1 = .ok (.iload_n 1, 1) := by decide +kernel
theorem dX12_readSum_2 : decode cX12_readSum 2 = .ok (.invokevirtual 204, 3) := by decide +kernel
theorem dX12_readSum_5 : decode cX12_readSum 5 = .ok (.aload_n 0, 1) := by decide +kernel
theorem dX12_readSum_6 : decode cX12_readSum 6 = .ok (.bipush 32, 2) := by decide +kernel
theorem dX12_readSum_8 : decode cX12_readSum 8 = .ok (.invokevirtual 163, 3) := by decide +kernel
theorem dX12_readSum_11 : decode cX12_readSum 11 = .ok (.ifCond .ne 12, 3) := by decide +kernel
theorem dX12_readSum_14 : decode cX12_readSum 14 = .ok (.aload_n 0, 1) := by decide +kernel
theorem dX12_readSum_15 : decode cX12_readSum 15 = .ok (.bipush 33, 2) := by decide +kernel
theorem dX12_readSum_17 : decode cX12_readSum 17 = .ok (.invokevirtual 163, 3) := by decide +kernel
theorem dX12_readSum_20 : decode cX12_readSum 20 = .ok (.ifCond .eq 39, 3) := by decide +kernel
theorem dX12_readSum_23 : decode cX12_readSum 23 = .ok (.aload_n 0, 1) := by decide +kernel
theorem dX12_readSum_24 : decode cX12_readSum 24 = .ok (.getfield 139, 3) := by decide +kernel
theorem dX12_readSum_27 : decode cX12_readSum 27 = .ok (.bipush 32, 2) := by decide +kernel
theorem dX12_readSum_29 : decode cX12_readSum 29 = .ok (.if_icmp .ne 9, 3) := by decide +kernel
theorem dX12_readSum_32 : decode cX12_readSum 32 = .ok (.sipush 3000, 3) := by decide +kernel
theorem dX12_readSum_35 : decode cX12_readSum 35 = .ok (.goto 6, 3) := by decide +kernel
theorem dX12_readSum_38 : decode cX12_readSum 38 = .ok (.sipush 3001, 3) := by decide +kernel
theorem dX12_readSum_41 : decode cX12_readSum 41 = .ok (.istore_n 2, 1) := by decide +kernel
theorem dX12_readSum_42 : decode cX12_readSum 42 = .ok (.aload_n 0, 1) := by decide +kernel
theorem dX12_readSum_43 : decode cX12_readSum 43 = .ok (.invokevirtual 166, 3) := by decide +kernel
theorem dX12_readSum_46 : decode cX12_readSum 46 = .ok (.aload_n 0, 1) := by decide +kernel
theorem dX12_readSum_47 : decode cX12_readSum 47 = .ok (.iload_n 1, 1) := by decide +kernel
theorem dX12_readSum_48 : decode cX12_readSum 48 = .ok (.invokevirtual 204, 3) := by decide +kernel
theorem dX12_readSum_51 : decode cX12_readSum 51 = .ok (.aload_n 0, 1) := by decide +kernel
theorem dX12_readSum_52 : decode cX12_readSum 52 = .ok (.iload_n 2, 1) := by decide +kernel
theorem dX12_readSum_53 : decode cX12_readSum 53 = .ok (.invokevirtual 180, 3) := by decide +kernel
theorem dX12_readSum_56 : decode cX12_readSum 56 = .ok (.goto (-51), 3) := by decide +kernel
theorem dX12_readSum_59 : decode cX12_readSum 59 = .ok (.return_, 1) := by decide +kernel
theorem bX12_readSum_0 {d : Nat} {P : q_Mem → Prop} {M : q_Mem} (x1 : Int) (h : q_kU yX12_readTerm mX12_readTerm d [qR 178, qI x1] M (fun M1 => q_v mX12_readSum d (qPU P) M1 5 [some (qR 178), some (qI x1), none] [])) : q_v mX12_readSum d (qPU P) M 0 [some (qR 178), some (qI x1), none] [] := by
  refine qr_aload_n 0 1 rfl (x := 178) rfl dX12_readSum_0 ?_
  refine qr_iload_n 1 2 rfl (x := x1) rfl dX12_readSum_1 ?_
  refine qw_U 2 5 rfl (av := [qI x1]) ca_X12_readTerm wm_1563 wp_92 wm_1561 ck12 (by decide +kernel) rfl rfl (Nat.le_of_ble_eq_true rfl) dX12_readSum_2 h (fun M1 h => ?_)
  exact h
theorem bX12_readSum_5 {d : Nat} {P : q_Mem → Prop} {M : q_Mem} (x1 : Int) (h : q_kI yX12_is mX12_is d [qR 178, qI 32] M (fun v2 M1 => ((¬ v2 = 0) → q_v mX12_readSum d (qPU P) M1 23 [some (qR 178), some (qI x1), none] []) ∧ ((v2 = 0) → q_kI yX12_is mX12_is d [qR 178, qI 33] M1 (fun v4 M3 => ((v4 = 0) → P M3) ∧ ((¬ (v4 = 0)) → q_v mX12_readSum d (qPU P) M3 23 [some (qR 178), some (qI x1), none] []))))) : q_v mX12_readSum d (qPU P) M 5 [some (qR 178), some (qI x1), none] [] := by
  refine qr_aload_n 5 6 rfl (x := 178) rfl dX12_readSum_5 ?_
  refine qr_bipush 6 8 rfl (q_l32 _ rfl) (by decide) dX12_readSum_6 ?_
  refine qw_I 8 11 rfl (av := [qI 32]) ca_X12_is wm_1515 wp_80 wm_1513 ck12 (by decide +kernel) rfl rfl (Nat.le_of_ble_eq_true rfl) dX12_readSum_8 h (fun v2 M1 h => ?_)
  refine qr_if_ne 11 14 23 rfl (by decide) dX12_readSum_11 (fun c11 => ?_) (fun c11 => ?_)
  · have h := h.1 c11
    exact h
  · have h := h.2 c11
    refine qr_aload_n 14 15 rfl (x := 178) rfl dX12_readSum_14 ?_
    refine qr_bipush 15 17 rfl (q_l32 _ rfl) (by decide) dX12_readSum_15 ?_
    refine qw_I 17 20 rfl (av := [qI 33]) ca_X12_is wm_1515 wp_80 wm_1513 ck12 (by decide +kernel) rfl rfl (Nat.le_of_ble_eq_true rfl) dX12_readSum_17 h (fun v4 M3 h => ?_)
    refine qr_if_eq 20 23 59 rfl (by decide) dX12_readSum_20 (fun c20 => ?_) (fun c20 => ?_)
    · have h := h.1 c20
      exact qe_u 59 rfl dX12_readSum_59 h
    · have h := h.2 c20
      exact h
theorem bX12_readSum_23 {d : Nat} {P : q_Mem → Prop} {M : q_Mem} (x1 : Int) (h : ((¬ (M 178 11) = (32 : Int)) → q_v mX12_readSum d (qPU P) M 41 [some (qR 178), some (qI x1), none] [qI 3001]) ∧ (((M 178 11) = (32 : Int)) → q_v mX12_readSum d (qPU P) M 41 [some (qR 178), some (qI x1), none] [qI 3000])) : q_v mX12_readSum d (qPU P) M 23 [some (qR 178), some (qI x1), none] [] := by
  refine qr_aload_n 23 24 rfl (x := 178) rfl dX12_readSum_23 ?_
  refine qg_i 24 27 rfl ck12 11 (kk := 11) (by decide) (by decide +kernel) (by decide +kernel) rfl wm_1337 rfl dX12_readSum_24 ?_
  refine qr_bipush 27 29 rfl (q_l32 _ rfl) (by decide) dX12_readSum_27 ?_
  refine qr_icmp_ne 29 32 38 rfl (by decide) dX12_readSum_29 (fun c29 => ?_) (fun c29 => ?_)
  · have h := h.1 c29
    refine qr_sipush 38 41 rfl (q_l32 _ rfl) (by decide) dX12_readSum_38 ?_
    exact h
  · have h := h.2 c29
    refine qr_sipush 32 35 rfl (q_l32 _ rfl) (by decide) dX12_readSum_32 ?_
    refine qr_goto 35 41 (by decide) dX12_readSum_35 ?_
    exact h
theorem bX12_readSum_41 {d : Nat} {P : q_Mem → Prop} {M : q_Mem} (x1 y0 : Int) (h : q_kU yX12_goes mX12_goes d [qR 178] M (fun M1 => q_kU yX12_readTerm mX12_readTerm d [qR 178, qI x1] M1 (fun M2 => q_kU yX12_codes mX12_codes d [qR 178, qI y0] M2 (fun M3 => q_v mX12_readSum d (qPU P) M3 5 [some (qR 178), some (qI x1), none] [])))) : q_v mX12_readSum d (qPU P) M 41 [some (qR 178), some (qI x1), none] [qI y0] := by
  refine qr_istore_n 41 42 rfl (by decide) rfl rfl dX12_readSum_41 ?_
  refine qr_aload_n 42 43 rfl (x := 178) rfl dX12_readSum_42 ?_
  refine qw_U 43 46 rfl (av := []) ca_X12_goes wm_1485 wp_75 wm_1483 ck12 (by decide +kernel) rfl rfl (Nat.le_of_ble_eq_true rfl) dX12_readSum_43 h (fun M1 h => ?_)
  refine qr_aload_n 46 47 rfl (x := 178) rfl dX12_readSum_46 ?_
  refine qr_iload_n 47 48 rfl (x := x1) rfl dX12_readSum_47 ?_
  refine qw_U 48 51 rfl (av := [qI x1]) ca_X12_readTerm wm_1563 wp_92 wm_1561 ck12 (by decide +kernel) rfl rfl (Nat.le_of_ble_eq_true rfl) dX12_readSum_48 h (fun M2 h => ?_)
  refine qr_aload_n 51 52 rfl (x := 178) rfl dX12_readSum_51 ?_
  refine qr_iload_n 52 53 rfl (x := y0) rfl dX12_readSum_52 ?_
  refine qw_U 53 56 rfl (av := [qI y0]) ca_X12_codes wm_1571 wp_94 wm_1569 ck12 (by decide +kernel) rfl rfl (Nat.le_of_ble_eq_true rfl) dX12_readSum_53 h (fun M3 h => ?_)
  refine qr_goto 56 5 (by decide) dX12_readSum_56 ?_
  exact qr_cut 5 (ls' := [some (qR 178), some (qI x1), none]) (And.intro rfl (And.intro rfl trivial)) h
theorem dX12_readUnit_0 : decode cX12_readUnit 0 = .ok (.aload_n 0, 1) := by decide +kernel
theorem dX12_readUnit_1 : decode cX12_readUnit 1 = .ok (.bipush 18, 2) := by decide +kernel
theorem dX12_readUnit_3 : decode cX12_readUnit 3 = .ok (.invokevirtual 163, 3) := by decide +kernel
theorem dX12_readUnit_6 : decode cX12_readUnit 6 = .ok (.ifCond .eq 27, 3) := by decide +kernel
theorem dX12_readUnit_9 : decode cX12_readUnit 9 = .ok (.aload_n 0, 1) := by decide +kernel
theorem dX12_readUnit_10 : decode cX12_readUnit 10 = .ok (.iload_n 1, 1) := by decide +kernel
theorem dX12_readUnit_11 : decode cX12_readUnit 11 = .ok (.invokevirtual 186, 3) := by decide +kernel
theorem dX12_readUnit_14 : decode cX12_readUnit 14 = .ok (.ifCond .ne 4, 3) := by decide +kernel
theorem dX12_readUnit_17 : decode cX12_readUnit 17 = .ok (.return_, 1) := by decide +kernel
theorem dX12_readUnit_18 : decode cX12_readUnit 18 = .ok (.aload_n 0, 1) := by decide +kernel
theorem dX12_readUnit_19 : decode cX12_readUnit 19 = .ok (.iload_n 1, 1) := by decide +kernel
theorem dX12_readUnit_20 : decode cX12_readUnit 20 = .ok (.iconst 1, 1) := by decide +kernel
theorem dX12_readUnit_21 : decode cX12_readUnit 21 = .ok (.iadd, 1) := by decide +kernel
theorem dX12_readUnit_22 : decode cX12_readUnit 22 = .ok (.invokevirtual 207, 3) := by decide +kernel
theorem dX12_readUnit_25 : decode cX12_readUnit 25 = .ok (.aload_n 0, 1) := by decide +kernel
theorem dX12_readUnit_26 : decode cX12_readUnit 26 = .ok (.sipush 3006, 3) := by decide +kernel
theorem dX12_readUnit_29 : decode cX12_readUnit 29 = .ok (.invokevirtual 180, 3) := by decide +kernel
theorem dX12_readUnit_32 : decode cX12_readUnit 32 = .ok (.return_, 1) := by decide +kernel
theorem dX12_readUnit_33 : decode cX12_readUnit 33 = .ok (.aload_n 0, 1) := by decide +kernel
theorem dX12_readUnit_34 : decode cX12_readUnit 34 = .ok (.bipush 37, 2) := by decide +kernel
theorem dX12_readUnit_36 : decode cX12_readUnit 36 = .ok (.invokevirtual 163, 3) := by decide +kernel
theorem dX12_readUnit_39 : decode cX12_readUnit 39 = .ok (.ifCond .eq 26, 3) := by decide +kernel
theorem dX12_readUnit_42 : decode cX12_readUnit 42 = .ok (.aload_n 0, 1) := by decide +kernel
theorem dX12_readUnit_43 : decode cX12_readUnit 43 = .ok (.iload_n 1, 1) := by decide +kernel
theorem dX12_readUnit_44 : decode cX12_readUnit 44 = .ok (.invokevirtual 186, 3) := by decide +kernel
theorem dX12_readUnit_47 : decode cX12_readUnit 47 = .ok (.ifCond .ne 4, 3) := by decide +kernel
theorem dX12_readUnit_50 : decode cX12_readUnit 50 = .ok (.return_, 1) := by decide +kernel
theorem dX12_readUnit_51 : decode cX12_readUnit 51 = .ok (.aload_n 0, 1) := by decide +kernel
theorem dX12_readUnit_52 : decode cX12_readUnit 52 = .ok (.iload_n 1, 1) := by decide +kernel
theorem dX12_readUnit_53 : decode cX12_readUnit 53 = .ok (.iconst 1, 1) := by decide +kernel
theorem dX12_readUnit_54 : decode cX12_readUnit 54 = .ok (.iadd, 1) := by decide +kernel
theorem dX12_readUnit_55 : decode cX12_readUnit 55 = .ok (.invokevirtual 198, 3) := by decide +kernel
theorem dX12_readUnit_58 : decode cX12_readUnit 58 = .ok (.aload_n 0, 1) := by decide +kernel
theorem dX12_readUnit_59 : decode cX12_readUnit 59 = .ok (.bipush 38, 2) := by decide +kernel
theorem dX12_readUnit_61 : decode cX12_readUnit 61 = .ok (.invokevirtual 192, 3) := by decide +kernel
theorem dX12_readUnit_64 : decode cX12_readUnit 64 = .ok (.return_, 1) := by decide +kernel
theorem dX12_readUnit_65 : decode cX12_readUnit 65 = .ok (.aload_n 0, 1) := by decide +kernel
theorem dX12_readUnit_66 : decode cX12_readUnit 66 = .ok (.iload_n 1, 1) := by decide +kernel
theorem dX12_readUnit_67 : decode cX12_readUnit 67 = .ok (.invokevirtual 189, 3) := by decide +kernel
theorem dX12_readUnit_70 : decode cX12_readUnit 70 = .ok (.aload_n 0, 1) := by decide +kernel
theorem dX12_readUnit_71 : decode cX12_readUnit 71 = .ok (.bipush 39, 2) := by decide +kernel
theorem dX12_readUnit_73 : decode cX12_readUnit 73 = .ok (.invokevirtual 163, 3) := by decide +kernel
theorem dX12_readUnit_76 : decode cX12_readUnit 76 = .ok (.ifCond .eq 9, 3) := by decide +kernel
theorem dX12_readUnit_79 : decode cX12_readUnit 79 = .ok (.sipush 3003, 3) := by decide +kernel
theorem dX12_readUnit_82 : decode cX12_readUnit 82 = .ok (.goto 21, 3) := by decide +kernel
theorem dX12_readUnit_85 : decode cX12_readUnit 85 = .ok (.aload_n 0, 1) := by decide +kernel
theorem dX12_readUnit_86 : decode cX12_readUnit 86 = .ok (.bipush 40, 2) := by decide +kernel
theorem dX12_readUnit_88 : decode cX12_readUnit 88 = .ok (.invokevirtual 163, 3) := by decide +kernel
theorem dX12_readUnit_91 : decode cX12_readUnit 91 = .ok (.ifCond .eq 9, 3) := by decide +kernel
theorem dX12_readUnit_94 : decode cX12_readUnit 94 = .ok (.sipush 3004, 3) := by decide +kernel
theorem dX12_readUnit_97 : decode cX12_readUnit 97 = .ok (.goto 6, 3) := by decide +kernel
theorem dX12_readUnit_100 : decode cX12_readUnit 100 = .ok (.sipush 3005, 3) := by decide +kernel
theorem dX12_readUnit_103 : decode cX12_readUnit 103 = .ok (.istore_n 2, 1) := by decide +kernel
theorem dX12_readUnit_104 : decode cX12_readUnit 104 = .ok (.aload_n 0, 1) := by decide +kernel
theorem dX12_readUnit_105 : decode cX12_readUnit 105 = .ok (.bipush 39, 2) := by decide +kernel
theorem dX12_readUnit_107 : decode cX12_readUnit 107 = .ok (.invokevirtual 163, 3) := by decide +kernel
theorem dX12_readUnit_110 : decode cX12_readUnit 110 = .ok (.ifCond .ne 21, 3) := by decide +kernel
theorem dX12_readUnit_113 : decode cX12_readUnit 113 = .ok (.aload_n 0, 1) := by decide +kernel
theorem dX12_readUnit_114 : decode cX12_readUnit 114 = .ok (.bipush 40, 2) := by decide +kernel
theorem dX12_readUnit_116 : decode cX12_readUnit 116 = .ok (.invokevirtual 163, 3) := by decide +kernel
theorem dX12_readUnit_119 : decode cX12_readUnit 119 = .ok (.ifCond .ne 12, 3) := by decide +kernel
theorem dX12_readUnit_122 : decode cX12_readUnit 122 = .ok (.aload_n 0, 1) := by decide +kernel
theorem dX12_readUnit_123 : decode cX12_readUnit 123 = .ok (.bipush 41, 2) := by decide +kernel
theorem dX12_readUnit_125 : decode cX12_readUnit 125 = .ok (.invokevirtual 163, 3) := by decide +kernel
theorem dX12_readUnit_128 : decode cX12_readUnit 128 = .ok (.ifCond .eq 10, 3) := by decide +kernel
theorem dX12_readUnit_131 : decode cX12_readUnit 131 = .ok (.aload_n 0, 1) := by decide +kernel
theorem dX12_readUnit_132 : decode cX12_readUnit 132 = .ok (.invokevirtual 166, 3) := by decide +kernel
theorem dX12_readUnit_135 : decode cX12_readUnit 135 = .ok (.goto 8, 3) := by decide +kernel
theorem dX12_readUnit_138 : decode cX12_readUnit 138 = .ok (.aload_n 0, 1) := by decide +kernel
theorem dX12_readUnit_139 : decode cX12_readUnit 139 = .ok (.iconst 2, 1) := by decide +kernel
theorem dX12_readUnit_140 : decode cX12_readUnit 140 = .ok (.invokevirtual 172, 3) := by decide +kernel
theorem dX12_readUnit_143 : decode cX12_readUnit 143 = .ok (.aload_n 0, 1) := by decide +kernel
theorem dX12_readUnit_144 : decode cX12_readUnit 144 = .ok (.iload_n 1, 1) := by decide +kernel
theorem dX12_readUnit_145 : decode cX12_readUnit 145 = .ok (.invokevirtual 189, 3) := by decide +kernel
theorem dX12_readUnit_148 : decode cX12_readUnit 148 = .ok (.aload_n 0, 1) := by decide +kernel
theorem dX12_readUnit_149 : decode cX12_readUnit 149 = .ok (.iload_n 2, 1) := by decide +kernel
theorem dX12_readUnit_150 : decode cX12_readUnit 150 = .ok (.invokevirtual 180, 3) := by decide +kernel
theorem dX12_readUnit_153 : decode cX12_readUnit 153 = .ok (.return_, 1) := by decide +kernel
theorem bX12_readUnit_0 {d : Nat} {P : q_Mem → Prop} {M : q_Mem} (x1 : Int) (h : q_kI yX12_is mX12_is d [qR 178, qI 18] M (fun v2 M1 => ((v2 = 0) → q_kI yX12_is mX12_is d [qR 178, qI 37] M1 (fun v4 M3 => ((v4 = 0) → q_kU yX12_readSum mX12_readSum d [qR 178, qI x1] M3 (fun M5 => q_kI yX12_is mX12_is d [qR 178, qI 39] M5 (fun v7 M6 => ((v7 = 0) → q_kI yX12_is mX12_is d [qR 178, qI 40] M6 (fun v9 M8 => ((v9 = 0) → q_v mX12_readUnit d (qPU P) M8 103 [some (qR 178), some (qI x1), none] [qI 3005]) ∧ ((¬ (v9 = 0)) → q_v mX12_readUnit d (qPU P) M8 103 [some (qR 178), some (qI x1), none] [qI 3004]))) ∧ ((¬ (v7 = 0)) → q_v mX12_readUnit d (qPU P) M6 103 [some (qR 178), some (qI x1), none] [qI 3003])))) ∧ ((¬ (v4 = 0)) → q_kI yX12_goesIn mX12_goesIn d [qR 178, qI x1] M3 (fun v11 M10 => ((¬ v11 = 0) → q_kU yX12_readTruth mX12_readTruth d [qR 178, qI (q_add x1 1)] M10 (fun M12 => q_kU yX12_wants mX12_wants d [qR 178, qI 38] M12 (fun M13 => P M13))) ∧ ((v11 = 0) → P M10))))) ∧ ((¬ (v2 = 0)) → q_kI yX12_goesIn mX12_goesIn d [qR 178, qI x1] M1 (fun v15 M14 => ((¬ v15 = 0) → q_kU yX12_readUnit mX12_readUnit d [qR 178, qI (q_add x1 1)] M14 (fun M16 => q_kU yX12_codes mX12_codes d [qR 178, qI 3006] M16 (fun M17 => P M17))) ∧ ((v15 = 0) → P M14))))) : q_v mX12_readUnit d (qPU P) M 0 [some (qR 178), some (qI x1), none] [] := by
  refine qr_aload_n 0 1 rfl (x := 178) rfl dX12_readUnit_0 ?_
  refine qr_bipush 1 3 rfl (q_l32 _ rfl) (by decide) dX12_readUnit_1 ?_
  refine qw_I 3 6 rfl (av := [qI 18]) ca_X12_is wm_1515 wp_80 wm_1513 ck12 (by decide +kernel) rfl rfl (Nat.le_of_ble_eq_true rfl) dX12_readUnit_3 h (fun v2 M1 h => ?_)
  refine qr_if_eq 6 9 33 rfl (by decide) dX12_readUnit_6 (fun c6 => ?_) (fun c6 => ?_)
  · have h := h.1 c6
    refine qr_aload_n 33 34 rfl (x := 178) rfl dX12_readUnit_33 ?_
    refine qr_bipush 34 36 rfl (q_l32 _ rfl) (by decide) dX12_readUnit_34 ?_
    refine qw_I 36 39 rfl (av := [qI 37]) ca_X12_is wm_1515 wp_80 wm_1513 ck12 (by decide +kernel) rfl rfl (Nat.le_of_ble_eq_true rfl) dX12_readUnit_36 h (fun v4 M3 h => ?_)
    refine qr_if_eq 39 42 65 rfl (by decide) dX12_readUnit_39 (fun c39 => ?_) (fun c39 => ?_)
    · have h := h.1 c39
      refine qr_aload_n 65 66 rfl (x := 178) rfl dX12_readUnit_65 ?_
      refine qr_iload_n 66 67 rfl (x := x1) rfl dX12_readUnit_66 ?_
      refine qw_U 67 70 rfl (av := [qI x1]) ca_X12_readSum wm_1559 wp_91 wm_1557 ck12 (by decide +kernel) rfl rfl (Nat.le_of_ble_eq_true rfl) dX12_readUnit_67 h (fun M5 h => ?_)
      refine qr_aload_n 70 71 rfl (x := 178) rfl dX12_readUnit_70 ?_
      refine qr_bipush 71 73 rfl (q_l32 _ rfl) (by decide) dX12_readUnit_71 ?_
      refine qw_I 73 76 rfl (av := [qI 39]) ca_X12_is wm_1515 wp_80 wm_1513 ck12 (by decide +kernel) rfl rfl (Nat.le_of_ble_eq_true rfl) dX12_readUnit_73 h (fun v7 M6 h => ?_)
      refine qr_if_eq 76 79 85 rfl (by decide) dX12_readUnit_76 (fun c76 => ?_) (fun c76 => ?_)
      · have h := h.1 c76
        refine qr_aload_n 85 86 rfl (x := 178) rfl dX12_readUnit_85 ?_
        refine qr_bipush 86 88 rfl (q_l32 _ rfl) (by decide) dX12_readUnit_86 ?_
        refine qw_I 88 91 rfl (av := [qI 40]) ca_X12_is wm_1515 wp_80 wm_1513 ck12 (by decide +kernel) rfl rfl (Nat.le_of_ble_eq_true rfl) dX12_readUnit_88 h (fun v9 M8 h => ?_)
        refine qr_if_eq 91 94 100 rfl (by decide) dX12_readUnit_91 (fun c91 => ?_) (fun c91 => ?_)
        · have h := h.1 c91
          refine qr_sipush 100 103 rfl (q_l32 _ rfl) (by decide) dX12_readUnit_100 ?_
          exact h
        · have h := h.2 c91
          refine qr_sipush 94 97 rfl (q_l32 _ rfl) (by decide) dX12_readUnit_94 ?_
          refine qr_goto 97 103 (by decide) dX12_readUnit_97 ?_
          exact h
      · have h := h.2 c76
        refine qr_sipush 79 82 rfl (q_l32 _ rfl) (by decide) dX12_readUnit_79 ?_
        refine qr_goto 82 103 (by decide) dX12_readUnit_82 ?_
        exact h
    · have h := h.2 c39
      refine qr_aload_n 42 43 rfl (x := 178) rfl dX12_readUnit_42 ?_
      refine qr_iload_n 43 44 rfl (x := x1) rfl dX12_readUnit_43 ?_
      refine qw_I 44 47 rfl (av := [qI x1]) ca_X12_goesIn wm_1578 wp_95 wm_1576 ck12 (by decide +kernel) rfl rfl (Nat.le_of_ble_eq_true rfl) dX12_readUnit_44 h (fun v11 M10 h => ?_)
      refine qr_if_ne 47 50 51 rfl (by decide) dX12_readUnit_47 (fun c47 => ?_) (fun c47 => ?_)
      · have h := h.1 c47
        refine qr_aload_n 51 52 rfl (x := 178) rfl dX12_readUnit_51 ?_
        refine qr_iload_n 52 53 rfl (x := x1) rfl dX12_readUnit_52 ?_
        refine qr_iconst 53 54 rfl (q_l32 _ rfl) dX12_readUnit_53 ?_
        refine qr_iadd 54 55 rfl dX12_readUnit_54 ?_
        refine qw_U 55 58 rfl (av := [qI (q_add x1 1)]) ca_X12_readTruth wm_1586 wp_97 wm_1584 ck12 (by decide +kernel) rfl rfl (Nat.le_of_ble_eq_true rfl) dX12_readUnit_55 h (fun M12 h => ?_)
        refine qr_aload_n 58 59 rfl (x := 178) rfl dX12_readUnit_58 ?_
        refine qr_bipush 59 61 rfl (q_l32 _ rfl) (by decide) dX12_readUnit_59 ?_
        refine qw_U 61 64 rfl (av := [qI 38]) ca_X12_wants wm_1507 wp_78 wm_1505 ck12 (by decide +kernel) rfl rfl (Nat.le_of_ble_eq_true rfl) dX12_readUnit_61 h (fun M13 h => ?_)
        exact qe_u 64 rfl dX12_readUnit_64 h
      · have h := h.2 c47
        exact qe_u 50 rfl dX12_readUnit_50 h
  · have h := h.2 c6
    refine qr_aload_n 9 10 rfl (x := 178) rfl dX12_readUnit_9 ?_
    refine qr_iload_n 10 11 rfl (x := x1) rfl dX12_readUnit_10 ?_
    refine qw_I 11 14 rfl (av := [qI x1]) ca_X12_goesIn wm_1578 wp_95 wm_1576 ck12 (by decide +kernel) rfl rfl (Nat.le_of_ble_eq_true rfl) dX12_readUnit_11 h (fun v15 M14 h => ?_)
    refine qr_if_ne 14 17 18 rfl (by decide) dX12_readUnit_14 (fun c14 => ?_) (fun c14 => ?_)
    · have h := h.1 c14
      refine qr_aload_n 18 19 rfl (x := 178) rfl dX12_readUnit_18 ?_
      refine qr_iload_n 19 20 rfl (x := x1) rfl dX12_readUnit_19 ?_
      refine qr_iconst 20 21 rfl (q_l32 _ rfl) dX12_readUnit_20 ?_
      refine qr_iadd 21 22 rfl dX12_readUnit_21 ?_
      refine qw_U 22 25 rfl (av := [qI (q_add x1 1)]) ca_X12_readUnit wm_1594 wp_99 wm_1592 ck12 (by decide +kernel) rfl rfl (Nat.le_of_ble_eq_true rfl) dX12_readUnit_22 h (fun M16 h => ?_)
      refine qr_aload_n 25 26 rfl (x := 178) rfl dX12_readUnit_25 ?_
      refine qr_sipush 26 29 rfl (q_l32 _ rfl) (by decide) dX12_readUnit_26 ?_
      refine qw_U 29 32 rfl (av := [qI 3006]) ca_X12_codes wm_1571 wp_94 wm_1569 ck12 (by decide +kernel) rfl rfl (Nat.le_of_ble_eq_true rfl) dX12_readUnit_29 h (fun M17 h => ?_)
      exact qe_u 32 rfl dX12_readUnit_32 h
    · have h := h.2 c14
      exact qe_u 17 rfl dX12_readUnit_17 h
theorem bX12_readUnit_103 {d : Nat} {P : q_Mem → Prop} {M : q_Mem} (x1 y0 : Int) (h : q_kI yX12_is mX12_is d [qR 178, qI 39] M (fun v2 M1 => ((¬ v2 = 0) → q_v mX12_readUnit d (qPU P) M1 131 [some (qR 178), some (qI x1), some (qI y0)] []) ∧ ((v2 = 0) → q_kI yX12_is mX12_is d [qR 178, qI 40] M1 (fun v4 M3 => ((¬ v4 = 0) → q_v mX12_readUnit d (qPU P) M3 131 [some (qR 178), some (qI x1), some (qI y0)] []) ∧ ((v4 = 0) → q_kI yX12_is mX12_is d [qR 178, qI 41] M3 (fun v6 M5 => ((v6 = 0) → q_kU yX12_fails mX12_fails d [qR 178, qI 2] M5 (fun M7 => q_v mX12_readUnit d (qPU P) M7 143 [some (qR 178), some (qI x1), some (qI y0)] [])) ∧ ((¬ (v6 = 0)) → q_v mX12_readUnit d (qPU P) M5 131 [some (qR 178), some (qI x1), some (qI y0)] []))))))) : q_v mX12_readUnit d (qPU P) M 103 [some (qR 178), some (qI x1), none] [qI y0] := by
  refine qr_istore_n 103 104 rfl (by decide) rfl rfl dX12_readUnit_103 ?_
  refine qr_aload_n 104 105 rfl (x := 178) rfl dX12_readUnit_104 ?_
  refine qr_bipush 105 107 rfl (q_l32 _ rfl) (by decide) dX12_readUnit_105 ?_
  refine qw_I 107 110 rfl (av := [qI 39]) ca_X12_is wm_1515 wp_80 wm_1513 ck12 (by decide +kernel) rfl rfl (Nat.le_of_ble_eq_true rfl) dX12_readUnit_107 h (fun v2 M1 h => ?_)
  refine qr_if_ne 110 113 131 rfl (by decide) dX12_readUnit_110 (fun c110 => ?_) (fun c110 => ?_)
  · have h := h.1 c110
    exact h
  · have h := h.2 c110
    refine qr_aload_n 113 114 rfl (x := 178) rfl dX12_readUnit_113 ?_
    refine qr_bipush 114 116 rfl (q_l32 _ rfl) (by decide) dX12_readUnit_114 ?_
    refine qw_I 116 119 rfl (av := [qI 40]) ca_X12_is wm_1515 wp_80 wm_1513 ck12 (by decide +kernel) rfl rfl (Nat.le_of_ble_eq_true rfl) dX12_readUnit_116 h (fun v4 M3 h => ?_)
    refine qr_if_ne 119 122 131 rfl (by decide) dX12_readUnit_119 (fun c119 => ?_) (fun c119 => ?_)
    · have h := h.1 c119
      exact h
    · have h := h.2 c119
      refine qr_aload_n 122 123 rfl (x := 178) rfl dX12_readUnit_122 ?_
      refine qr_bipush 123 125 rfl (q_l32 _ rfl) (by decide) dX12_readUnit_123 ?_
      refine qw_I 125 128 rfl (av := [qI 41]) ca_X12_is wm_1515 wp_80 wm_1513 ck12 (by decide +kernel) rfl rfl (Nat.le_of_ble_eq_true rfl) dX12_readUnit_125 h (fun v6 M5 h => ?_)
      refine qr_if_eq 128 131 138 rfl (by decide) dX12_readUnit_128 (fun c128 => ?_) (fun c128 => ?_)
      · have h := h.1 c128
        refine qr_aload_n 138 139 rfl (x := 178) rfl dX12_readUnit_138 ?_
        refine qr_iconst 139 140 rfl (q_l32 _ rfl) dX12_readUnit_139 ?_
        refine qw_U 140 143 rfl (av := [qI 2]) ca_X12_fails wm_1519 wp_81 wm_1517 ck12 (by decide +kernel) rfl rfl (Nat.le_of_ble_eq_true rfl) dX12_readUnit_140 h (fun M7 h => ?_)
        exact h
      · have h := h.2 c128
        exact h
theorem bX12_readUnit_131 {d : Nat} {P : q_Mem → Prop} {M : q_Mem} (x1 x2 : Int) (h : q_kU yX12_goes mX12_goes d [qR 178] M (fun M1 => q_v mX12_readUnit d (qPU P) M1 143 [some (qR 178), some (qI x1), some (qI x2)] [])) : q_v mX12_readUnit d (qPU P) M 131 [some (qR 178), some (qI x1), some (qI x2)] [] := by
  refine qr_aload_n 131 132 rfl (x := 178) rfl dX12_readUnit_131 ?_
  refine qw_U 132 135 rfl (av := []) ca_X12_goes wm_1485 wp_75 wm_1483 ck12 (by decide +kernel) rfl rfl (Nat.le_of_ble_eq_true rfl) dX12_readUnit_132 h (fun M1 h => ?_)
  refine qr_goto 135 143 (by decide) dX12_readUnit_135 ?_
  exact h
theorem bX12_readUnit_143 {d : Nat} {P : q_Mem → Prop} {M : q_Mem} (x1 x2 : Int) (h : q_kU yX12_readSum mX12_readSum d [qR 178, qI x1] M (fun M1 => q_kU yX12_codes mX12_codes d [qR 178, qI x2] M1 (fun M2 => P M2))) : q_v mX12_readUnit d (qPU P) M 143 [some (qR 178), some (qI x1), some (qI x2)] [] := by
  refine qr_aload_n 143 144 rfl (x := 178) rfl dX12_readUnit_143 ?_
  refine qr_iload_n 144 145 rfl (x := x1) rfl dX12_readUnit_144 ?_
  refine qw_U 145 148 rfl (av := [qI x1]) ca_X12_readSum wm_1559 wp_91 wm_1557 ck12 (by decide +kernel) rfl rfl (Nat.le_of_ble_eq_true rfl) dX12_readUnit_145 h (fun M1 h => ?_)
  refine qr_aload_n 148 149 rfl (x := 178) rfl dX12_readUnit_148 ?_
  refine qr_iload_n 149 150 rfl (x := x2) rfl dX12_readUnit_149 ?_
  refine qw_U 150 153 rfl (av := [qI x2]) ca_X12_codes wm_1571 wp_94 wm_1569 ck12 (by decide +kernel) rfl rfl (Nat.le_of_ble_eq_true rfl) dX12_readUnit_150 h (fun M2 h => ?_)
  exact qe_u 153 rfl dX12_readUnit_153 h
theorem dX12_readBoth_0 : decode cX12_readBoth 0 = .ok (.aload_n 0, 1) := by decide +kernel
theorem dX12_readBoth_1 : decode cX12_readBoth 1 = .ok (.iload_n 1, 1) := by decide +kernel
theorem dX12_readBoth_2 : decode cX12_readBoth 2 = .ok (.invokevirtual 207, 3) := by decide +kernel
theorem dX12_readBoth_5 : decode cX12_readBoth 5 = .ok (.aload_n 0, 1) := by decide +kernel
theorem dX12_readBoth_6 : decode cX12_readBoth 6 = .ok (.bipush 16, 2) := by decide +kernel
theorem dX12_readBoth_8 : decode cX12_readBoth 8 = .ok (.invokevirtual 169, 3) := by decide +kernel
theorem dX12_readBoth_11 : decode cX12_readBoth 11 = .ok (.ifCond .eq 18, 3) := by decide +kernel
theorem dX12_readBoth_14 : decode cX12_readBoth 14 = .ok (.aload_n 0, 1) := by decide +kernel
theorem dX12_readBoth_15 : decode cX12_readBoth 15 = .ok (.iload_n 1, 1) := by decide +kernel
theorem dX12_readBoth_16 : decode cX12_readBoth 16 = .ok (.invokevirtual 207, 3) := by decide +kernel
theorem dX12_readBoth_19 : decode cX12_readBoth 19 = .ok (.aload_n 0, 1) := by decide +kernel
theorem dX12_readBoth_20 : decode cX12_readBoth 20 = .ok (.sipush 3007, 3) := by decide +kernel
theorem dX12_readBoth_23 : decode cX12_readBoth 23 = .ok (.invokevirtual 180, 3) := by decide +kernel
theorem dX12_readBoth_26 : decode cX12_readBoth 26 = .ok (.goto (-21), 3) := by decide +kernel
theorem dX12_readBoth_29 : decode cX12_readBoth 29 = .ok (.return_, 1) := by decide +kernel
theorem bX12_readBoth_0 {d : Nat} {P : q_Mem → Prop} {M : q_Mem} (x1 : Int) (h : q_kU yX12_readUnit mX12_readUnit d [qR 178, qI x1] M (fun M1 => q_v mX12_readBoth d (qPU P) M1 5 [some (qR 178), some (qI x1)] [])) : q_v mX12_readBoth d (qPU P) M 0 [some (qR 178), some (qI x1)] [] := by
  refine qr_aload_n 0 1 rfl (x := 178) rfl dX12_readBoth_0 ?_
  refine qr_iload_n 1 2 rfl (x := x1) rfl dX12_readBoth_1 ?_
  refine qw_U 2 5 rfl (av := [qI x1]) ca_X12_readUnit wm_1594 wp_99 wm_1592 ck12 (by decide +kernel) rfl rfl (Nat.le_of_ble_eq_true rfl) dX12_readBoth_2 h (fun M1 h => ?_)
  exact h
theorem bX12_readBoth_5 {d : Nat} {P : q_Mem → Prop} {M : q_Mem} (x1 : Int) (h : q_kI yX12_eats mX12_eats d [qR 178, qI 16] M (fun v2 M1 => ((v2 = 0) → P M1) ∧ ((¬ (v2 = 0)) → q_kU yX12_readUnit mX12_readUnit d [qR 178, qI x1] M1 (fun M3 => q_kU yX12_codes mX12_codes d [qR 178, qI 3007] M3 (fun M4 => q_v mX12_readBoth d (qPU P) M4 5 [some (qR 178), some (qI x1)] []))))) : q_v mX12_readBoth d (qPU P) M 5 [some (qR 178), some (qI x1)] [] := by
  refine qr_aload_n 5 6 rfl (x := 178) rfl dX12_readBoth_5 ?_
  refine qr_bipush 6 8 rfl (q_l32 _ rfl) (by decide) dX12_readBoth_6 ?_
  refine qw_I 8 11 rfl (av := [qI 16]) ca_X12_eats wm_1511 wp_79 wm_1509 ck12 (by decide +kernel) rfl rfl (Nat.le_of_ble_eq_true rfl) dX12_readBoth_8 h (fun v2 M1 h => ?_)
  refine qr_if_eq 11 14 29 rfl (by decide) dX12_readBoth_11 (fun c11 => ?_) (fun c11 => ?_)
  · have h := h.1 c11
    exact qe_u 29 rfl dX12_readBoth_29 h
  · have h := h.2 c11
    refine qr_aload_n 14 15 rfl (x := 178) rfl dX12_readBoth_14 ?_
    refine qr_iload_n 15 16 rfl (x := x1) rfl dX12_readBoth_15 ?_
    refine qw_U 16 19 rfl (av := [qI x1]) ca_X12_readUnit wm_1594 wp_99 wm_1592 ck12 (by decide +kernel) rfl rfl (Nat.le_of_ble_eq_true rfl) dX12_readBoth_16 h (fun M3 h => ?_)
    refine qr_aload_n 19 20 rfl (x := 178) rfl dX12_readBoth_19 ?_
    refine qr_sipush 20 23 rfl (q_l32 _ rfl) (by decide) dX12_readBoth_20 ?_
    refine qw_U 23 26 rfl (av := [qI 3007]) ca_X12_codes wm_1571 wp_94 wm_1569 ck12 (by decide +kernel) rfl rfl (Nat.le_of_ble_eq_true rfl) dX12_readBoth_23 h (fun M4 h => ?_)
    refine qr_goto 26 5 (by decide) dX12_readBoth_26 ?_
    exact h
theorem dX12_readTruth_0 : decode cX12_readTruth 0 = .ok (.aload_n 0, 1) := by decide +kernel
theorem dX12_readTruth_1 : decode cX12_readTruth 1 = .ok (.iload_n 1, 1) := by decide +kernel
theorem dX12_readTruth_2 : decode cX12_readTruth 2 = .ok (.invokevirtual 210, 3) := by decide +kernel
theorem dX12_readTruth_5 : decode cX12_readTruth 5 = .ok (.aload_n 0, 1) := by decide +kernel
theorem dX12_readTruth_6 : decode cX12_readTruth 6 = .ok (.bipush 17, 2) := by decide +kernel
theorem dX12_readTruth_8 : decode cX12_readTruth 8 = .ok (.invokevirtual 169, 3) := by decide +kernel
theorem dX12_readTruth_11 : decode cX12_readTruth 11 = .ok (.ifCond .eq 18, 3) := by decide +kernel
theorem dX12_readTruth_14 : decode cX12_readTruth 14 = .ok (.aload_n 0, 1) := by decide +kernel
theorem dX12_readTruth_15 : decode cX12_readTruth 15 = .ok (.iload_n 1, 1) := by decide +kernel
theorem dX12_readTruth_16 : decode cX12_readTruth 16 = .ok (.invokevirtual 210, 3) := by decide +kernel
theorem dX12_readTruth_19 : decode cX12_readTruth 19 = .ok (.aload_n 0, 1) := by decide +kernel
theorem dX12_readTruth_20 : decode cX12_readTruth 20 = .ok (.sipush 3008, 3) := by decide +kernel
theorem dX12_readTruth_23 : decode cX12_readTruth 23 = .ok (.invokevirtual 180, 3) := by decide +kernel
theorem dX12_readTruth_26 : decode cX12_readTruth 26 = .ok (.goto (-21), 3) := by decide +kernel
theorem dX12_readTruth_29 : decode cX12_readTruth 29 = .ok (.return_, 1) := by decide +kernel
theorem bX12_readTruth_0 {d : Nat} {P : q_Mem → Prop} {M : q_Mem} (x1 : Int) (h : q_kU yX12_readBoth mX12_readBoth d [qR 178, qI x1] M (fun M1 => q_v mX12_readTruth d (qPU P) M1 5 [some (qR 178), some (qI x1)] [])) : q_v mX12_readTruth d (qPU P) M 0 [some (qR 178), some (qI x1)] [] := by
  refine qr_aload_n 0 1 rfl (x := 178) rfl dX12_readTruth_0 ?_
  refine qr_iload_n 1 2 rfl (x := x1) rfl dX12_readTruth_1 ?_
  refine qw_U 2 5 rfl (av := [qI x1]) ca_X12_readBoth wm_1590 wp_98 wm_1588 ck12 (by decide +kernel) rfl rfl (Nat.le_of_ble_eq_true rfl) dX12_readTruth_2 h (fun M1 h => ?_)
  exact h
theorem bX12_readTruth_5 {d : Nat} {P : q_Mem → Prop} {M : q_Mem} (x1 : Int) (h : q_kI yX12_eats mX12_eats d [qR 178, qI 17] M (fun v2 M1 => ((v2 = 0) → P M1) ∧ ((¬ (v2 = 0)) → q_kU yX12_readBoth mX12_readBoth d [qR 178, qI x1] M1 (fun M3 => q_kU yX12_codes mX12_codes d [qR 178, qI 3008] M3 (fun M4 => q_v mX12_readTruth d (qPU P) M4 5 [some (qR 178), some (qI x1)] []))))) : q_v mX12_readTruth d (qPU P) M 5 [some (qR 178), some (qI x1)] [] := by
  refine qr_aload_n 5 6 rfl (x := 178) rfl dX12_readTruth_5 ?_
  refine qr_bipush 6 8 rfl (q_l32 _ rfl) (by decide) dX12_readTruth_6 ?_
  refine qw_I 8 11 rfl (av := [qI 17]) ca_X12_eats wm_1511 wp_79 wm_1509 ck12 (by decide +kernel) rfl rfl (Nat.le_of_ble_eq_true rfl) dX12_readTruth_8 h (fun v2 M1 h => ?_)
  refine qr_if_eq 11 14 29 rfl (by decide) dX12_readTruth_11 (fun c11 => ?_) (fun c11 => ?_)
  · have h := h.1 c11
    exact qe_u 29 rfl dX12_readTruth_29 h
  · have h := h.2 c11
    refine qr_aload_n 14 15 rfl (x := 178) rfl dX12_readTruth_14 ?_
    refine qr_iload_n 15 16 rfl (x := x1) rfl dX12_readTruth_15 ?_
    refine qw_U 16 19 rfl (av := [qI x1]) ca_X12_readBoth wm_1590 wp_98 wm_1588 ck12 (by decide +kernel) rfl rfl (Nat.le_of_ble_eq_true rfl) dX12_readTruth_16 h (fun M3 h => ?_)
    refine qr_aload_n 19 20 rfl (x := 178) rfl dX12_readTruth_19 ?_
    refine qr_sipush 20 23 rfl (q_l32 _ rfl) (by decide) dX12_readTruth_20 ?_
    refine qw_U 23 26 rfl (av := [qI 3008]) ca_X12_codes wm_1571 wp_94 wm_1569 ck12 (by decide +kernel) rfl rfl (Nat.le_of_ble_eq_true rfl) dX12_readTruth_23 h (fun M4 h => ?_)
    refine qr_goto 26 5 (by decide) dX12_readTruth_26 ?_
    exact h
theorem dX12_readNode_0 : decode cX12_readNode 0 = .ok (.aload_n 0, 1) := by decide +kernel
theorem dX12_readNode_1 : decode cX12_readNode 1 = .ok (.getfield 24, 3) := by decide +kernel
theorem dX12_readNode_4 : decode cX12_readNode 4 = .ok (.bipush 51, 2) := by decide +kernel
theorem dX12_readNode_6 : decode cX12_readNode 6 = .ok (.iaload, 1) := by decide +kernel
theorem dX12_readNode_7 : decode cX12_readNode 7 = .ok (.bipush 10, 2) := by decide +kernel
theorem dX12_readNode_9 : decode cX12_readNode 9 = .ok (.if_icmp .ne 8, 3) := by decide +kernel
theorem dX12_readNode_12 : decode cX12_readNode 12 = .ok (.aload_n 0, 1) := by decide +kernel
theorem dX12_readNode_13 : decode cX12_readNode 13 = .ok (.iconst 4, 1) := by decide +kernel
theorem dX12_readNode_14 : decode cX12_readNode 14 = .ok (.invokevirtual 172, 3) := by decide +kernel
theorem dX12_readNode_17 : decode cX12_readNode 17 = .ok (.aload_n 0, 1) := by decide +kernel
theorem dX12_readNode_18 : decode cX12_readNode 18 = .ok (.getfield 157, 3) := by decide +kernel
theorem dX12_readNode_21 : decode cX12_readNode 21 = .ok (.ifCond .eq 4, 3) := by decide +kernel
theorem dX12_readNode_24 : decode cX12_readNode 24 = .ok (.return_, 1) := by decide +kernel
theorem dX12_readNode_25 : decode cX12_readNode 25 = .ok (.aload_n 0, 1) := by decide +kernel
theorem dX12_readNode_26 : decode cX12_readNode 26 = .ok (.invokevirtual 166, 3) := by decide +kernel
theorem dX12_readNode_29 : decode cX12_readNode 29 = .ok (.aload_n 0, 1) := by decide +kernel
theorem dX12_readNode_30 : decode cX12_readNode 30 = .ok (.getfield 24, 3) := by decide +kernel
theorem dX12_readNode_33 : decode cX12_readNode 33 = .ok (.bipush 51, 2) := by decide +kernel
theorem dX12_readNode_35 : decode cX12_readNode 35 = .ok (.dup2, 1) := by decide +kernel
theorem dX12_readNode_36 : decode cX12_readNode 36 = .ok (.iaload, 1) := by decide +kernel
theorem dX12_readNode_37 : decode cX12_readNode 37 = .ok (.iconst 1, 1) := by decide +kernel
theorem dX12_readNode_38 : decode cX12_readNode 38 = .ok (.iadd, 1) := by decide +kernel
theorem dX12_readNode_39 : decode cX12_readNode 39 = .ok (.iastore, 1) := by decide +kernel
theorem dX12_readNode_40 : decode cX12_readNode 40 = .ok (.return_, 1) := by decide +kernel
theorem bX12_readNode_0 {d : Nat} {P : q_Mem → Prop} {M : q_Mem} (h : (((¬ (M 182 51) = (10 : Int)) → q_v mX12_readNode d (qPU P) M 17 [some (qR 178)] []) ∧ (((M 182 51) = (10 : Int)) → q_kU yX12_fails mX12_fails d [qR 178, qI 4] M (fun M1 => q_v mX12_readNode d (qPU P) M1 17 [some (qR 178)] [])))) : q_v mX12_readNode d (qPU P) M 0 [some (qR 178)] [] := by
  refine qr_aload_n 0 1 rfl (x := 178) rfl dX12_readNode_0 ?_
  refine qr_getF 1 4 rfl ck12 4 (by decide) (b := 182) (by decide +kernel) rfl (by decide +kernel) (by decide +kernel) wm_1330 rfl dX12_readNode_1 ?_
  refine qr_bipush 4 6 rfl (q_l32 _ rfl) (by decide) dX12_readNode_4 ?_
  refine qi_ld 6 7 rfl (N := 1504) (by decide +kernel) (by decide +kernel) (by decide) (by decide) dX12_readNode_6 ?_
  refine qr_bipush 7 9 rfl (q_l32 _ rfl) (by decide) dX12_readNode_7 ?_
  refine qr_icmp_ne 9 12 17 rfl (by decide) dX12_readNode_9 (fun c9 => ?_) (fun c9 => ?_)
  · have h := h.1 c9
    exact h
  · have h := h.2 c9
    refine qr_aload_n 12 13 rfl (x := 178) rfl dX12_readNode_12 ?_
    refine qr_iconst 13 14 rfl (q_l32 _ rfl) dX12_readNode_13 ?_
    refine qw_U 14 17 rfl (av := [qI 4]) ca_X12_fails wm_1519 wp_81 wm_1517 ck12 (by decide +kernel) rfl rfl (Nat.le_of_ble_eq_true rfl) dX12_readNode_14 h (fun M1 h => ?_)
    exact h
theorem bX12_readNode_17 {d : Nat} {P : q_Mem → Prop} {M : q_Mem} (h : (((M 178 13) = 0) → q_kU yX12_goes mX12_goes d [qR 178] M (fun M1 => ((∀ M2 : q_Mem, M2 = q_up M1 182 51 (q_add (M1 182 51) 1) → P M2)))) ∧ ((¬ ((M 178 13) = 0)) → P M)) : q_v mX12_readNode d (qPU P) M 17 [some (qR 178)] [] := by
  refine qr_aload_n 17 18 rfl (x := 178) rfl dX12_readNode_17 ?_
  refine qg_i 18 21 rfl ck12 13 (kk := 13) (by decide) (by decide +kernel) (by decide +kernel) rfl wm_1339 rfl dX12_readNode_18 ?_
  refine qr_if_eq 21 24 25 rfl (by decide) dX12_readNode_21 (fun c21 => ?_) (fun c21 => ?_)
  · have h := h.1 c21
    refine qr_aload_n 25 26 rfl (x := 178) rfl dX12_readNode_25 ?_
    refine qw_U 26 29 rfl (av := []) ca_X12_goes wm_1485 wp_75 wm_1483 ck12 (by decide +kernel) rfl rfl (Nat.le_of_ble_eq_true rfl) dX12_readNode_26 h (fun M1 h => ?_)
    refine qr_aload_n 29 30 rfl (x := 178) rfl dX12_readNode_29 ?_
    refine qr_getF 30 33 rfl ck12 4 (by decide) (b := 182) (by decide +kernel) rfl (by decide +kernel) (by decide +kernel) wm_1330 rfl dX12_readNode_30 ?_
    refine qr_bipush 33 35 rfl (q_l32 _ rfl) (by decide) dX12_readNode_33 ?_
    refine qr_dup2 35 36 rfl rfl rfl dX12_readNode_35 ?_
    refine qi_ld 36 37 rfl (N := 1504) (by decide +kernel) (by decide +kernel) (by decide) (by decide) dX12_readNode_36 ?_
    refine qr_iconst 37 38 rfl (q_l32 _ rfl) dX12_readNode_37 ?_
    refine qr_iadd 38 39 rfl dX12_readNode_38 ?_
    refine qi_st 39 40 rfl (N := 1504) (by decide +kernel) (by decide +kernel) (by decide) (by decide) dX12_readNode_39 (fun M2 e_M2 => ?_)
    have h := h M2 e_M2
    exact qe_u 40 rfl dX12_readNode_40 h
  · have h := h.2 c21
    exact qe_u 24 rfl dX12_readNode_24 h
theorem dX12_readLink_0 : decode cX12_readLink 0 = .ok (.aload_n 0, 1) := by decide +kernel
theorem dX12_readLink_1 : decode cX12_readLink 1 = .ok (.getfield 24, 3) := by decide +kernel
theorem dX12_readLink_4 : decode cX12_readLink 4 = .ok (.bipush 52, 2) := by decide +kernel
theorem dX12_readLink_6 : decode cX12_readLink 6 = .ok (.iaload, 1) := by decide +kernel
theorem dX12_readLink_7 : decode cX12_readLink 7 = .ok (.istore_n 1, 1) := by decide +kernel
theorem dX12_readLink_8 : decode cX12_readLink 8 = .ok (.iload_n 1, 1) := by decide +kernel
theorem dX12_readLink_9 : decode cX12_readLink 9 = .ok (.bipush 16, 2) := by decide +kernel
theorem dX12_readLink_11 : decode cX12_readLink 11 = .ok (.if_icmp .ne 8, 3) := by decide +kernel
theorem dX12_readLink_14 : decode cX12_readLink 14 = .ok (.aload_n 0, 1) := by decide +kernel
theorem dX12_readLink_15 : decode cX12_readLink 15 = .ok (.iconst 4, 1) := by decide +kernel
theorem dX12_readLink_16 : decode cX12_readLink 16 = .ok (.invokevirtual 172, 3) := by decide +kernel
theorem dX12_readLink_19 : decode cX12_readLink 19 = .ok (.aload_n 0, 1) := by decide +kernel
theorem dX12_readLink_20 : decode cX12_readLink 20 = .ok (.getfield 157, 3) := by decide +kernel
theorem dX12_readLink_23 : decode cX12_readLink 23 = .ok (.ifCond .eq 4, 3) := by decide +kernel
theorem dX12_readLink_26 : decode cX12_readLink 26 = .ok (.return_, 1) := by decide +kernel
theorem dX12_readLink_27 : decode cX12_readLink 27 = .ok (.aload_n 0, 1) := by decide +kernel
theorem dX12_readLink_28 : decode cX12_readLink 28 = .ok (.invokevirtual 166, 3) := by decide +kernel
theorem dX12_readLink_31 : decode cX12_readLink 31 = .ok (.aload_n 0, 1) := by decide +kernel
theorem dX12_readLink_32 : decode cX12_readLink 32 = .ok (.getfield 24, 3) := by decide +kernel
theorem dX12_readLink_35 : decode cX12_readLink 35 = .ok (.bipush 53, 2) := by decide +kernel
theorem dX12_readLink_37 : decode cX12_readLink 37 = .ok (.iload_n 1, 1) := by decide +kernel
theorem dX12_readLink_38 : decode cX12_readLink 38 = .ok (.iadd, 1) := by decide +kernel
theorem dX12_readLink_39 : decode cX12_readLink 39 = .ok (.aload_n 0, 1) := by decide +kernel
theorem dX12_readLink_40 : decode cX12_readLink 40 = .ok (.iconst 0, 1) := by decide +kernel
theorem dX12_readLink_41 : decode cX12_readLink 41 = .ok (.aload_n 0, 1) := by decide +kernel
theorem dX12_readLink_42 : decode cX12_readLink 42 = .ok (.getfield 24, 3) := by decide +kernel
theorem dX12_readLink_45 : decode cX12_readLink 45 = .ok (.bipush 51, 2) := by decide +kernel
theorem dX12_readLink_47 : decode cX12_readLink 47 = .ok (.iaload, 1) := by decide +kernel
theorem dX12_readLink_48 : decode cX12_readLink 48 = .ok (.iconst 1, 1) := by decide +kernel
theorem dX12_readLink_49 : decode cX12_readLink 49 = .ok (.isub, 1) := by decide +kernel
theorem dX12_readLink_50 : decode cX12_readLink 50 = .ok (.invokevirtual 213, 3) := by decide +kernel
theorem dX12_readLink_53 : decode cX12_readLink 53 = .ok (.iastore, 1) := by decide +kernel
theorem dX12_readLink_54 : decode cX12_readLink 54 = .ok (.aload_n 0, 1) := by decide +kernel
theorem dX12_readLink_55 : decode cX12_readLink 55 = .ok (.bipush 20, 2) := by decide +kernel
theorem dX12_readLink_57 : decode cX12_readLink 57 = .ok (.invokevirtual 163, 3) := by decide +kernel
theorem dX12_readLink_60 : decode cX12_readLink 60 = .ok (.ifCond .eq 24, 3) := by decide +kernel
theorem dX12_readLink_63 : decode cX12_readLink 63 = .ok (.aload_n 0, 1) := by decide +kernel
theorem dX12_readLink_64 : decode cX12_readLink 64 = .ok (.getfield 152, 3) := by decide +kernel
theorem dX12_readLink_67 : decode cX12_readLink 67 = .ok (.aload_n 0, 1) := by decide +kernel
theorem dX12_readLink_68 : decode cX12_readLink 68 = .ok (.getfield 24, 3) := by decide +kernel
theorem dX12_readLink_71 : decode cX12_readLink 71 = .ok (.bipush 53, 2) := by decide +kernel
theorem dX12_readLink_73 : decode cX12_readLink 73 = .ok (.iload_n 1, 1) := by decide +kernel
theorem dX12_readLink_74 : decode cX12_readLink 74 = .ok (.iadd, 1) := by decide +kernel
theorem dX12_readLink_75 : decode cX12_readLink 75 = .ok (.iaload, 1) := by decide +kernel
theorem dX12_readLink_76 : decode cX12_readLink 76 = .ok (.if_icmp .ne 8, 3) := by decide +kernel
theorem dX12_readLink_79 : decode cX12_readLink 79 = .ok (.aload_n 0, 1) := by decide +kernel
theorem dX12_readLink_80 : decode cX12_readLink 80 = .ok (.iconst 3, 1) := by decide +kernel
theorem dX12_readLink_81 : decode cX12_readLink 81 = .ok (.invokevirtual 172, 3) := by decide +kernel
theorem dX12_readLink_84 : decode cX12_readLink 84 = .ok (.aload_n 0, 1) := by decide +kernel
theorem dX12_readLink_85 : decode cX12_readLink 85 = .ok (.getfield 24, 3) := by decide +kernel
theorem dX12_readLink_88 : decode cX12_readLink 88 = .ok (.bipush 69, 2) := by decide +kernel
theorem dX12_readLink_90 : decode cX12_readLink 90 = .ok (.iload_n 1, 1) := by decide +kernel
theorem dX12_readLink_91 : decode cX12_readLink 91 = .ok (.iadd, 1) := by decide +kernel
theorem dX12_readLink_92 : decode cX12_readLink 92 = .ok (.aload_n 0, 1) := by decide +kernel
theorem dX12_readLink_93 : decode cX12_readLink 93 = .ok (.iconst 0, 1) := by decide +kernel
theorem dX12_readLink_94 : decode cX12_readLink 94 = .ok (.aload_n 0, 1) := by decide +kernel
theorem dX12_readLink_95 : decode cX12_readLink 95 = .ok (.getfield 24, 3) := by decide +kernel
theorem dX12_readLink_98 : decode cX12_readLink 98 = .ok (.bipush 51, 2) := by decide +kernel
theorem dX12_readLink_100 : decode cX12_readLink 100 = .ok (.iaload, 1) := by decide +kernel
theorem dX12_readLink_101 : decode cX12_readLink 101 = .ok (.iconst 1, 1) := by decide +kernel
theorem dX12_readLink_102 : decode cX12_readLink 102 = .ok (.isub, 1) := by decide +kernel
theorem dX12_readLink_103 : decode cX12_readLink 103 = .ok (.invokevirtual 213, 3) := by decide +kernel
theorem dX12_readLink_106 : decode cX12_readLink 106 = .ok (.iastore, 1) := by decide +kernel
theorem dX12_readLink_107 : decode cX12_readLink 107 = .ok (.aload_n 0, 1) := by decide +kernel
theorem dX12_readLink_108 : decode cX12_readLink 108 = .ok (.iconst 5, 1) := by decide +kernel
theorem dX12_readLink_109 : decode cX12_readLink 109 = .ok (.invokevirtual 163, 3) := by decide +kernel
theorem dX12_readLink_112 : decode cX12_readLink 112 = .ok (.istore_n 2, 1) := by decide +kernel
theorem dX12_readLink_113 : decode cX12_readLink 113 = .ok (.aload_n 0, 1) := by decide +kernel
theorem dX12_readLink_114 : decode cX12_readLink 114 = .ok (.iconst 4, 1) := by decide +kernel
theorem dX12_readLink_115 : decode cX12_readLink 115 = .ok (.invokevirtual 169, 3) := by decide +kernel
theorem dX12_readLink_118 : decode cX12_readLink 118 = .ok (.ifCond .ne 16, 3) := by decide +kernel
theorem dX12_readLink_121 : decode cX12_readLink 121 = .ok (.aload_n 0, 1) := by decide +kernel
theorem dX12_readLink_122 : decode cX12_readLink 122 = .ok (.iconst 5, 1) := by decide +kernel
theorem dX12_readLink_123 : decode cX12_readLink 123 = .ok (.invokevirtual 169, 3) := by decide +kernel
theorem dX12_readLink_126 : decode cX12_readLink 126 = .ok (.ifCond .ne 8, 3) := by decide +kernel
theorem dX12_readLink_129 : decode cX12_readLink 129 = .ok (.aload_n 0, 1) := by decide +kernel
theorem dX12_readLink_130 : decode cX12_readLink 130 = .ok (.iconst 2, 1) := by decide +kernel
theorem dX12_readLink_131 : decode cX12_readLink 131 = .ok (.invokevirtual 172, 3) := by decide +kernel
theorem dX12_readLink_134 : decode cX12_readLink 134 = .ok (.aload_n 0, 1) := by decide +kernel
theorem dX12_readLink_135 : decode cX12_readLink 135 = .ok (.iconst 0, 1) := by decide +kernel
theorem dX12_readLink_136 : decode cX12_readLink 136 = .ok (.bipush 99, 2) := by decide +kernel
theorem dX12_readLink_138 : decode cX12_readLink 138 = .ok (.invokevirtual 213, 3) := by decide +kernel
theorem dX12_readLink_141 : decode cX12_readLink 141 = .ok (.istore_n 3, 1) := by decide +kernel
theorem dX12_readLink_142 : decode cX12_readLink 142 = .ok (.aload_n 0, 1) := by decide +kernel
theorem dX12_readLink_143 : decode cX12_readLink 143 = .ok (.getfield 24, 3) := by decide +kernel
theorem dX12_readLink_146 : decode cX12_readLink 146 = .ok (.iconst 3, 1) := by decide +kernel
theorem dX12_readLink_147 : decode cX12_readLink 147 = .ok (.iload_n 1, 1) := by decide +kernel
theorem dX12_readLink_148 : decode cX12_readLink 148 = .ok (.iadd, 1) := by decide +kernel
theorem dX12_readLink_149 : decode cX12_readLink 149 = .ok (.iload_n 2, 1) := by decide +kernel
theorem dX12_readLink_150 : decode cX12_readLink 150 = .ok (.ifCond .eq 8, 3) := by decide +kernel
theorem dX12_readLink_153 : decode cX12_readLink 153 = .ok (.iload_n 3, 1) := by decide +kernel
theorem dX12_readLink_154 : decode cX12_readLink 154 = .ok (.ineg, 1) := by decide +kernel
theorem dX12_readLink_155 : decode cX12_readLink 155 = .ok (.goto 4, 3) := by decide +kernel
theorem dX12_readLink_158 : decode cX12_readLink 158 = .ok (.iload_n 3, 1) := by decide +kernel
theorem dX12_readLink_159 : decode cX12_readLink 159 = .ok (.iastore, 1) := by decide +kernel
theorem dX12_readLink_160 : decode cX12_readLink 160 = .ok (.aload_n 0, 1) := by decide +kernel
theorem dX12_readLink_161 : decode cX12_readLink 161 = .ok (.getfield 157, 3) := by decide +kernel
theorem dX12_readLink_164 : decode cX12_readLink 164 = .ok (.ifCond .ne 14, 3) := by decide +kernel
theorem dX12_readLink_167 : decode cX12_readLink 167 = .ok (.aload_n 0, 1) := by decide +kernel
theorem dX12_readLink_168 : decode cX12_readLink 168 = .ok (.getfield 24, 3) := by decide +kernel
theorem dX12_readLink_171 : decode cX12_readLink 171 = .ok (.bipush 52, 2) := by decide +kernel
theorem dX12_readLink_173 : decode cX12_readLink 173 = .ok (.dup2, 1) := by decide +kernel
theorem dX12_readLink_174 : decode cX12_readLink 174 = .ok (.iaload, 1) := by decide +kernel
theorem dX12_readLink_175 : decode cX12_readLink 175 = .ok (.iconst 1, 1) := by decide +kernel
theorem dX12_readLink_176 : decode cX12_readLink 176 = .ok (.iadd, 1) := by decide +kernel
theorem dX12_readLink_177 : decode cX12_readLink 177 = .ok (.iastore, 1) := by decide +kernel
theorem dX12_readLink_178 : decode cX12_readLink 178 = .ok (.return_, 1) := by decide +kernel
theorem bX12_readLink_0 {d : Nat} {P : q_Mem → Prop} {M : q_Mem} (h : (∀ x1_1 : Int, x1_1 = (M 182 52) → ((¬ x1_1 = (16 : Int)) → q_v mX12_readLink d (qPU P) M 19 [some (qR 178), some (qI x1_1), none, none] []) ∧ ((x1_1 = (16 : Int)) → q_kU yX12_fails mX12_fails d [qR 178, qI 4] M (fun M2 => q_v mX12_readLink d (qPU P) M2 19 [some (qR 178), some (qI x1_1), none, none] [])))) : q_v mX12_readLink d (qPU P) M 0 [some (qR 178), none, none, none] [] := by
  refine qr_aload_n 0 1 rfl (x := 178) rfl dX12_readLink_0 ?_
  refine qr_getF 1 4 rfl ck12 4 (by decide) (b := 182) (by decide +kernel) rfl (by decide +kernel) (by decide +kernel) wm_1330 rfl dX12_readLink_1 ?_
  refine qr_bipush 4 6 rfl (q_l32 _ rfl) (by decide) dX12_readLink_4 ?_
  refine qi_ld 6 7 rfl (N := 1504) (by decide +kernel) (by decide +kernel) (by decide) (by decide) dX12_readLink_6 ?_
  refine qn_i 7 (fun x1_1 e_x1_1 => ?_)
  have h := h x1_1 e_x1_1
  refine qr_istore_n 7 8 rfl (by decide) rfl rfl dX12_readLink_7 ?_
  refine qr_iload_n 8 9 rfl (x := x1_1) rfl dX12_readLink_8 ?_
  refine qr_bipush 9 11 rfl (q_l32 _ rfl) (by decide) dX12_readLink_9 ?_
  refine qr_icmp_ne 11 14 19 rfl (by decide) dX12_readLink_11 (fun c11 => ?_) (fun c11 => ?_)
  · have h := h.1 c11
    exact h
  · have h := h.2 c11
    refine qr_aload_n 14 15 rfl (x := 178) rfl dX12_readLink_14 ?_
    refine qr_iconst 15 16 rfl (q_l32 _ rfl) dX12_readLink_15 ?_
    refine qw_U 16 19 rfl (av := [qI 4]) ca_X12_fails wm_1519 wp_81 wm_1517 ck12 (by decide +kernel) rfl rfl (Nat.le_of_ble_eq_true rfl) dX12_readLink_16 h (fun M2 h => ?_)
    exact h
theorem bX12_readLink_19 {d : Nat} {P : q_Mem → Prop} {M : q_Mem} (x1 : Int) (h : (((M 178 13) = 0) → q_kU yX12_goes mX12_goes d [qR 178] M (fun M1 => (q_kI yX12_takes mX12_takes d [qR 178, qI 0, qI (q_sub (M1 182 51) 1)] M1 (fun v3 M2 => (0 ≤ (q_add 53 x1) ∧ (q_add 53 x1) < (1504 : Int)) ∧ (∀ M5 : q_Mem, M5 = q_up M2 182 (q_add 53 x1) v3 → q_kI yX12_is mX12_is d [qR 178, qI 20] M5 (fun v7 M6 => ((v7 = 0) → q_v mX12_readLink d (qPU P) M6 84 [some (qR 178), some (qI x1), none, none] []) ∧ ((¬ (v7 = 0)) → (0 ≤ (q_add 53 x1) ∧ (q_add 53 x1) < (1504 : Int)) ∧ (((¬ (M6 178 12) = (M6 182 (q_add 53 x1))) → q_v mX12_readLink d (qPU P) M6 84 [some (qR 178), some (qI x1), none, none] []) ∧ (((M6 178 12) = (M6 182 (q_add 53 x1))) → q_kU yX12_fails mX12_fails d [qR 178, qI 3] M6 (fun M9 => q_v mX12_readLink d (qPU P) M9 84 [some (qR 178), some (qI x1), none, none] [])))))))))) ∧ ((¬ ((M 178 13) = 0)) → P M)) : q_v mX12_readLink d (qPU P) M 19 [some (qR 178), some (qI x1), none, none] [] := by
  refine qr_aload_n 19 20 rfl (x := 178) rfl dX12_readLink_19 ?_
  refine qg_i 20 23 rfl ck12 13 (kk := 13) (by decide) (by decide +kernel) (by decide +kernel) rfl wm_1339 rfl dX12_readLink_20 ?_
  refine qr_if_eq 23 26 27 rfl (by decide) dX12_readLink_23 (fun c23 => ?_) (fun c23 => ?_)
  · have h := h.1 c23
    refine qr_aload_n 27 28 rfl (x := 178) rfl dX12_readLink_27 ?_
    refine qw_U 28 31 rfl (av := []) ca_X12_goes wm_1485 wp_75 wm_1483 ck12 (by decide +kernel) rfl rfl (Nat.le_of_ble_eq_true rfl) dX12_readLink_28 h (fun M1 h => ?_)
    refine qr_aload_n 31 32 rfl (x := 178) rfl dX12_readLink_31 ?_
    refine qr_getF 32 35 rfl ck12 4 (by decide) (b := 182) (by decide +kernel) rfl (by decide +kernel) (by decide +kernel) wm_1330 rfl dX12_readLink_32 ?_
    refine qr_bipush 35 37 rfl (q_l32 _ rfl) (by decide) dX12_readLink_35 ?_
    refine qr_iload_n 37 38 rfl (x := x1) rfl dX12_readLink_37 ?_
    refine qr_iadd 38 39 rfl dX12_readLink_38 ?_
    refine qr_aload_n 39 40 rfl (x := 178) rfl dX12_readLink_39 ?_
    refine qr_iconst 40 41 rfl (q_l32 _ rfl) dX12_readLink_40 ?_
    refine qr_aload_n 41 42 rfl (x := 178) rfl dX12_readLink_41 ?_
    refine qr_getF 42 45 rfl ck12 4 (by decide) (b := 182) (by decide +kernel) rfl (by decide +kernel) (by decide +kernel) wm_1330 rfl dX12_readLink_42 ?_
    refine qr_bipush 45 47 rfl (q_l32 _ rfl) (by decide) dX12_readLink_45 ?_
    refine qi_ld 47 48 rfl (N := 1504) (by decide +kernel) (by decide +kernel) (by decide) (by decide) dX12_readLink_47 ?_
    refine qr_iconst 48 49 rfl (q_l32 _ rfl) dX12_readLink_48 ?_
    refine qr_isub 49 50 rfl dX12_readLink_49 ?_
    refine qw_I 50 53 rfl (av := [qI 0, qI (q_sub (M1 182 51) 1)]) ca_X12_takes wm_1523 wp_82 wm_1521 ck12 (by decide +kernel) rfl rfl (Nat.le_of_ble_eq_true rfl) dX12_readLink_50 h (fun v3 M2 h => ?_)
    have hb4 := h.1
    have h := h.2
    refine qi_st 53 54 rfl (N := 1504) (by decide +kernel) (by decide +kernel) hb4.1 hb4.2 dX12_readLink_53 (fun M5 e_M5 => ?_)
    have h := h M5 e_M5
    refine qr_aload_n 54 55 rfl (x := 178) rfl dX12_readLink_54 ?_
    refine qr_bipush 55 57 rfl (q_l32 _ rfl) (by decide) dX12_readLink_55 ?_
    refine qw_I 57 60 rfl (av := [qI 20]) ca_X12_is wm_1515 wp_80 wm_1513 ck12 (by decide +kernel) rfl rfl (Nat.le_of_ble_eq_true rfl) dX12_readLink_57 h (fun v7 M6 h => ?_)
    refine qr_if_eq 60 63 84 rfl (by decide) dX12_readLink_60 (fun c60 => ?_) (fun c60 => ?_)
    · have h := h.1 c60
      exact h
    · have h := h.2 c60
      refine qr_aload_n 63 64 rfl (x := 178) rfl dX12_readLink_63 ?_
      refine qg_i 64 67 rfl ck12 12 (kk := 12) (by decide) (by decide +kernel) (by decide +kernel) rfl wm_1338 rfl dX12_readLink_64 ?_
      refine qr_aload_n 67 68 rfl (x := 178) rfl dX12_readLink_67 ?_
      refine qr_getF 68 71 rfl ck12 4 (by decide) (b := 182) (by decide +kernel) rfl (by decide +kernel) (by decide +kernel) wm_1330 rfl dX12_readLink_68 ?_
      refine qr_bipush 71 73 rfl (q_l32 _ rfl) (by decide) dX12_readLink_71 ?_
      refine qr_iload_n 73 74 rfl (x := x1) rfl dX12_readLink_73 ?_
      refine qr_iadd 74 75 rfl dX12_readLink_74 ?_
      have hb8 := h.1
      have h := h.2
      refine qi_ld 75 76 rfl (N := 1504) (by decide +kernel) (by decide +kernel) hb8.1 hb8.2 dX12_readLink_75 ?_
      refine qr_icmp_ne 76 79 84 rfl (by decide) dX12_readLink_76 (fun c76 => ?_) (fun c76 => ?_)
      · have h := h.1 c76
        exact h
      · have h := h.2 c76
        refine qr_aload_n 79 80 rfl (x := 178) rfl dX12_readLink_79 ?_
        refine qr_iconst 80 81 rfl (q_l32 _ rfl) dX12_readLink_80 ?_
        refine qw_U 81 84 rfl (av := [qI 3]) ca_X12_fails wm_1519 wp_81 wm_1517 ck12 (by decide +kernel) rfl rfl (Nat.le_of_ble_eq_true rfl) dX12_readLink_81 h (fun M9 h => ?_)
        exact h
  · have h := h.2 c23
    exact qe_u 26 rfl dX12_readLink_26 h
theorem bX12_readLink_84 {d : Nat} {P : q_Mem → Prop} {M : q_Mem} (x1 : Int) (h : (q_kI yX12_takes mX12_takes d [qR 178, qI 0, qI (q_sub (M 182 51) 1)] M (fun v2 M1 => (0 ≤ (q_add 69 x1) ∧ (q_add 69 x1) < (1504 : Int)) ∧ (∀ M4 : q_Mem, M4 = q_up M1 182 (q_add 69 x1) v2 → q_kI yX12_is mX12_is d [qR 178, qI 5] M4 (fun v6 M5 => q_kI yX12_eats mX12_eats d [qR 178, qI 4] M5 (fun v8 M7 => ((¬ v8 = 0) → q_v mX12_readLink d (qPU P) M7 134 [some (qR 178), some (qI x1), some (qI v6), none] []) ∧ ((v8 = 0) → q_kI yX12_eats mX12_eats d [qR 178, qI 5] M7 (fun v10 M9 => ((¬ v10 = 0) → q_v mX12_readLink d (qPU P) M9 134 [some (qR 178), some (qI x1), some (qI v6), none] []) ∧ ((v10 = 0) → q_kU yX12_fails mX12_fails d [qR 178, qI 2] M9 (fun M11 => q_v mX12_readLink d (qPU P) M11 134 [some (qR 178), some (qI x1), some (qI v6), none] [])))))))))) : q_v mX12_readLink d (qPU P) M 84 [some (qR 178), some (qI x1), none, none] [] := by
  refine qr_aload_n 84 85 rfl (x := 178) rfl dX12_readLink_84 ?_
  refine qr_getF 85 88 rfl ck12 4 (by decide) (b := 182) (by decide +kernel) rfl (by decide +kernel) (by decide +kernel) wm_1330 rfl dX12_readLink_85 ?_
  refine qr_bipush 88 90 rfl (q_l32 _ rfl) (by decide) dX12_readLink_88 ?_
  refine qr_iload_n 90 91 rfl (x := x1) rfl dX12_readLink_90 ?_
  refine qr_iadd 91 92 rfl dX12_readLink_91 ?_
  refine qr_aload_n 92 93 rfl (x := 178) rfl dX12_readLink_92 ?_
  refine qr_iconst 93 94 rfl (q_l32 _ rfl) dX12_readLink_93 ?_
  refine qr_aload_n 94 95 rfl (x := 178) rfl dX12_readLink_94 ?_
  refine qr_getF 95 98 rfl ck12 4 (by decide) (b := 182) (by decide +kernel) rfl (by decide +kernel) (by decide +kernel) wm_1330 rfl dX12_readLink_95 ?_
  refine qr_bipush 98 100 rfl (q_l32 _ rfl) (by decide) dX12_readLink_98 ?_
  refine qi_ld 100 101 rfl (N := 1504) (by decide +kernel) (by decide +kernel) (by decide) (by decide) dX12_readLink_100 ?_
  refine qr_iconst 101 102 rfl (q_l32 _ rfl) dX12_readLink_101 ?_
  refine qr_isub 102 103 rfl dX12_readLink_102 ?_
  refine qw_I 103 106 rfl (av := [qI 0, qI (q_sub (M 182 51) 1)]) ca_X12_takes wm_1523 wp_82 wm_1521 ck12 (by decide +kernel) rfl rfl (Nat.le_of_ble_eq_true rfl) dX12_readLink_103 h (fun v2 M1 h => ?_)
  have hb3 := h.1
  have h := h.2
  refine qi_st 106 107 rfl (N := 1504) (by decide +kernel) (by decide +kernel) hb3.1 hb3.2 dX12_readLink_106 (fun M4 e_M4 => ?_)
  have h := h M4 e_M4
  refine qr_aload_n 107 108 rfl (x := 178) rfl dX12_readLink_107 ?_
  refine qr_iconst 108 109 rfl (q_l32 _ rfl) dX12_readLink_108 ?_
  refine qw_I 109 112 rfl (av := [qI 5]) ca_X12_is wm_1515 wp_80 wm_1513 ck12 (by decide +kernel) rfl rfl (Nat.le_of_ble_eq_true rfl) dX12_readLink_109 h (fun v6 M5 h => ?_)
  refine qr_istore_n 112 113 rfl (by decide) rfl rfl dX12_readLink_112 ?_
  refine qr_aload_n 113 114 rfl (x := 178) rfl dX12_readLink_113 ?_
  refine qr_iconst 114 115 rfl (q_l32 _ rfl) dX12_readLink_114 ?_
  refine qw_I 115 118 rfl (av := [qI 4]) ca_X12_eats wm_1511 wp_79 wm_1509 ck12 (by decide +kernel) rfl rfl (Nat.le_of_ble_eq_true rfl) dX12_readLink_115 h (fun v8 M7 h => ?_)
  refine qr_if_ne 118 121 134 rfl (by decide) dX12_readLink_118 (fun c118 => ?_) (fun c118 => ?_)
  · have h := h.1 c118
    exact h
  · have h := h.2 c118
    refine qr_aload_n 121 122 rfl (x := 178) rfl dX12_readLink_121 ?_
    refine qr_iconst 122 123 rfl (q_l32 _ rfl) dX12_readLink_122 ?_
    refine qw_I 123 126 rfl (av := [qI 5]) ca_X12_eats wm_1511 wp_79 wm_1509 ck12 (by decide +kernel) rfl rfl (Nat.le_of_ble_eq_true rfl) dX12_readLink_123 h (fun v10 M9 h => ?_)
    refine qr_if_ne 126 129 134 rfl (by decide) dX12_readLink_126 (fun c126 => ?_) (fun c126 => ?_)
    · have h := h.1 c126
      exact h
    · have h := h.2 c126
      refine qr_aload_n 129 130 rfl (x := 178) rfl dX12_readLink_129 ?_
      refine qr_iconst 130 131 rfl (q_l32 _ rfl) dX12_readLink_130 ?_
      refine qw_U 131 134 rfl (av := [qI 2]) ca_X12_fails wm_1519 wp_81 wm_1517 ck12 (by decide +kernel) rfl rfl (Nat.le_of_ble_eq_true rfl) dX12_readLink_131 h (fun M11 h => ?_)
      exact h
theorem bX12_readLink_134 {d : Nat} {P : q_Mem → Prop} {M : q_Mem} (x1 x2 : Int) (h : q_kI yX12_takes mX12_takes d [qR 178, qI 0, qI 99] M (fun v2 M1 => ((x2 = 0) → q_v mX12_readLink d (qPU P) M1 159 [some (qR 178), none, none, none] [qI v2, qI (q_add 3 x1), qR 182]) ∧ ((¬ (x2 = 0)) → q_v mX12_readLink d (qPU P) M1 159 [some (qR 178), none, none, none] [qI (q_neg v2), qI (q_add 3 x1), qR 182]))) : q_v mX12_readLink d (qPU P) M 134 [some (qR 178), some (qI x1), some (qI x2), none] [] := by
  refine qr_aload_n 134 135 rfl (x := 178) rfl dX12_readLink_134 ?_
  refine qr_iconst 135 136 rfl (q_l32 _ rfl) dX12_readLink_135 ?_
  refine qr_bipush 136 138 rfl (q_l32 _ rfl) (by decide) dX12_readLink_136 ?_
  refine qw_I 138 141 rfl (av := [qI 0, qI 99]) ca_X12_takes wm_1523 wp_82 wm_1521 ck12 (by decide +kernel) rfl rfl (Nat.le_of_ble_eq_true rfl) dX12_readLink_138 h (fun v2 M1 h => ?_)
  refine qr_istore_n 141 142 rfl (by decide) rfl rfl dX12_readLink_141 ?_
  refine qr_aload_n 142 143 rfl (x := 178) rfl dX12_readLink_142 ?_
  refine qr_getF 143 146 rfl ck12 4 (by decide) (b := 182) (by decide +kernel) rfl (by decide +kernel) (by decide +kernel) wm_1330 rfl dX12_readLink_143 ?_
  refine qr_iconst 146 147 rfl (q_l32 _ rfl) dX12_readLink_146 ?_
  refine qr_iload_n 147 148 rfl (x := x1) rfl dX12_readLink_147 ?_
  refine qr_iadd 148 149 rfl dX12_readLink_148 ?_
  refine qr_iload_n 149 150 rfl (x := x2) rfl dX12_readLink_149 ?_
  refine qr_if_eq 150 153 158 rfl (by decide) dX12_readLink_150 (fun c150 => ?_) (fun c150 => ?_)
  · have h := h.1 c150
    refine qr_iload_n 158 159 rfl (x := v2) rfl dX12_readLink_158 ?_
    exact qr_cut 159 (ls' := [some (qR 178), none, none, none]) (And.intro rfl trivial) h
  · have h := h.2 c150
    refine qr_iload_n 153 154 rfl (x := v2) rfl dX12_readLink_153 ?_
    refine qr_ineg 154 155 rfl dX12_readLink_154 ?_
    refine qr_goto 155 159 (by decide) dX12_readLink_155 ?_
    exact qr_cut 159 (ls' := [some (qR 178), none, none, none]) (And.intro rfl trivial) h
theorem bX12_readLink_159 {d : Nat} {P : q_Mem → Prop} {M : q_Mem} (y0 y1 y2 : Int) (l0 : q_kd y0 = 14) (h : (0 ≤ y1 ∧ y1 < (q_ln y0 : Int)) ∧ (∀ M2 : q_Mem, M2 = q_up M y0 y1 y2 → ((¬ (M2 178 13) = 0) → P M2) ∧ (((M2 178 13) = 0) → ((∀ M3 : q_Mem, M3 = q_up M2 182 52 (q_add (M2 182 52) 1) → P M3))))) : q_v mX12_readLink d (qPU P) M 159 [some (qR 178), none, none, none] [qI y2, qI y1, qR y0] := by
  have hb1 := h.1
  have h := h.2
  refine qi_st 159 160 rfl l0 rfl hb1.1 hb1.2 dX12_readLink_159 (fun M2 e_M2 => ?_)
  have h := h M2 e_M2
  refine qr_aload_n 160 161 rfl (x := 178) rfl dX12_readLink_160 ?_
  refine qg_i 161 164 rfl ck12 13 (kk := 13) (by decide) (by decide +kernel) (by decide +kernel) rfl wm_1339 rfl dX12_readLink_161 ?_
  refine qr_if_ne 164 167 178 rfl (by decide) dX12_readLink_164 (fun c164 => ?_) (fun c164 => ?_)
  · have h := h.1 c164
    exact qe_u 178 rfl dX12_readLink_178 h
  · have h := h.2 c164
    refine qr_aload_n 167 168 rfl (x := 178) rfl dX12_readLink_167 ?_
    refine qr_getF 168 171 rfl ck12 4 (by decide) (b := 182) (by decide +kernel) rfl (by decide +kernel) (by decide +kernel) wm_1330 rfl dX12_readLink_168 ?_
    refine qr_bipush 171 173 rfl (q_l32 _ rfl) (by decide) dX12_readLink_171 ?_
    refine qr_dup2 173 174 rfl rfl rfl dX12_readLink_173 ?_
    refine qi_ld 174 175 rfl (N := 1504) (by decide +kernel) (by decide +kernel) (by decide) (by decide) dX12_readLink_174 ?_
    refine qr_iconst 175 176 rfl (q_l32 _ rfl) dX12_readLink_175 ?_
    refine qr_iadd 176 177 rfl dX12_readLink_176 ?_
    refine qi_st 177 178 rfl (N := 1504) (by decide +kernel) (by decide +kernel) (by decide) (by decide) dX12_readLink_177 (fun M3 e_M3 => ?_)
    have h := h M3 e_M3
    exact qe_u 178 rfl dX12_readLink_178 h
theorem dX12_isOf_0 : decode cX12_isOf 0 = .ok (.iload_n 2, 1) := by decide +kernel
theorem dX12_isOf_1 : decode cX12_isOf 1 = .ok (.aload_n 1, 1) := by decide +kernel
theorem dX12_isOf_2 : decode cX12_isOf 2 = .ok (.bipush 52, 2) := by decide +kernel
theorem dX12_isOf_4 : decode cX12_isOf 4 = .ok (.iaload, 1) := by decide +kernel
theorem dX12_isOf_5 : decode cX12_isOf 5 = .ok (.if_icmp .ge 27, 3) := by decide +kernel
theorem dX12_isOf_8 : decode cX12_isOf 8 = .ok (.aload_n 1, 1) := by decide +kernel
theorem dX12_isOf_9 : decode cX12_isOf 9 = .ok (.bipush 53, 2) := by decide +kernel
theorem dX12_isOf_11 : decode cX12_isOf 11 = .ok (.iload_n 2, 1) := by decide +kernel
theorem dX12_isOf_12 : decode cX12_isOf 12 = .ok (.iadd, 1) := by decide +kernel
theorem dX12_isOf_13 : decode cX12_isOf 13 = .ok (.iaload, 1) := by decide +kernel
theorem dX12_isOf_14 : decode cX12_isOf 14 = .ok (.iload_n 3, 1) := by decide +kernel
theorem dX12_isOf_15 : decode cX12_isOf 15 = .ok (.if_icmp .eq 13, 3) := by decide +kernel
theorem dX12_isOf_18 : decode cX12_isOf 18 = .ok (.aload_n 1, 1) := by decide +kernel
theorem dX12_isOf_19 : decode cX12_isOf 19 = .ok (.bipush 69, 2) := by decide +kernel
theorem dX12_isOf_21 : decode cX12_isOf 21 = .ok (.iload_n 2, 1) := by decide +kernel
theorem dX12_isOf_22 : decode cX12_isOf 22 = .ok (.iadd, 1) := by decide +kernel
theorem dX12_isOf_23 : decode cX12_isOf 23 = .ok (.iaload, 1) := by decide +kernel
theorem dX12_isOf_24 : decode cX12_isOf 24 = .ok (.iload_n 3, 1) := by decide +kernel
theorem dX12_isOf_25 : decode cX12_isOf 25 = .ok (.if_icmp .ne 7, 3) := by decide +kernel
theorem dX12_isOf_28 : decode cX12_isOf 28 = .ok (.iconst 1, 1) := by decide +kernel
theorem dX12_isOf_29 : decode cX12_isOf 29 = .ok (.goto 4, 3) := by decide +kernel
theorem dX12_isOf_32 : decode cX12_isOf 32 = .ok (.iconst 0, 1) := by decide +kernel
theorem dX12_isOf_33 : decode cX12_isOf 33 = .ok (.ireturn, 1) := by decide +kernel
theorem bX12_isOf_0 {d : Nat} {P : Int → q_Mem → Prop} {M : q_Mem} (x1 x2 x3 : Int) (k1 : q_kd x1 = 14) (h : (0 ≤ (52 : Int) ∧ (52 : Int) < (q_ln x1 : Int)) ∧ ((((M x1 52) ≤ x2) → P 0 M) ∧ ((¬ ((M x1 52) ≤ x2)) → (0 ≤ (q_add 53 x2) ∧ (q_add 53 x2) < (q_ln x1 : Int)) ∧ ((((M x1 (q_add 53 x2)) = x3) → P 1 M) ∧ ((¬ ((M x1 (q_add 53 x2)) = x3)) → (0 ≤ (q_add 69 x2) ∧ (q_add 69 x2) < (q_ln x1 : Int)) ∧ (((¬ (M x1 (q_add 69 x2)) = x3) → P 0 M) ∧ (((M x1 (q_add 69 x2)) = x3) → P 1 M))))))) : q_v mX12_isOf d (qPI P) M 0 [none, some (qR x1), some (qI x2), some (qI x3)] [] := by
  refine qr_iload_n 0 1 rfl (x := x2) rfl dX12_isOf_0 ?_
  refine qr_aload_n 1 2 rfl (x := x1) rfl dX12_isOf_1 ?_
  refine qr_bipush 2 4 rfl (q_l32 _ rfl) (by decide) dX12_isOf_2 ?_
  have hb1 := h.1
  have h := h.2
  refine qi_ld 4 5 rfl k1 rfl hb1.1 hb1.2 dX12_isOf_4 ?_
  refine qr_icmp_ge 5 8 32 rfl (by decide) dX12_isOf_5 (fun c5 => ?_) (fun c5 => ?_)
  · have h := h.1 c5
    refine qr_iconst 32 33 rfl (q_l32 _ rfl) dX12_isOf_32 ?_
    exact qe_z 33 rfl (by decide) dX12_isOf_33 h
  · have h := h.2 c5
    refine qr_aload_n 8 9 rfl (x := x1) rfl dX12_isOf_8 ?_
    refine qr_bipush 9 11 rfl (q_l32 _ rfl) (by decide) dX12_isOf_9 ?_
    refine qr_iload_n 11 12 rfl (x := x2) rfl dX12_isOf_11 ?_
    refine qr_iadd 12 13 rfl dX12_isOf_12 ?_
    have hb2 := h.1
    have h := h.2
    refine qi_ld 13 14 rfl k1 rfl hb2.1 hb2.2 dX12_isOf_13 ?_
    refine qr_iload_n 14 15 rfl (x := x3) rfl dX12_isOf_14 ?_
    refine qr_icmp_eq 15 18 28 rfl (by decide) dX12_isOf_15 (fun c15 => ?_) (fun c15 => ?_)
    · have h := h.1 c15
      refine qr_iconst 28 29 rfl (q_l32 _ rfl) dX12_isOf_28 ?_
      refine qr_goto 29 33 (by decide) dX12_isOf_29 ?_
      exact qe_z 33 rfl (by decide) dX12_isOf_33 h
    · have h := h.2 c15
      refine qr_aload_n 18 19 rfl (x := x1) rfl dX12_isOf_18 ?_
      refine qr_bipush 19 21 rfl (q_l32 _ rfl) (by decide) dX12_isOf_19 ?_
      refine qr_iload_n 21 22 rfl (x := x2) rfl dX12_isOf_21 ?_
      refine qr_iadd 22 23 rfl dX12_isOf_22 ?_
      have hb3 := h.1
      have h := h.2
      refine qi_ld 23 24 rfl k1 rfl hb3.1 hb3.2 dX12_isOf_23 ?_
      refine qr_iload_n 24 25 rfl (x := x3) rfl dX12_isOf_24 ?_
      refine qr_icmp_ne 25 28 32 rfl (by decide) dX12_isOf_25 (fun c25 => ?_) (fun c25 => ?_)
      · have h := h.1 c25
        refine qr_iconst 32 33 rfl (q_l32 _ rfl) dX12_isOf_32 ?_
        exact qe_z 33 rfl (by decide) dX12_isOf_33 h
      · have h := h.2 c25
        refine qr_iconst 28 29 rfl (q_l32 _ rfl) dX12_isOf_28 ?_
        refine qr_goto 29 33 (by decide) dX12_isOf_29 ?_
        exact qe_z 33 rfl (by decide) dX12_isOf_33 h
theorem dX12_isRoundTold_0 : decode cX12_isRoundTold 0 = .ok (.iconst 0, 1) := by decide +kernel
theorem dX12_isRoundTold_1 : decode cX12_isRoundTold 1 = .ok (.istore_n 3, 1) := by decide +kernel
theorem dX12_isRoundTold_2 : decode cX12_isRoundTold 2 = .ok (.iload_n 3, 1) := by decide +kernel
theorem dX12_isRoundTold_3 : decode cX12_isRoundTold 3 = .ok (.aload_n 0, 1) := by decide +kernel
theorem dX12_isRoundTold_4 : decode cX12_isRoundTold 4 = .ok (.getfield 27, 3) := by decide +kernel
theorem dX12_isRoundTold_7 : decode cX12_isRoundTold 7 = .ok (.iload_n 1, 1) := by decide +kernel
theorem dX12_isRoundTold_8 : decode cX12_isRoundTold 8 = .ok (.iaload, 1) := by decide +kernel
theorem dX12_isRoundTold_9 : decode cX12_isRoundTold 9 = .ok (.if_icmp .ge 26, 3) := by decide +kernel
theorem dX12_isRoundTold_12 : decode cX12_isRoundTold 12 = .ok (.aload_n 0, 1) := by decide +kernel
theorem dX12_isRoundTold_13 : decode cX12_isRoundTold 13 = .ok (.getfield 30, 3) := by decide +kernel
theorem dX12_isRoundTold_16 : decode cX12_isRoundTold 16 = .ok (.bipush 16, 2) := by decide +kernel
theorem dX12_isRoundTold_18 : decode cX12_isRoundTold 18 = .ok (.iload_n 1, 1) := by decide +kernel
theorem dX12_isRoundTold_19 : decode cX12_isRoundTold 19 = .ok (.imul, 1) := by decide +kernel
theorem dX12_isRoundTold_20 : decode cX12_isRoundTold 20 = .ok (.iload_n 3, 1) := by decide +kernel
theorem dX12_isRoundTold_21 : decode cX12_isRoundTold 21 = .ok (.iadd, 1) := by decide +kernel
theorem dX12_isRoundTold_22 : decode cX12_isRoundTold 22 = .ok (.iaload, 1) := by decide +kernel
theorem dX12_isRoundTold_23 : decode cX12_isRoundTold 23 = .ok (.iload_n 2, 1) := by decide +kernel
theorem dX12_isRoundTold_24 : decode cX12_isRoundTold 24 = .ok (.if_icmp .ne 5, 3) := by decide +kernel
theorem dX12_isRoundTold_27 : decode cX12_isRoundTold 27 = .ok (.iconst 1, 1) := by decide +kernel
theorem dX12_isRoundTold_28 : decode cX12_isRoundTold 28 = .ok (.ireturn, 1) := by decide +kernel
theorem dX12_isRoundTold_29 : decode cX12_isRoundTold 29 = .ok (.iinc 3 1, 3) := by decide +kernel
theorem dX12_isRoundTold_32 : decode cX12_isRoundTold 32 = .ok (.goto (-30), 3) := by decide +kernel
theorem dX12_isRoundTold_35 : decode cX12_isRoundTold 35 = .ok (.iconst 0, 1) := by decide +kernel
theorem dX12_isRoundTold_36 : decode cX12_isRoundTold 36 = .ok (.ireturn, 1) := by decide +kernel
theorem bX12_isRoundTold_0 {d : Nat} {P : Int → q_Mem → Prop} {M : q_Mem} (x1 x2 : Int) (h : q_v mX12_isRoundTold d (qPI P) M 2 [some (qR 178), some (qI x1), some (qI x2), some (qI 0)] []) : q_v mX12_isRoundTold d (qPI P) M 0 [some (qR 178), some (qI x1), some (qI x2), none] [] := by
  refine qr_iconst 0 1 rfl (q_l32 _ rfl) dX12_isRoundTold_0 ?_
  refine qr_istore_n 1 2 rfl (by decide) rfl rfl dX12_isRoundTold_1 ?_
  exact h
theorem bX12_isRoundTold_2 {d : Nat} {P : Int → q_Mem → Prop} {M : q_Mem} (x1 x2 x3 : Int) (h : (0 ≤ x1 ∧ x1 < (10 : Int)) ∧ ((((M 183 x1) ≤ x3) → P 0 M) ∧ ((¬ ((M 183 x1) ≤ x3)) → (0 ≤ (q_add (q_mul 16 x1) x3) ∧ (q_add (q_mul 16 x1) x3) < (160 : Int)) ∧ (((¬ (M 184 (q_add (q_mul 16 x1) x3)) = x2) → q_v mX12_isRoundTold d (qPI P) M 2 [some (qR 178), some (qI x1), some (qI x2), some (qI (q_add x3 1))] []) ∧ (((M 184 (q_add (q_mul 16 x1) x3)) = x2) → P 1 M))))) : q_v mX12_isRoundTold d (qPI P) M 2 [some (qR 178), some (qI x1), some (qI x2), some (qI x3)] [] := by
  refine qr_iload_n 2 3 rfl (x := x3) rfl dX12_isRoundTold_2 ?_
  refine qr_aload_n 3 4 rfl (x := 178) rfl dX12_isRoundTold_3 ?_
  refine qr_getF 4 7 rfl ck12 5 (by decide) (b := 183) (by decide +kernel) rfl (by decide +kernel) (by decide +kernel) wm_1331 rfl dX12_isRoundTold_4 ?_
  refine qr_iload_n 7 8 rfl (x := x1) rfl dX12_isRoundTold_7 ?_
  have hb1 := h.1
  have h := h.2
  refine qi_ld 8 9 rfl (N := 10) (by decide +kernel) (by decide +kernel) hb1.1 hb1.2 dX12_isRoundTold_8 ?_
  refine qr_icmp_ge 9 12 35 rfl (by decide) dX12_isRoundTold_9 (fun c9 => ?_) (fun c9 => ?_)
  · have h := h.1 c9
    refine qr_iconst 35 36 rfl (q_l32 _ rfl) dX12_isRoundTold_35 ?_
    exact qe_z 36 rfl (by decide) dX12_isRoundTold_36 h
  · have h := h.2 c9
    refine qr_aload_n 12 13 rfl (x := 178) rfl dX12_isRoundTold_12 ?_
    refine qr_getF 13 16 rfl ck12 6 (by decide) (b := 184) (by decide +kernel) rfl (by decide +kernel) (by decide +kernel) wm_1332 rfl dX12_isRoundTold_13 ?_
    refine qr_bipush 16 18 rfl (q_l32 _ rfl) (by decide) dX12_isRoundTold_16 ?_
    refine qr_iload_n 18 19 rfl (x := x1) rfl dX12_isRoundTold_18 ?_
    refine qr_imul 19 20 rfl dX12_isRoundTold_19 ?_
    refine qr_iload_n 20 21 rfl (x := x3) rfl dX12_isRoundTold_20 ?_
    refine qr_iadd 21 22 rfl dX12_isRoundTold_21 ?_
    have hb2 := h.1
    have h := h.2
    refine qi_ld 22 23 rfl (N := 160) (by decide +kernel) (by decide +kernel) hb2.1 hb2.2 dX12_isRoundTold_22 ?_
    refine qr_iload_n 23 24 rfl (x := x2) rfl dX12_isRoundTold_23 ?_
    refine qr_icmp_ne 24 27 29 rfl (by decide) dX12_isRoundTold_24 (fun c24 => ?_) (fun c24 => ?_)
    · have h := h.1 c24
      refine qr_iinc 29 32 rfl (by decide) (x := x3) rfl rfl rfl dX12_isRoundTold_29 ?_
      refine qr_goto 32 2 (by decide) dX12_isRoundTold_32 ?_
      exact h
    · have h := h.2 c24
      refine qr_iconst 27 28 rfl (q_l32 _ rfl) dX12_isRoundTold_27 ?_
      exact qe_z 28 rfl (by decide) dX12_isRoundTold_28 h
theorem dX12_readRound_0 : decode cX12_readRound 0 = .ok (.aload_n 0, 1) := by decide +kernel
theorem dX12_readRound_1 : decode cX12_readRound 1 = .ok (.invokevirtual 166, 3) := by decide +kernel
theorem dX12_readRound_4 : decode cX12_readRound 4 = .ok (.aload_n 0, 1) := by decide +kernel
theorem dX12_readRound_5 : decode cX12_readRound 5 = .ok (.iconst 0, 1) := by decide +kernel
theorem dX12_readRound_6 : decode cX12_readRound 6 = .ok (.aload_n 0, 1) := by decide +kernel
theorem dX12_readRound_7 : decode cX12_readRound 7 = .ok (.getfield 24, 3) := by decide +kernel
theorem dX12_readRound_10 : decode cX12_readRound 10 = .ok (.bipush 51, 2) := by decide +kernel
theorem dX12_readRound_12 : decode cX12_readRound 12 = .ok (.iaload, 1) := by decide +kernel
theorem dX12_readRound_13 : decode cX12_readRound 13 = .ok (.iconst 1, 1) := by decide +kernel
theorem dX12_readRound_14 : decode cX12_readRound 14 = .ok (.isub, 1) := by decide +kernel
theorem dX12_readRound_15 : decode cX12_readRound 15 = .ok (.invokevirtual 213, 3) := by decide +kernel
theorem dX12_readRound_18 : decode cX12_readRound 18 = .ok (.istore_n 1, 1) := by decide +kernel
theorem dX12_readRound_19 : decode cX12_readRound 19 = .ok (.aload_n 0, 1) := by decide +kernel
theorem dX12_readRound_20 : decode cX12_readRound 20 = .ok (.getfield 157, 3) := by decide +kernel
theorem dX12_readRound_23 : decode cX12_readRound 23 = .ok (.ifCond .eq 4, 3) := by decide +kernel
theorem dX12_readRound_26 : decode cX12_readRound 26 = .ok (.return_, 1) := by decide +kernel
theorem dX12_readRound_27 : decode cX12_readRound 27 = .ok (.aload_n 0, 1) := by decide +kernel
theorem dX12_readRound_28 : decode cX12_readRound 28 = .ok (.getfield 27, 3) := by decide +kernel
theorem dX12_readRound_31 : decode cX12_readRound 31 = .ok (.iload_n 1, 1) := by decide +kernel
theorem dX12_readRound_32 : decode cX12_readRound 32 = .ok (.iconst 0, 1) := by decide +kernel
theorem dX12_readRound_33 : decode cX12_readRound 33 = .ok (.iastore, 1) := by decide +kernel
theorem dX12_readRound_34 : decode cX12_readRound 34 = .ok (.aload_n 0, 1) := by decide +kernel
theorem dX12_readRound_35 : decode cX12_readRound 35 = .ok (.bipush 20, 2) := by decide +kernel
theorem dX12_readRound_37 : decode cX12_readRound 37 = .ok (.invokevirtual 163, 3) := by decide +kernel
theorem dX12_readRound_40 : decode cX12_readRound 40 = .ok (.ifCond .eq 74, 3) := by decide +kernel
theorem dX12_readRound_43 : decode cX12_readRound 43 = .ok (.aload_n 0, 1) := by decide +kernel
theorem dX12_readRound_44 : decode cX12_readRound 44 = .ok (.aload_n 0, 1) := by decide +kernel
theorem dX12_readRound_45 : decode cX12_readRound 45 = .ok (.getfield 24, 3) := by decide +kernel
theorem dX12_readRound_48 : decode cX12_readRound 48 = .ok (.aload_n 0, 1) := by decide +kernel
theorem dX12_readRound_49 : decode cX12_readRound 49 = .ok (.getfield 152, 3) := by decide +kernel
theorem dX12_readRound_52 : decode cX12_readRound 52 = .ok (.iload_n 1, 1) := by decide +kernel
theorem dX12_readRound_53 : decode cX12_readRound 53 = .ok (.invokevirtual 217, 3) := by decide +kernel
theorem dX12_readRound_56 : decode cX12_readRound 56 = .ok (.ifCond .eq 15, 3) := by decide +kernel
theorem dX12_readRound_59 : decode cX12_readRound 59 = .ok (.aload_n 0, 1) := by decide +kernel
theorem dX12_readRound_60 : decode cX12_readRound 60 = .ok (.iload_n 1, 1) := by decide +kernel
theorem dX12_readRound_61 : decode cX12_readRound 61 = .ok (.aload_n 0, 1) := by decide +kernel
theorem dX12_readRound_62 : decode cX12_readRound 62 = .ok (.getfield 152, 3) := by decide +kernel
theorem dX12_readRound_65 : decode cX12_readRound 65 = .ok (.invokevirtual 221, 3) := by decide +kernel
theorem dX12_readRound_68 : decode cX12_readRound 68 = .ok (.ifCond .eq 9, 3) := by decide +kernel
theorem dX12_readRound_71 : decode cX12_readRound 71 = .ok (.aload_n 0, 1) := by decide +kernel
theorem dX12_readRound_72 : decode cX12_readRound 72 = .ok (.iconst 3, 1) := by decide +kernel
theorem dX12_readRound_73 : decode cX12_readRound 73 = .ok (.invokevirtual 172, 3) := by decide +kernel
theorem dX12_readRound_76 : decode cX12_readRound 76 = .ok (.return_, 1) := by decide +kernel
theorem dX12_readRound_77 : decode cX12_readRound 77 = .ok (.aload_n 0, 1) := by decide +kernel
theorem dX12_readRound_78 : decode cX12_readRound 78 = .ok (.getfield 30, 3) := by decide +kernel
theorem dX12_readRound_81 : decode cX12_readRound 81 = .ok (.bipush 16, 2) := by decide +kernel
theorem dX12_readRound_83 : decode cX12_readRound 83 = .ok (.iload_n 1, 1) := by decide +kernel
theorem dX12_readRound_84 : decode cX12_readRound 84 = .ok (.imul, 1) := by decide +kernel
theorem dX12_readRound_85 : decode cX12_readRound 85 = .ok (.aload_n 0, 1) := by decide +kernel
theorem dX12_readRound_86 : decode cX12_readRound 86 = .ok (.getfield 27, 3) := by decide +kernel
theorem dX12_readRound_89 : decode cX12_readRound 89 = .ok (.iload_n 1, 1) := by decide +kernel
theorem dX12_readRound_90 : decode cX12_readRound 90 = .ok (.iaload, 1) := by decide +kernel
theorem dX12_readRound_91 : decode cX12_readRound 91 = .ok (.iadd, 1) := by decide +kernel
theorem dX12_readRound_92 : decode cX12_readRound 92 = .ok (.aload_n 0, 1) := by decide +kernel
theorem dX12_readRound_93 : decode cX12_readRound 93 = .ok (.getfield 152, 3) := by decide +kernel
theorem dX12_readRound_96 : decode cX12_readRound 96 = .ok (.iastore, 1) := by decide +kernel
theorem dX12_readRound_97 : decode cX12_readRound 97 = .ok (.aload_n 0, 1) := by decide +kernel
theorem dX12_readRound_98 : decode cX12_readRound 98 = .ok (.getfield 27, 3) := by decide +kernel
theorem dX12_readRound_101 : decode cX12_readRound 101 = .ok (.iload_n 1, 1) := by decide +kernel
theorem dX12_readRound_102 : decode cX12_readRound 102 = .ok (.dup2, 1) := by decide +kernel
theorem dX12_readRound_103 : decode cX12_readRound 103 = .ok (.iaload, 1) := by decide +kernel
theorem dX12_readRound_104 : decode cX12_readRound 104 = .ok (.iconst 1, 1) := by decide +kernel
theorem dX12_readRound_105 : decode cX12_readRound 105 = .ok (.iadd, 1) := by decide +kernel
theorem dX12_readRound_106 : decode cX12_readRound 106 = .ok (.iastore, 1) := by decide +kernel
theorem dX12_readRound_107 : decode cX12_readRound 107 = .ok (.aload_n 0, 1) := by decide +kernel
theorem dX12_readRound_108 : decode cX12_readRound 108 = .ok (.invokevirtual 166, 3) := by decide +kernel
theorem dX12_readRound_111 : decode cX12_readRound 111 = .ok (.goto (-77), 3) := by decide +kernel
theorem dX12_readRound_114 : decode cX12_readRound 114 = .ok (.return_, 1) := by decide +kernel
theorem bX12_readRound_0 {d : Nat} {P : q_Mem → Prop} {M : q_Mem} (h : q_kU yX12_goes mX12_goes d [qR 178] M (fun M1 => (q_kI yX12_takes mX12_takes d [qR 178, qI 0, qI (q_sub (M1 182 51) 1)] M1 (fun v3 M2 => (((M2 178 13) = 0) → (0 ≤ v3 ∧ v3 < (10 : Int)) ∧ (∀ M5 : q_Mem, M5 = q_up M2 183 v3 0 → q_v mX12_readRound d (qPU P) M5 34 [some (qR 178), some (qI v3)] [])) ∧ ((¬ ((M2 178 13) = 0)) → P M2))))) : q_v mX12_readRound d (qPU P) M 0 [some (qR 178), none] [] := by
  refine qr_aload_n 0 1 rfl (x := 178) rfl dX12_readRound_0 ?_
  refine qw_U 1 4 rfl (av := []) ca_X12_goes wm_1485 wp_75 wm_1483 ck12 (by decide +kernel) rfl rfl (Nat.le_of_ble_eq_true rfl) dX12_readRound_1 h (fun M1 h => ?_)
  refine qr_aload_n 4 5 rfl (x := 178) rfl dX12_readRound_4 ?_
  refine qr_iconst 5 6 rfl (q_l32 _ rfl) dX12_readRound_5 ?_
  refine qr_aload_n 6 7 rfl (x := 178) rfl dX12_readRound_6 ?_
  refine qr_getF 7 10 rfl ck12 4 (by decide) (b := 182) (by decide +kernel) rfl (by decide +kernel) (by decide +kernel) wm_1330 rfl dX12_readRound_7 ?_
  refine qr_bipush 10 12 rfl (q_l32 _ rfl) (by decide) dX12_readRound_10 ?_
  refine qi_ld 12 13 rfl (N := 1504) (by decide +kernel) (by decide +kernel) (by decide) (by decide) dX12_readRound_12 ?_
  refine qr_iconst 13 14 rfl (q_l32 _ rfl) dX12_readRound_13 ?_
  refine qr_isub 14 15 rfl dX12_readRound_14 ?_
  refine qw_I 15 18 rfl (av := [qI 0, qI (q_sub (M1 182 51) 1)]) ca_X12_takes wm_1523 wp_82 wm_1521 ck12 (by decide +kernel) rfl rfl (Nat.le_of_ble_eq_true rfl) dX12_readRound_15 h (fun v3 M2 h => ?_)
  refine qr_istore_n 18 19 rfl (by decide) rfl rfl dX12_readRound_18 ?_
  refine qr_aload_n 19 20 rfl (x := 178) rfl dX12_readRound_19 ?_
  refine qg_i 20 23 rfl ck12 13 (kk := 13) (by decide) (by decide +kernel) (by decide +kernel) rfl wm_1339 rfl dX12_readRound_20 ?_
  refine qr_if_eq 23 26 27 rfl (by decide) dX12_readRound_23 (fun c23 => ?_) (fun c23 => ?_)
  · have h := h.1 c23
    refine qr_aload_n 27 28 rfl (x := 178) rfl dX12_readRound_27 ?_
    refine qr_getF 28 31 rfl ck12 5 (by decide) (b := 183) (by decide +kernel) rfl (by decide +kernel) (by decide +kernel) wm_1331 rfl dX12_readRound_28 ?_
    refine qr_iload_n 31 32 rfl (x := v3) rfl dX12_readRound_31 ?_
    refine qr_iconst 32 33 rfl (q_l32 _ rfl) dX12_readRound_32 ?_
    have hb4 := h.1
    have h := h.2
    refine qi_st 33 34 rfl (N := 10) (by decide +kernel) (by decide +kernel) hb4.1 hb4.2 dX12_readRound_33 (fun M5 e_M5 => ?_)
    have h := h M5 e_M5
    exact h
  · have h := h.2 c23
    exact qe_u 26 rfl dX12_readRound_26 h
theorem bX12_readRound_34 {d : Nat} {P : q_Mem → Prop} {M : q_Mem} (x1 : Int) (h : q_kI yX12_is mX12_is d [qR 178, qI 20] M (fun v2 M1 => ((v2 = 0) → P M1) ∧ ((¬ (v2 = 0)) → q_kI yX12_isOf mX12_isOf d [qR 178, qR 182, qI (M1 178 12), qI x1] M1 (fun v4 M3 => ((v4 = 0) → q_kU yX12_fails mX12_fails d [qR 178, qI 3] M3 (fun M5 => P M5)) ∧ ((¬ (v4 = 0)) → q_kI yX12_isRoundTold mX12_isRoundTold d [qR 178, qI x1, qI (M3 178 12)] M3 (fun v7 M6 => ((v7 = 0) → (0 ≤ x1 ∧ x1 < (10 : Int)) ∧ ((0 ≤ (q_add (q_mul 16 x1) (M6 183 x1)) ∧ (q_add (q_mul 16 x1) (M6 183 x1)) < (160 : Int)) ∧ (∀ M10 : q_Mem, M10 = q_up M6 184 (q_add (q_mul 16 x1) (M6 183 x1)) (M6 178 12) → (0 ≤ x1 ∧ x1 < (10 : Int)) ∧ ((0 ≤ x1 ∧ x1 < (10 : Int)) ∧ (∀ M13 : q_Mem, M13 = q_up M10 183 x1 (q_add (M10 183 x1) 1) → q_kU yX12_goes mX12_goes d [qR 178] M13 (fun M14 => q_v mX12_readRound d (qPU P) M14 34 [some (qR 178), some (qI x1)] [])))))) ∧ ((¬ (v7 = 0)) → q_kU yX12_fails mX12_fails d [qR 178, qI 3] M6 (fun M15 => P M15)))))))) : q_v mX12_readRound d (qPU P) M 34 [some (qR 178), some (qI x1)] [] := by
  refine qr_aload_n 34 35 rfl (x := 178) rfl dX12_readRound_34 ?_
  refine qr_bipush 35 37 rfl (q_l32 _ rfl) (by decide) dX12_readRound_35 ?_
  refine qw_I 37 40 rfl (av := [qI 20]) ca_X12_is wm_1515 wp_80 wm_1513 ck12 (by decide +kernel) rfl rfl (Nat.le_of_ble_eq_true rfl) dX12_readRound_37 h (fun v2 M1 h => ?_)
  refine qr_if_eq 40 43 114 rfl (by decide) dX12_readRound_40 (fun c40 => ?_) (fun c40 => ?_)
  · have h := h.1 c40
    exact qe_u 114 rfl dX12_readRound_114 h
  · have h := h.2 c40
    refine qr_aload_n 43 44 rfl (x := 178) rfl dX12_readRound_43 ?_
    refine qr_aload_n 44 45 rfl (x := 178) rfl dX12_readRound_44 ?_
    refine qr_getF 45 48 rfl ck12 4 (by decide) (b := 182) (by decide +kernel) rfl (by decide +kernel) (by decide +kernel) wm_1330 rfl dX12_readRound_45 ?_
    refine qr_aload_n 48 49 rfl (x := 178) rfl dX12_readRound_48 ?_
    refine qg_i 49 52 rfl ck12 12 (kk := 12) (by decide) (by decide +kernel) (by decide +kernel) rfl wm_1338 rfl dX12_readRound_49 ?_
    refine qr_iload_n 52 53 rfl (x := x1) rfl dX12_readRound_52 ?_
    refine qw_I 53 56 rfl (av := [qR 182, qI (M1 178 12), qI x1]) ca_X12_isOf wm_1547 wp_88 wm_1545 ck12 (by decide +kernel) rfl rfl (Nat.le_of_ble_eq_true rfl) dX12_readRound_53 h (fun v4 M3 h => ?_)
    refine qr_if_eq 56 59 71 rfl (by decide) dX12_readRound_56 (fun c56 => ?_) (fun c56 => ?_)
    · have h := h.1 c56
      refine qr_aload_n 71 72 rfl (x := 178) rfl dX12_readRound_71 ?_
      refine qr_iconst 72 73 rfl (q_l32 _ rfl) dX12_readRound_72 ?_
      refine qw_U 73 76 rfl (av := [qI 3]) ca_X12_fails wm_1519 wp_81 wm_1517 ck12 (by decide +kernel) rfl rfl (Nat.le_of_ble_eq_true rfl) dX12_readRound_73 h (fun M5 h => ?_)
      exact qe_u 76 rfl dX12_readRound_76 h
    · have h := h.2 c56
      refine qr_aload_n 59 60 rfl (x := 178) rfl dX12_readRound_59 ?_
      refine qr_iload_n 60 61 rfl (x := x1) rfl dX12_readRound_60 ?_
      refine qr_aload_n 61 62 rfl (x := 178) rfl dX12_readRound_61 ?_
      refine qg_i 62 65 rfl ck12 12 (kk := 12) (by decide) (by decide +kernel) (by decide +kernel) rfl wm_1338 rfl dX12_readRound_62 ?_
      refine qw_I 65 68 rfl (av := [qI x1, qI (M3 178 12)]) ca_X12_isRoundTold wm_1551 wp_89 wm_1549 ck12 (by decide +kernel) rfl rfl (Nat.le_of_ble_eq_true rfl) dX12_readRound_65 h (fun v7 M6 h => ?_)
      refine qr_if_eq 68 71 77 rfl (by decide) dX12_readRound_68 (fun c68 => ?_) (fun c68 => ?_)
      · have h := h.1 c68
        refine qr_aload_n 77 78 rfl (x := 178) rfl dX12_readRound_77 ?_
        refine qr_getF 78 81 rfl ck12 6 (by decide) (b := 184) (by decide +kernel) rfl (by decide +kernel) (by decide +kernel) wm_1332 rfl dX12_readRound_78 ?_
        refine qr_bipush 81 83 rfl (q_l32 _ rfl) (by decide) dX12_readRound_81 ?_
        refine qr_iload_n 83 84 rfl (x := x1) rfl dX12_readRound_83 ?_
        refine qr_imul 84 85 rfl dX12_readRound_84 ?_
        refine qr_aload_n 85 86 rfl (x := 178) rfl dX12_readRound_85 ?_
        refine qr_getF 86 89 rfl ck12 5 (by decide) (b := 183) (by decide +kernel) rfl (by decide +kernel) (by decide +kernel) wm_1331 rfl dX12_readRound_86 ?_
        refine qr_iload_n 89 90 rfl (x := x1) rfl dX12_readRound_89 ?_
        have hb8 := h.1
        have h := h.2
        refine qi_ld 90 91 rfl (N := 10) (by decide +kernel) (by decide +kernel) hb8.1 hb8.2 dX12_readRound_90 ?_
        refine qr_iadd 91 92 rfl dX12_readRound_91 ?_
        refine qr_aload_n 92 93 rfl (x := 178) rfl dX12_readRound_92 ?_
        refine qg_i 93 96 rfl ck12 12 (kk := 12) (by decide) (by decide +kernel) (by decide +kernel) rfl wm_1338 rfl dX12_readRound_93 ?_
        have hb9 := h.1
        have h := h.2
        refine qi_st 96 97 rfl (N := 160) (by decide +kernel) (by decide +kernel) hb9.1 hb9.2 dX12_readRound_96 (fun M10 e_M10 => ?_)
        have h := h M10 e_M10
        refine qr_aload_n 97 98 rfl (x := 178) rfl dX12_readRound_97 ?_
        refine qr_getF 98 101 rfl ck12 5 (by decide) (b := 183) (by decide +kernel) rfl (by decide +kernel) (by decide +kernel) wm_1331 rfl dX12_readRound_98 ?_
        refine qr_iload_n 101 102 rfl (x := x1) rfl dX12_readRound_101 ?_
        refine qr_dup2 102 103 rfl rfl rfl dX12_readRound_102 ?_
        have hb11 := h.1
        have h := h.2
        refine qi_ld 103 104 rfl (N := 10) (by decide +kernel) (by decide +kernel) hb11.1 hb11.2 dX12_readRound_103 ?_
        refine qr_iconst 104 105 rfl (q_l32 _ rfl) dX12_readRound_104 ?_
        refine qr_iadd 105 106 rfl dX12_readRound_105 ?_
        have hb12 := h.1
        have h := h.2
        refine qi_st 106 107 rfl (N := 10) (by decide +kernel) (by decide +kernel) hb12.1 hb12.2 dX12_readRound_106 (fun M13 e_M13 => ?_)
        have h := h M13 e_M13
        refine qr_aload_n 107 108 rfl (x := 178) rfl dX12_readRound_107 ?_
        refine qw_U 108 111 rfl (av := []) ca_X12_goes wm_1485 wp_75 wm_1483 ck12 (by decide +kernel) rfl rfl (Nat.le_of_ble_eq_true rfl) dX12_readRound_108 h (fun M14 h => ?_)
        refine qr_goto 111 34 (by decide) dX12_readRound_111 ?_
        exact h
      · have h := h.2 c68
        refine qr_aload_n 71 72 rfl (x := 178) rfl dX12_readRound_71 ?_
        refine qr_iconst 72 73 rfl (q_l32 _ rfl) dX12_readRound_72 ?_
        refine qw_U 73 76 rfl (av := [qI 3]) ca_X12_fails wm_1519 wp_81 wm_1517 ck12 (by decide +kernel) rfl rfl (Nat.le_of_ble_eq_true rfl) dX12_readRound_73 h (fun M15 h => ?_)
        exact qe_u 76 rfl dX12_readRound_76 h
theorem dX12_readLaw_0 : decode cX12_readLaw 0 = .ok (.aload_n 0, 1) := by decide +kernel
theorem dX12_readLaw_1 : decode cX12_readLaw 1 = .ok (.invokevirtual 166, 3) := by decide +kernel
theorem dX12_readLaw_4 : decode cX12_readLaw 4 = .ok (.aload_n 0, 1) := by decide +kernel
theorem dX12_readLaw_5 : decode cX12_readLaw 5 = .ok (.bipush 31, 2) := by decide +kernel
theorem dX12_readLaw_7 : decode cX12_readLaw 7 = .ok (.invokevirtual 192, 3) := by decide +kernel
theorem dX12_readLaw_10 : decode cX12_readLaw 10 = .ok (.aload_n 0, 1) := by decide +kernel
theorem dX12_readLaw_11 : decode cX12_readLaw 11 = .ok (.getfield 24, 3) := by decide +kernel
theorem dX12_readLaw_14 : decode cX12_readLaw 14 = .ok (.sipush 603, 3) := by decide +kernel
theorem dX12_readLaw_17 : decode cX12_readLaw 17 = .ok (.iaload, 1) := by decide +kernel
theorem dX12_readLaw_18 : decode cX12_readLaw 18 = .ok (.istore_n 2, 1) := by decide +kernel
theorem dX12_readLaw_19 : decode cX12_readLaw 19 = .ok (.iload_n 1, 1) := by decide +kernel
theorem dX12_readLaw_20 : decode cX12_readLaw 20 = .ok (.ifCond .ne 11, 3) := by decide +kernel
theorem dX12_readLaw_23 : decode cX12_readLaw 23 = .ok (.aload_n 0, 1) := by decide +kernel
theorem dX12_readLaw_24 : decode cX12_readLaw 24 = .ok (.iconst 0, 1) := by decide +kernel
theorem dX12_readLaw_25 : decode cX12_readLaw 25 = .ok (.invokevirtual 189, 3) := by decide +kernel
theorem dX12_readLaw_28 : decode cX12_readLaw 28 = .ok (.goto 8, 3) := by decide +kernel
theorem dX12_readLaw_31 : decode cX12_readLaw 31 = .ok (.aload_n 0, 1) := by decide +kernel
theorem dX12_readLaw_32 : decode cX12_readLaw 32 = .ok (.iconst 0, 1) := by decide +kernel
theorem dX12_readLaw_33 : decode cX12_readLaw 33 = .ok (.invokevirtual 198, 3) := by decide +kernel
theorem dX12_readLaw_36 : decode cX12_readLaw 36 = .ok (.aload_n 0, 1) := by decide +kernel
theorem dX12_readLaw_37 : decode cX12_readLaw 37 = .ok (.getfield 157, 3) := by decide +kernel
theorem dX12_readLaw_40 : decode cX12_readLaw 40 = .ok (.ifCond .eq 4, 3) := by decide +kernel
theorem dX12_readLaw_43 : decode cX12_readLaw 43 = .ok (.return_, 1) := by decide +kernel
theorem dX12_readLaw_44 : decode cX12_readLaw 44 = .ok (.aload_n 0, 1) := by decide +kernel
theorem dX12_readLaw_45 : decode cX12_readLaw 45 = .ok (.getfield 24, 3) := by decide +kernel
theorem dX12_readLaw_48 : decode cX12_readLaw 48 = .ok (.bipush 96, 2) := by decide +kernel
theorem dX12_readLaw_50 : decode cX12_readLaw 50 = .ok (.iload_n 1, 1) := by decide +kernel
theorem dX12_readLaw_51 : decode cX12_readLaw 51 = .ok (.iadd, 1) := by decide +kernel
theorem dX12_readLaw_52 : decode cX12_readLaw 52 = .ok (.iconst 1, 1) := by decide +kernel
theorem dX12_readLaw_53 : decode cX12_readLaw 53 = .ok (.iastore, 1) := by decide +kernel
theorem dX12_readLaw_54 : decode cX12_readLaw 54 = .ok (.aload_n 0, 1) := by decide +kernel
theorem dX12_readLaw_55 : decode cX12_readLaw 55 = .ok (.getfield 24, 3) := by decide +kernel
theorem dX12_readLaw_58 : decode cX12_readLaw 58 = .ok (.bipush 98, 2) := by decide +kernel
theorem dX12_readLaw_60 : decode cX12_readLaw 60 = .ok (.iload_n 1, 1) := by decide +kernel
theorem dX12_readLaw_61 : decode cX12_readLaw 61 = .ok (.iadd, 1) := by decide +kernel
theorem dX12_readLaw_62 : decode cX12_readLaw 62 = .ok (.iload_n 2, 1) := by decide +kernel
theorem dX12_readLaw_63 : decode cX12_readLaw 63 = .ok (.iastore, 1) := by decide +kernel
theorem dX12_readLaw_64 : decode cX12_readLaw 64 = .ok (.aload_n 0, 1) := by decide +kernel
theorem dX12_readLaw_65 : decode cX12_readLaw 65 = .ok (.getfield 24, 3) := by decide +kernel
theorem dX12_readLaw_68 : decode cX12_readLaw 68 = .ok (.bipush 100, 2) := by decide +kernel
theorem dX12_readLaw_70 : decode cX12_readLaw 70 = .ok (.iload_n 1, 1) := by decide +kernel
theorem dX12_readLaw_71 : decode cX12_readLaw 71 = .ok (.iadd, 1) := by decide +kernel
theorem dX12_readLaw_72 : decode cX12_readLaw 72 = .ok (.aload_n 0, 1) := by decide +kernel
theorem dX12_readLaw_73 : decode cX12_readLaw 73 = .ok (.getfield 24, 3) := by decide +kernel
theorem dX12_readLaw_76 : decode cX12_readLaw 76 = .ok (.sipush 603, 3) := by decide +kernel
theorem dX12_readLaw_79 : decode cX12_readLaw 79 = .ok (.iaload, 1) := by decide +kernel
theorem dX12_readLaw_80 : decode cX12_readLaw 80 = .ok (.iload_n 2, 1) := by decide +kernel
theorem dX12_readLaw_81 : decode cX12_readLaw 81 = .ok (.isub, 1) := by decide +kernel
theorem dX12_readLaw_82 : decode cX12_readLaw 82 = .ok (.iastore, 1) := by decide +kernel
theorem dX12_readLaw_83 : decode cX12_readLaw 83 = .ok (.return_, 1) := by decide +kernel
theorem bX12_readLaw_0 {d : Nat} {P : q_Mem → Prop} {M : q_Mem} (x1 : Int) (h : q_kU yX12_goes mX12_goes d [qR 178] M (fun M1 => q_kU yX12_wants mX12_wants d [qR 178, qI 31] M1 (fun M2 => (∀ x2_3 : Int, x2_3 = (M2 182 603) → ((¬ x1 = 0) → q_kU yX12_readTruth mX12_readTruth d [qR 178, qI 0] M2 (fun M4 => q_v mX12_readLaw d (qPU P) M4 36 [some (qR 178), some (qI x1), some (qI x2_3)] [])) ∧ ((x1 = 0) → q_kU yX12_readSum mX12_readSum d [qR 178, qI 0] M2 (fun M5 => q_v mX12_readLaw d (qPU P) M5 36 [some (qR 178), some (qI x1), some (qI x2_3)] [])))))) : q_v mX12_readLaw d (qPU P) M 0 [some (qR 178), some (qI x1), none] [] := by
  refine qr_aload_n 0 1 rfl (x := 178) rfl dX12_readLaw_0 ?_
  refine qw_U 1 4 rfl (av := []) ca_X12_goes wm_1485 wp_75 wm_1483 ck12 (by decide +kernel) rfl rfl (Nat.le_of_ble_eq_true rfl) dX12_readLaw_1 h (fun M1 h => ?_)
  refine qr_aload_n 4 5 rfl (x := 178) rfl dX12_readLaw_4 ?_
  refine qr_bipush 5 7 rfl (q_l32 _ rfl) (by decide) dX12_readLaw_5 ?_
  refine qw_U 7 10 rfl (av := [qI 31]) ca_X12_wants wm_1507 wp_78 wm_1505 ck12 (by decide +kernel) rfl rfl (Nat.le_of_ble_eq_true rfl) dX12_readLaw_7 h (fun M2 h => ?_)
  refine qr_aload_n 10 11 rfl (x := 178) rfl dX12_readLaw_10 ?_
  refine qr_getF 11 14 rfl ck12 4 (by decide) (b := 182) (by decide +kernel) rfl (by decide +kernel) (by decide +kernel) wm_1330 rfl dX12_readLaw_11 ?_
  refine qr_sipush 14 17 rfl (q_l32 _ rfl) (by decide) dX12_readLaw_14 ?_
  refine qi_ld 17 18 rfl (N := 1504) (by decide +kernel) (by decide +kernel) (by decide) (by decide) dX12_readLaw_17 ?_
  refine qn_i 18 (fun x2_3 e_x2_3 => ?_)
  have h := h x2_3 e_x2_3
  refine qr_istore_n 18 19 rfl (by decide) rfl rfl dX12_readLaw_18 ?_
  refine qr_iload_n 19 20 rfl (x := x1) rfl dX12_readLaw_19 ?_
  refine qr_if_ne 20 23 31 rfl (by decide) dX12_readLaw_20 (fun c20 => ?_) (fun c20 => ?_)
  · have h := h.1 c20
    refine qr_aload_n 31 32 rfl (x := 178) rfl dX12_readLaw_31 ?_
    refine qr_iconst 32 33 rfl (q_l32 _ rfl) dX12_readLaw_32 ?_
    refine qw_U 33 36 rfl (av := [qI 0]) ca_X12_readTruth wm_1586 wp_97 wm_1584 ck12 (by decide +kernel) rfl rfl (Nat.le_of_ble_eq_true rfl) dX12_readLaw_33 h (fun M4 h => ?_)
    exact h
  · have h := h.2 c20
    refine qr_aload_n 23 24 rfl (x := 178) rfl dX12_readLaw_23 ?_
    refine qr_iconst 24 25 rfl (q_l32 _ rfl) dX12_readLaw_24 ?_
    refine qw_U 25 28 rfl (av := [qI 0]) ca_X12_readSum wm_1559 wp_91 wm_1557 ck12 (by decide +kernel) rfl rfl (Nat.le_of_ble_eq_true rfl) dX12_readLaw_25 h (fun M5 h => ?_)
    refine qr_goto 28 36 (by decide) dX12_readLaw_28 ?_
    exact h
theorem bX12_readLaw_36 {d : Nat} {P : q_Mem → Prop} {M : q_Mem} (x1 x2 : Int) (h : (((M 178 13) = 0) → (0 ≤ (q_add 96 x1) ∧ (q_add 96 x1) < (1504 : Int)) ∧ (∀ M2 : q_Mem, M2 = q_up M 182 (q_add 96 x1) 1 → (0 ≤ (q_add 98 x1) ∧ (q_add 98 x1) < (1504 : Int)) ∧ (∀ M4 : q_Mem, M4 = q_up M2 182 (q_add 98 x1) x2 → ((0 ≤ (q_add 100 x1) ∧ (q_add 100 x1) < (1504 : Int)) ∧ (∀ M6 : q_Mem, M6 = q_up M4 182 (q_add 100 x1) (q_sub (M4 182 603) x2) → P M6))))) ∧ ((¬ ((M 178 13) = 0)) → P M)) : q_v mX12_readLaw d (qPU P) M 36 [some (qR 178), some (qI x1), some (qI x2)] [] := by
  refine qr_aload_n 36 37 rfl (x := 178) rfl dX12_readLaw_36 ?_
  refine qg_i 37 40 rfl ck12 13 (kk := 13) (by decide) (by decide +kernel) (by decide +kernel) rfl wm_1339 rfl dX12_readLaw_37 ?_
  refine qr_if_eq 40 43 44 rfl (by decide) dX12_readLaw_40 (fun c40 => ?_) (fun c40 => ?_)
  · have h := h.1 c40
    refine qr_aload_n 44 45 rfl (x := 178) rfl dX12_readLaw_44 ?_
    refine qr_getF 45 48 rfl ck12 4 (by decide) (b := 182) (by decide +kernel) rfl (by decide +kernel) (by decide +kernel) wm_1330 rfl dX12_readLaw_45 ?_
    refine qr_bipush 48 50 rfl (q_l32 _ rfl) (by decide) dX12_readLaw_48 ?_
    refine qr_iload_n 50 51 rfl (x := x1) rfl dX12_readLaw_50 ?_
    refine qr_iadd 51 52 rfl dX12_readLaw_51 ?_
    refine qr_iconst 52 53 rfl (q_l32 _ rfl) dX12_readLaw_52 ?_
    have hb1 := h.1
    have h := h.2
    refine qi_st 53 54 rfl (N := 1504) (by decide +kernel) (by decide +kernel) hb1.1 hb1.2 dX12_readLaw_53 (fun M2 e_M2 => ?_)
    have h := h M2 e_M2
    refine qr_aload_n 54 55 rfl (x := 178) rfl dX12_readLaw_54 ?_
    refine qr_getF 55 58 rfl ck12 4 (by decide) (b := 182) (by decide +kernel) rfl (by decide +kernel) (by decide +kernel) wm_1330 rfl dX12_readLaw_55 ?_
    refine qr_bipush 58 60 rfl (q_l32 _ rfl) (by decide) dX12_readLaw_58 ?_
    refine qr_iload_n 60 61 rfl (x := x1) rfl dX12_readLaw_60 ?_
    refine qr_iadd 61 62 rfl dX12_readLaw_61 ?_
    refine qr_iload_n 62 63 rfl (x := x2) rfl dX12_readLaw_62 ?_
    have hb3 := h.1
    have h := h.2
    refine qi_st 63 64 rfl (N := 1504) (by decide +kernel) (by decide +kernel) hb3.1 hb3.2 dX12_readLaw_63 (fun M4 e_M4 => ?_)
    have h := h M4 e_M4
    refine qr_aload_n 64 65 rfl (x := 178) rfl dX12_readLaw_64 ?_
    refine qr_getF 65 68 rfl ck12 4 (by decide) (b := 182) (by decide +kernel) rfl (by decide +kernel) (by decide +kernel) wm_1330 rfl dX12_readLaw_65 ?_
    refine qr_bipush 68 70 rfl (q_l32 _ rfl) (by decide) dX12_readLaw_68 ?_
    refine qr_iload_n 70 71 rfl (x := x1) rfl dX12_readLaw_70 ?_
    refine qr_iadd 71 72 rfl dX12_readLaw_71 ?_
    refine qr_aload_n 72 73 rfl (x := 178) rfl dX12_readLaw_72 ?_
    refine qr_getF 73 76 rfl ck12 4 (by decide) (b := 182) (by decide +kernel) rfl (by decide +kernel) (by decide +kernel) wm_1330 rfl dX12_readLaw_73 ?_
    refine qr_sipush 76 79 rfl (q_l32 _ rfl) (by decide) dX12_readLaw_76 ?_
    refine qi_ld 79 80 rfl (N := 1504) (by decide +kernel) (by decide +kernel) (by decide) (by decide) dX12_readLaw_79 ?_
    refine qr_iload_n 80 81 rfl (x := x2) rfl dX12_readLaw_80 ?_
    refine qr_isub 81 82 rfl dX12_readLaw_81 ?_
    have hb5 := h.1
    have h := h.2
    refine qi_st 82 83 rfl (N := 1504) (by decide +kernel) (by decide +kernel) hb5.1 hb5.2 dX12_readLaw_82 (fun M6 e_M6 => ?_)
    have h := h M6 e_M6
    exact qe_u 83 rfl dX12_readLaw_83 h
  · have h := h.2 c40
    exact qe_u 43 rfl dX12_readLaw_43 h
theorem dX12_readLine_0 : decode cX12_readLine 0 = .ok (.aload_n 0, 1) := by decide +kernel
theorem dX12_readLine_1 : decode cX12_readLine 1 = .ok (.getfield 157, 3) := by decide +kernel
theorem dX12_readLine_4 : decode cX12_readLine 4 = .ok (.ifCond .eq 4, 3) := by decide +kernel
theorem dX12_readLine_7 : decode cX12_readLine 7 = .ok (.return_, 1) := by decide +kernel
theorem dX12_readLine_8 : decode cX12_readLine 8 = .ok (.aload_n 0, 1) := by decide +kernel
theorem dX12_readLine_9 : decode cX12_readLine 9 = .ok (.iconst 2, 1) := by decide +kernel
theorem dX12_readLine_10 : decode cX12_readLine 10 = .ok (.invokevirtual 163, 3) := by decide +kernel
theorem dX12_readLine_13 : decode cX12_readLine 13 = .ok (.ifCond .eq 10, 3) := by decide +kernel
theorem dX12_readLine_16 : decode cX12_readLine 16 = .ok (.aload_n 0, 1) := by decide +kernel
theorem dX12_readLine_17 : decode cX12_readLine 17 = .ok (.invokevirtual 225, 3) := by decide +kernel
theorem dX12_readLine_20 : decode cX12_readLine 20 = .ok (.goto 71, 3) := by decide +kernel
theorem dX12_readLine_23 : decode cX12_readLine 23 = .ok (.aload_n 0, 1) := by decide +kernel
theorem dX12_readLine_24 : decode cX12_readLine 24 = .ok (.iconst 3, 1) := by decide +kernel
theorem dX12_readLine_25 : decode cX12_readLine 25 = .ok (.invokevirtual 163, 3) := by decide +kernel
theorem dX12_readLine_28 : decode cX12_readLine 28 = .ok (.ifCond .eq 10, 3) := by decide +kernel
theorem dX12_readLine_31 : decode cX12_readLine 31 = .ok (.aload_n 0, 1) := by decide +kernel
theorem dX12_readLine_32 : decode cX12_readLine 32 = .ok (.invokevirtual 228, 3) := by decide +kernel
theorem dX12_readLine_35 : decode cX12_readLine 35 = .ok (.goto 56, 3) := by decide +kernel
theorem dX12_readLine_38 : decode cX12_readLine 38 = .ok (.aload_n 0, 1) := by decide +kernel
theorem dX12_readLine_39 : decode cX12_readLine 39 = .ok (.bipush 6, 2) := by decide +kernel
theorem dX12_readLine_41 : decode cX12_readLine 41 = .ok (.invokevirtual 163, 3) := by decide +kernel
theorem dX12_readLine_44 : decode cX12_readLine 44 = .ok (.ifCond .eq 10, 3) := by decide +kernel
theorem dX12_readLine_47 : decode cX12_readLine 47 = .ok (.aload_n 0, 1) := by decide +kernel
theorem dX12_readLine_48 : decode cX12_readLine 48 = .ok (.invokevirtual 231, 3) := by decide +kernel
theorem dX12_readLine_51 : decode cX12_readLine 51 = .ok (.goto 40, 3) := by decide +kernel
theorem dX12_readLine_54 : decode cX12_readLine 54 = .ok (.aload_n 0, 1) := by decide +kernel
theorem dX12_readLine_55 : decode cX12_readLine 55 = .ok (.bipush 7, 2) := by decide +kernel
theorem dX12_readLine_57 : decode cX12_readLine 57 = .ok (.invokevirtual 163, 3) := by decide +kernel
theorem dX12_readLine_60 : decode cX12_readLine 60 = .ok (.ifCond .ne 12, 3) := by decide +kernel
theorem dX12_readLine_63 : decode cX12_readLine 63 = .ok (.aload_n 0, 1) := by decide +kernel
theorem dX12_readLine_64 : decode cX12_readLine 64 = .ok (.bipush 8, 2) := by decide +kernel
theorem dX12_readLine_66 : decode cX12_readLine 66 = .ok (.invokevirtual 163, 3) := by decide +kernel
theorem dX12_readLine_69 : decode cX12_readLine 69 = .ok (.ifCond .eq 17, 3) := by decide +kernel
theorem dX12_readLine_72 : decode cX12_readLine 72 = .ok (.aload_n 0, 1) := by decide +kernel
theorem dX12_readLine_73 : decode cX12_readLine 73 = .ok (.aload_n 0, 1) := by decide +kernel
theorem dX12_readLine_74 : decode cX12_readLine 74 = .ok (.getfield 139, 3) := by decide +kernel
theorem dX12_readLine_77 : decode cX12_readLine 77 = .ok (.bipush 7, 2) := by decide +kernel
theorem dX12_readLine_79 : decode cX12_readLine 79 = .ok (.isub, 1) := by decide +kernel
theorem dX12_readLine_80 : decode cX12_readLine 80 = .ok (.invokevirtual 234, 3) := by decide +kernel
theorem dX12_readLine_83 : decode cX12_readLine 83 = .ok (.goto 8, 3) := by decide +kernel
theorem dX12_readLine_86 : decode cX12_readLine 86 = .ok (.aload_n 0, 1) := by decide +kernel
theorem dX12_readLine_87 : decode cX12_readLine 87 = .ok (.iconst 2, 1) := by decide +kernel
theorem dX12_readLine_88 : decode cX12_readLine 88 = .ok (.invokevirtual 172, 3) := by decide +kernel
theorem dX12_readLine_91 : decode cX12_readLine 91 = .ok (.return_, 1) := by decide +kernel
theorem bX12_readLine_0 {d : Nat} {P : q_Mem → Prop} {M : q_Mem} (h : (((M 178 13) = 0) → q_kI yX12_is mX12_is d [qR 178, qI 2] M (fun v2 M1 => ((v2 = 0) → q_kI yX12_is mX12_is d [qR 178, qI 3] M1 (fun v4 M3 => ((v4 = 0) → q_kI yX12_is mX12_is d [qR 178, qI 6] M3 (fun v6 M5 => ((v6 = 0) → q_kI yX12_is mX12_is d [qR 178, qI 7] M5 (fun v8 M7 => ((¬ v8 = 0) → q_v mX12_readLine d (qPU P) M7 72 [some (qR 178)] []) ∧ ((v8 = 0) → q_kI yX12_is mX12_is d [qR 178, qI 8] M7 (fun v10 M9 => ((v10 = 0) → q_kU yX12_fails mX12_fails d [qR 178, qI 2] M9 (fun M11 => P M11)) ∧ ((¬ (v10 = 0)) → q_v mX12_readLine d (qPU P) M9 72 [some (qR 178)] []))))) ∧ ((¬ (v6 = 0)) → q_kU yX12_readRound mX12_readRound d [qR 178] M5 (fun M12 => P M12)))) ∧ ((¬ (v4 = 0)) → q_kU yX12_readLink mX12_readLink d [qR 178] M3 (fun M13 => P M13)))) ∧ ((¬ (v2 = 0)) → q_kU yX12_readNode mX12_readNode d [qR 178] M1 (fun M14 => P M14)))) ∧ ((¬ ((M 178 13) = 0)) → P M)) : q_v mX12_readLine d (qPU P) M 0 [some (qR 178)] [] := by
  refine qr_aload_n 0 1 rfl (x := 178) rfl dX12_readLine_0 ?_
  refine qg_i 1 4 rfl ck12 13 (kk := 13) (by decide) (by decide +kernel) (by decide +kernel) rfl wm_1339 rfl dX12_readLine_1 ?_
  refine qr_if_eq 4 7 8 rfl (by decide) dX12_readLine_4 (fun c4 => ?_) (fun c4 => ?_)
  · have h := h.1 c4
    refine qr_aload_n 8 9 rfl (x := 178) rfl dX12_readLine_8 ?_
    refine qr_iconst 9 10 rfl (q_l32 _ rfl) dX12_readLine_9 ?_
    refine qw_I 10 13 rfl (av := [qI 2]) ca_X12_is wm_1515 wp_80 wm_1513 ck12 (by decide +kernel) rfl rfl (Nat.le_of_ble_eq_true rfl) dX12_readLine_10 h (fun v2 M1 h => ?_)
    refine qr_if_eq 13 16 23 rfl (by decide) dX12_readLine_13 (fun c13 => ?_) (fun c13 => ?_)
    · have h := h.1 c13
      refine qr_aload_n 23 24 rfl (x := 178) rfl dX12_readLine_23 ?_
      refine qr_iconst 24 25 rfl (q_l32 _ rfl) dX12_readLine_24 ?_
      refine qw_I 25 28 rfl (av := [qI 3]) ca_X12_is wm_1515 wp_80 wm_1513 ck12 (by decide +kernel) rfl rfl (Nat.le_of_ble_eq_true rfl) dX12_readLine_25 h (fun v4 M3 h => ?_)
      refine qr_if_eq 28 31 38 rfl (by decide) dX12_readLine_28 (fun c28 => ?_) (fun c28 => ?_)
      · have h := h.1 c28
        refine qr_aload_n 38 39 rfl (x := 178) rfl dX12_readLine_38 ?_
        refine qr_bipush 39 41 rfl (q_l32 _ rfl) (by decide) dX12_readLine_39 ?_
        refine qw_I 41 44 rfl (av := [qI 6]) ca_X12_is wm_1515 wp_80 wm_1513 ck12 (by decide +kernel) rfl rfl (Nat.le_of_ble_eq_true rfl) dX12_readLine_41 h (fun v6 M5 h => ?_)
        refine qr_if_eq 44 47 54 rfl (by decide) dX12_readLine_44 (fun c44 => ?_) (fun c44 => ?_)
        · have h := h.1 c44
          refine qr_aload_n 54 55 rfl (x := 178) rfl dX12_readLine_54 ?_
          refine qr_bipush 55 57 rfl (q_l32 _ rfl) (by decide) dX12_readLine_55 ?_
          refine qw_I 57 60 rfl (av := [qI 7]) ca_X12_is wm_1515 wp_80 wm_1513 ck12 (by decide +kernel) rfl rfl (Nat.le_of_ble_eq_true rfl) dX12_readLine_57 h (fun v8 M7 h => ?_)
          refine qr_if_ne 60 63 72 rfl (by decide) dX12_readLine_60 (fun c60 => ?_) (fun c60 => ?_)
          · have h := h.1 c60
            exact h
          · have h := h.2 c60
            refine qr_aload_n 63 64 rfl (x := 178) rfl dX12_readLine_63 ?_
            refine qr_bipush 64 66 rfl (q_l32 _ rfl) (by decide) dX12_readLine_64 ?_
            refine qw_I 66 69 rfl (av := [qI 8]) ca_X12_is wm_1515 wp_80 wm_1513 ck12 (by decide +kernel) rfl rfl (Nat.le_of_ble_eq_true rfl) dX12_readLine_66 h (fun v10 M9 h => ?_)
            refine qr_if_eq 69 72 86 rfl (by decide) dX12_readLine_69 (fun c69 => ?_) (fun c69 => ?_)
            · have h := h.1 c69
              refine qr_aload_n 86 87 rfl (x := 178) rfl dX12_readLine_86 ?_
              refine qr_iconst 87 88 rfl (q_l32 _ rfl) dX12_readLine_87 ?_
              refine qw_U 88 91 rfl (av := [qI 2]) ca_X12_fails wm_1519 wp_81 wm_1517 ck12 (by decide +kernel) rfl rfl (Nat.le_of_ble_eq_true rfl) dX12_readLine_88 h (fun M11 h => ?_)
              exact qe_u 91 rfl dX12_readLine_91 h
            · have h := h.2 c69
              exact h
        · have h := h.2 c44
          refine qr_aload_n 47 48 rfl (x := 178) rfl dX12_readLine_47 ?_
          refine qw_U 48 51 rfl (av := []) ca_X12_readRound wm_1543 wp_87 wm_1541 ck12 (by decide +kernel) rfl rfl (Nat.le_of_ble_eq_true rfl) dX12_readLine_48 h (fun M12 h => ?_)
          refine qr_goto 51 91 (by decide) dX12_readLine_51 ?_
          exact qe_u 91 rfl dX12_readLine_91 h
      · have h := h.2 c28
        refine qr_aload_n 31 32 rfl (x := 178) rfl dX12_readLine_31 ?_
        refine qw_U 32 35 rfl (av := []) ca_X12_readLink wm_1539 wp_86 wm_1537 ck12 (by decide +kernel) rfl rfl (Nat.le_of_ble_eq_true rfl) dX12_readLine_32 h (fun M13 h => ?_)
        refine qr_goto 35 91 (by decide) dX12_readLine_35 ?_
        exact qe_u 91 rfl dX12_readLine_91 h
    · have h := h.2 c13
      refine qr_aload_n 16 17 rfl (x := 178) rfl dX12_readLine_16 ?_
      refine qw_U 17 20 rfl (av := []) ca_X12_readNode wm_1535 wp_85 wm_1533 ck12 (by decide +kernel) rfl rfl (Nat.le_of_ble_eq_true rfl) dX12_readLine_17 h (fun M14 h => ?_)
      refine qr_goto 20 91 (by decide) dX12_readLine_20 ?_
      exact qe_u 91 rfl dX12_readLine_91 h
  · have h := h.2 c4
    exact qe_u 7 rfl dX12_readLine_7 h
theorem bX12_readLine_72 {d : Nat} {P : q_Mem → Prop} {M : q_Mem} (h : q_kU yX12_readLaw mX12_readLaw d [qR 178, qI (q_sub (M 178 11) 7)] M (fun M1 => P M1)) : q_v mX12_readLine d (qPU P) M 72 [some (qR 178)] [] := by
  refine qr_aload_n 72 73 rfl (x := 178) rfl dX12_readLine_72 ?_
  refine qr_aload_n 73 74 rfl (x := 178) rfl dX12_readLine_73 ?_
  refine qg_i 74 77 rfl ck12 11 (kk := 11) (by decide) (by decide +kernel) (by decide +kernel) rfl wm_1337 rfl dX12_readLine_74 ?_
  refine qr_bipush 77 79 rfl (q_l32 _ rfl) (by decide) dX12_readLine_77 ?_
  refine qr_isub 79 80 rfl dX12_readLine_79 ?_
  refine qw_U 80 83 rfl (av := [qI (q_sub (M 178 11) 7)]) ca_X12_readLaw wm_1555 wp_90 wm_1553 ck12 (by decide +kernel) rfl rfl (Nat.le_of_ble_eq_true rfl) dX12_readLine_80 h (fun M1 h => ?_)
  refine qr_goto 83 91 (by decide) dX12_readLine_83 ?_
  exact qe_u 91 rfl dX12_readLine_91 h
theorem dX12_closes_0 : decode cX12_closes 0 = .ok (.aload_n 0, 1) := by decide +kernel
theorem dX12_closes_1 : decode cX12_closes 1 = .ok (.bipush 30, 2) := by decide +kernel
theorem dX12_closes_3 : decode cX12_closes 3 = .ok (.invokevirtual 192, 3) := by decide +kernel
theorem dX12_closes_6 : decode cX12_closes 6 = .ok (.aload_n 0, 1) := by decide +kernel
theorem dX12_closes_7 : decode cX12_closes 7 = .ok (.getfield 24, 3) := by decide +kernel
theorem dX12_closes_10 : decode cX12_closes 10 = .ok (.iconst 0, 1) := by decide +kernel
theorem dX12_closes_11 : decode cX12_closes 11 = .ok (.dup2, 1) := by decide +kernel
theorem dX12_closes_12 : decode cX12_closes 12 = .ok (.iaload, 1) := by decide +kernel
theorem dX12_closes_13 : decode cX12_closes 13 = .ok (.iconst 1, 1) := by decide +kernel
theorem dX12_closes_14 : decode cX12_closes 14 = .ok (.iadd, 1) := by decide +kernel
theorem dX12_closes_15 : decode cX12_closes 15 = .ok (.iastore, 1) := by decide +kernel
theorem dX12_closes_16 : decode cX12_closes 16 = .ok (.return_, 1) := by decide +kernel
theorem bX12_closes_0 {d : Nat} {P : q_Mem → Prop} {M : q_Mem} (h : q_kU yX12_wants mX12_wants d [qR 178, qI 30] M (fun M1 => ((∀ M2 : q_Mem, M2 = q_up M1 182 0 (q_add (M1 182 0) 1) → P M2)))) : q_v mX12_closes d (qPU P) M 0 [some (qR 178)] [] := by
  refine qr_aload_n 0 1 rfl (x := 178) rfl dX12_closes_0 ?_
  refine qr_bipush 1 3 rfl (q_l32 _ rfl) (by decide) dX12_closes_1 ?_
  refine qw_U 3 6 rfl (av := [qI 30]) ca_X12_wants wm_1507 wp_78 wm_1505 ck12 (by decide +kernel) rfl rfl (Nat.le_of_ble_eq_true rfl) dX12_closes_3 h (fun M1 h => ?_)
  refine qr_aload_n 6 7 rfl (x := 178) rfl dX12_closes_6 ?_
  refine qr_getF 7 10 rfl ck12 4 (by decide) (b := 182) (by decide +kernel) rfl (by decide +kernel) (by decide +kernel) wm_1330 rfl dX12_closes_7 ?_
  refine qr_iconst 10 11 rfl (q_l32 _ rfl) dX12_closes_10 ?_
  refine qr_dup2 11 12 rfl rfl rfl dX12_closes_11 ?_
  refine qi_ld 12 13 rfl (N := 1504) (by decide +kernel) (by decide +kernel) (by decide) (by decide) dX12_closes_12 ?_
  refine qr_iconst 13 14 rfl (q_l32 _ rfl) dX12_closes_13 ?_
  refine qr_iadd 14 15 rfl dX12_closes_14 ?_
  refine qi_st 15 16 rfl (N := 1504) (by decide +kernel) (by decide +kernel) (by decide) (by decide) dX12_closes_15 (fun M2 e_M2 => ?_)
  have h := h M2 e_M2
  exact qe_u 16 rfl dX12_closes_16 h
theorem dX12_laysOrder_0 : decode cX12_laysOrder 0 = .ok (.iconst 0, 1) := by decide +kernel
theorem dX12_laysOrder_1 : decode cX12_laysOrder 1 = .ok (.istore_n 1, 1) := by decide +kernel
theorem dX12_laysOrder_2 : decode cX12_laysOrder 2 = .ok (.iconst 0, 1) := by decide +kernel
theorem dX12_laysOrder_3 : decode cX12_laysOrder 3 = .ok (.istore_n 2, 1) := by decide +kernel
theorem dX12_laysOrder_4 : decode cX12_laysOrder 4 = .ok (.iload_n 2, 1) := by decide +kernel
theorem dX12_laysOrder_5 : decode cX12_laysOrder 5 = .ok (.bipush 10, 2) := by decide +kernel
theorem dX12_laysOrder_7 : decode cX12_laysOrder 7 = .ok (.if_icmp .ge 112, 3) := by decide +kernel
theorem dX12_laysOrder_10 : decode cX12_laysOrder 10 = .ok (.aload_n 0, 1) := by decide +kernel
theorem dX12_laysOrder_11 : decode cX12_laysOrder 11 = .ok (.getfield 24, 3) := by decide +kernel
theorem dX12_laysOrder_14 : decode cX12_laysOrder 14 = .ok (.bipush 85, 2) := by decide +kernel
theorem dX12_laysOrder_16 : decode cX12_laysOrder 16 = .ok (.iload_n 2, 1) := by decide +kernel
theorem dX12_laysOrder_17 : decode cX12_laysOrder 17 = .ok (.iadd, 1) := by decide +kernel
theorem dX12_laysOrder_18 : decode cX12_laysOrder 18 = .ok (.iload_n 1, 1) := by decide +kernel
theorem dX12_laysOrder_19 : decode cX12_laysOrder 19 = .ok (.iastore, 1) := by decide +kernel
theorem dX12_laysOrder_20 : decode cX12_laysOrder 20 = .ok (.iconst 0, 1) := by decide +kernel
theorem dX12_laysOrder_21 : decode cX12_laysOrder 21 = .ok (.istore_n 3, 1) := by decide +kernel
theorem dX12_laysOrder_22 : decode cX12_laysOrder 22 = .ok (.iload_n 3, 1) := by decide +kernel
theorem dX12_laysOrder_23 : decode cX12_laysOrder 23 = .ok (.aload_n 0, 1) := by decide +kernel
theorem dX12_laysOrder_24 : decode cX12_laysOrder 24 = .ok (.getfield 27, 3) := by decide +kernel
theorem dX12_laysOrder_27 : decode cX12_laysOrder 27 = .ok (.iload_n 2, 1) := by decide +kernel
theorem dX12_laysOrder_28 : decode cX12_laysOrder 28 = .ok (.iaload, 1) := by decide +kernel
theorem dX12_laysOrder_29 : decode cX12_laysOrder 29 = .ok (.if_icmp .ge 32, 3) := by decide +kernel
theorem dX12_laysOrder_32 : decode cX12_laysOrder 32 = .ok (.aload_n 0, 1) := by decide +kernel
theorem dX12_laysOrder_33 : decode cX12_laysOrder 33 = .ok (.getfield 24, 3) := by decide +kernel
theorem dX12_laysOrder_36 : decode cX12_laysOrder 36 = .ok (.bipush 19, 2) := by decide +kernel
theorem dX12_laysOrder_38 : decode cX12_laysOrder 38 = .ok (.iload_n 1, 1) := by decide +kernel
theorem dX12_laysOrder_39 : decode cX12_laysOrder 39 = .ok (.iadd, 1) := by decide +kernel
theorem dX12_laysOrder_40 : decode cX12_laysOrder 40 = .ok (.aload_n 0, 1) := by decide +kernel
theorem dX12_laysOrder_41 : decode cX12_laysOrder 41 = .ok (.getfield 30, 3) := by decide +kernel
theorem dX12_laysOrder_44 : decode cX12_laysOrder 44 = .ok (.bipush 16, 2) := by decide +kernel
theorem dX12_laysOrder_46 : decode cX12_laysOrder 46 = .ok (.iload_n 2, 1) := by decide +kernel
theorem dX12_laysOrder_47 : decode cX12_laysOrder 47 = .ok (.imul, 1) := by decide +kernel
theorem dX12_laysOrder_48 : decode cX12_laysOrder 48 = .ok (.iload_n 3, 1) := by decide +kernel
theorem dX12_laysOrder_49 : decode cX12_laysOrder 49 = .ok (.iadd, 1) := by decide +kernel
theorem dX12_laysOrder_50 : decode cX12_laysOrder 50 = .ok (.iaload, 1) := by decide +kernel
theorem dX12_laysOrder_51 : decode cX12_laysOrder 51 = .ok (.iastore, 1) := by decide +kernel
theorem dX12_laysOrder_52 : decode cX12_laysOrder 52 = .ok (.iinc 1 1, 3) := by decide +kernel
theorem dX12_laysOrder_55 : decode cX12_laysOrder 55 = .ok (.iinc 3 1, 3) := by decide +kernel
theorem dX12_laysOrder_58 : decode cX12_laysOrder 58 = .ok (.goto (-36), 3) := by decide +kernel
theorem dX12_laysOrder_61 : decode cX12_laysOrder 61 = .ok (.iconst 0, 1) := by decide +kernel
theorem dX12_laysOrder_62 : decode cX12_laysOrder 62 = .ok (.istore_n 3, 1) := by decide +kernel
theorem dX12_laysOrder_63 : decode cX12_laysOrder 63 = .ok (.iload_n 3, 1) := by decide +kernel
theorem dX12_laysOrder_64 : decode cX12_laysOrder 64 = .ok (.bipush 16, 2) := by decide +kernel
theorem dX12_laysOrder_66 : decode cX12_laysOrder 66 = .ok (.if_icmp .ge 47, 3) := by decide +kernel
theorem dX12_laysOrder_69 : decode cX12_laysOrder 69 = .ok (.aload_n 0, 1) := by decide +kernel
theorem dX12_laysOrder_70 : decode cX12_laysOrder 70 = .ok (.aload_n 0, 1) := by decide +kernel
theorem dX12_laysOrder_71 : decode cX12_laysOrder 71 = .ok (.getfield 24, 3) := by decide +kernel
theorem dX12_laysOrder_74 : decode cX12_laysOrder 74 = .ok (.iload_n 3, 1) := by decide +kernel
theorem dX12_laysOrder_75 : decode cX12_laysOrder 75 = .ok (.iload_n 2, 1) := by decide +kernel
theorem dX12_laysOrder_76 : decode cX12_laysOrder 76 = .ok (.invokevirtual 217, 3) := by decide +kernel
theorem dX12_laysOrder_79 : decode cX12_laysOrder 79 = .ok (.ifCond .eq 28, 3) := by decide +kernel
theorem dX12_laysOrder_82 : decode cX12_laysOrder 82 = .ok (.aload_n 0, 1) := by decide +kernel
theorem dX12_laysOrder_83 : decode cX12_laysOrder 83 = .ok (.iload_n 2, 1) := by decide +kernel
theorem dX12_laysOrder_84 : decode cX12_laysOrder 84 = .ok (.iload_n 3, 1) := by decide +kernel
theorem dX12_laysOrder_85 : decode cX12_laysOrder 85 = .ok (.invokevirtual 221, 3) := by decide +kernel
theorem dX12_laysOrder_88 : decode cX12_laysOrder 88 = .ok (.ifCond .eq 6, 3) := by decide +kernel
theorem dX12_laysOrder_91 : decode cX12_laysOrder 91 = .ok (.goto 16, 3) := by decide +kernel
theorem dX12_laysOrder_94 : decode cX12_laysOrder 94 = .ok (.aload_n 0, 1) := by decide +kernel
theorem dX12_laysOrder_95 : decode cX12_laysOrder 95 = .ok (.getfield 24, 3) := by decide +kernel
theorem dX12_laysOrder_98 : decode cX12_laysOrder 98 = .ok (.bipush 19, 2) := by decide +kernel
theorem dX12_laysOrder_100 : decode cX12_laysOrder 100 = .ok (.iload_n 1, 1) := by decide +kernel
theorem dX12_laysOrder_101 : decode cX12_laysOrder 101 = .ok (.iadd, 1) := by decide +kernel
theorem dX12_laysOrder_102 : decode cX12_laysOrder 102 = .ok (.iload_n 3, 1) := by decide +kernel
theorem dX12_laysOrder_103 : decode cX12_laysOrder 103 = .ok (.iastore, 1) := by decide +kernel
theorem dX12_laysOrder_104 : decode cX12_laysOrder 104 = .ok (.iinc 1 1, 3) := by decide +kernel
theorem dX12_laysOrder_107 : decode cX12_laysOrder 107 = .ok (.iinc 3 1, 3) := by decide +kernel
theorem dX12_laysOrder_110 : decode cX12_laysOrder 110 = .ok (.goto (-47), 3) := by decide +kernel
theorem dX12_laysOrder_113 : decode cX12_laysOrder 113 = .ok (.iinc 2 1, 3) := by decide +kernel
theorem dX12_laysOrder_116 : decode cX12_laysOrder 116 = .ok (.goto (-112), 3) := by decide +kernel
theorem dX12_laysOrder_119 : decode cX12_laysOrder 119 = .ok (.aload_n 0, 1) := by decide +kernel
theorem dX12_laysOrder_120 : decode cX12_laysOrder 120 = .ok (.getfield 24, 3) := by decide +kernel
theorem dX12_laysOrder_123 : decode cX12_laysOrder 123 = .ok (.bipush 95, 2) := by decide +kernel
theorem dX12_laysOrder_125 : decode cX12_laysOrder 125 = .ok (.iload_n 1, 1) := by decide +kernel
theorem dX12_laysOrder_126 : decode cX12_laysOrder 126 = .ok (.iastore, 1) := by decide +kernel
theorem dX12_laysOrder_127 : decode cX12_laysOrder 127 = .ok (.return_, 1) := by decide +kernel
theorem bX12_laysOrder_0 {d : Nat} {P : q_Mem → Prop} {M : q_Mem} (h : q_v mX12_laysOrder d (qPU P) M 4 [some (qR 178), some (qI 0), some (qI 0), none] []) : q_v mX12_laysOrder d (qPU P) M 0 [some (qR 178), none, none, none] [] := by
  refine qr_iconst 0 1 rfl (q_l32 _ rfl) dX12_laysOrder_0 ?_
  refine qr_istore_n 1 2 rfl (by decide) rfl rfl dX12_laysOrder_1 ?_
  refine qr_iconst 2 3 rfl (q_l32 _ rfl) dX12_laysOrder_2 ?_
  refine qr_istore_n 3 4 rfl (by decide) rfl rfl dX12_laysOrder_3 ?_
  exact h
theorem bX12_laysOrder_4 {d : Nat} {P : q_Mem → Prop} {M : q_Mem} (x1 x2 : Int) (h : (((10 : Int) ≤ x2) → (∀ M1 : q_Mem, M1 = q_up M 182 95 x1 → P M1)) ∧ ((¬ ((10 : Int) ≤ x2)) → (0 ≤ (q_add 85 x2) ∧ (q_add 85 x2) < (1504 : Int)) ∧ (∀ M3 : q_Mem, M3 = q_up M 182 (q_add 85 x2) x1 → q_v mX12_laysOrder d (qPU P) M3 22 [some (qR 178), some (qI x1), some (qI x2), some (qI 0)] []))) : q_v mX12_laysOrder d (qPU P) M 4 [some (qR 178), some (qI x1), some (qI x2), none] [] := by
  refine qr_iload_n 4 5 rfl (x := x2) rfl dX12_laysOrder_4 ?_
  refine qr_bipush 5 7 rfl (q_l32 _ rfl) (by decide) dX12_laysOrder_5 ?_
  refine qr_icmp_ge 7 10 119 rfl (by decide) dX12_laysOrder_7 (fun c7 => ?_) (fun c7 => ?_)
  · have h := h.1 c7
    refine qr_aload_n 119 120 rfl (x := 178) rfl dX12_laysOrder_119 ?_
    refine qr_getF 120 123 rfl ck12 4 (by decide) (b := 182) (by decide +kernel) rfl (by decide +kernel) (by decide +kernel) wm_1330 rfl dX12_laysOrder_120 ?_
    refine qr_bipush 123 125 rfl (q_l32 _ rfl) (by decide) dX12_laysOrder_123 ?_
    refine qr_iload_n 125 126 rfl (x := x1) rfl dX12_laysOrder_125 ?_
    refine qi_st 126 127 rfl (N := 1504) (by decide +kernel) (by decide +kernel) (by decide) (by decide) dX12_laysOrder_126 (fun M1 e_M1 => ?_)
    have h := h M1 e_M1
    exact qe_u 127 rfl dX12_laysOrder_127 h
  · have h := h.2 c7
    refine qr_aload_n 10 11 rfl (x := 178) rfl dX12_laysOrder_10 ?_
    refine qr_getF 11 14 rfl ck12 4 (by decide) (b := 182) (by decide +kernel) rfl (by decide +kernel) (by decide +kernel) wm_1330 rfl dX12_laysOrder_11 ?_
    refine qr_bipush 14 16 rfl (q_l32 _ rfl) (by decide) dX12_laysOrder_14 ?_
    refine qr_iload_n 16 17 rfl (x := x2) rfl dX12_laysOrder_16 ?_
    refine qr_iadd 17 18 rfl dX12_laysOrder_17 ?_
    refine qr_iload_n 18 19 rfl (x := x1) rfl dX12_laysOrder_18 ?_
    have hb2 := h.1
    have h := h.2
    refine qi_st 19 20 rfl (N := 1504) (by decide +kernel) (by decide +kernel) hb2.1 hb2.2 dX12_laysOrder_19 (fun M3 e_M3 => ?_)
    have h := h M3 e_M3
    refine qr_iconst 20 21 rfl (q_l32 _ rfl) dX12_laysOrder_20 ?_
    refine qr_istore_n 21 22 rfl (by decide) rfl rfl dX12_laysOrder_21 ?_
    exact h
theorem bX12_laysOrder_22 {d : Nat} {P : q_Mem → Prop} {M : q_Mem} (x1 x2 x3 : Int) (h : (0 ≤ x2 ∧ x2 < (10 : Int)) ∧ ((((M 183 x2) ≤ x3) → q_v mX12_laysOrder d (qPU P) M 63 [some (qR 178), some (qI x1), some (qI x2), some (qI 0)] []) ∧ ((¬ ((M 183 x2) ≤ x3)) → (0 ≤ (q_add (q_mul 16 x2) x3) ∧ (q_add (q_mul 16 x2) x3) < (160 : Int)) ∧ ((0 ≤ (q_add 19 x1) ∧ (q_add 19 x1) < (1504 : Int)) ∧ (∀ M4 : q_Mem, M4 = q_up M 182 (q_add 19 x1) (M 184 (q_add (q_mul 16 x2) x3)) → q_v mX12_laysOrder d (qPU P) M4 22 [some (qR 178), some (qI (q_add x1 1)), some (qI x2), some (qI (q_add x3 1))] []))))) : q_v mX12_laysOrder d (qPU P) M 22 [some (qR 178), some (qI x1), some (qI x2), some (qI x3)] [] := by
  refine qr_iload_n 22 23 rfl (x := x3) rfl dX12_laysOrder_22 ?_
  refine qr_aload_n 23 24 rfl (x := 178) rfl dX12_laysOrder_23 ?_
  refine qr_getF 24 27 rfl ck12 5 (by decide) (b := 183) (by decide +kernel) rfl (by decide +kernel) (by decide +kernel) wm_1331 rfl dX12_laysOrder_24 ?_
  refine qr_iload_n 27 28 rfl (x := x2) rfl dX12_laysOrder_27 ?_
  have hb1 := h.1
  have h := h.2
  refine qi_ld 28 29 rfl (N := 10) (by decide +kernel) (by decide +kernel) hb1.1 hb1.2 dX12_laysOrder_28 ?_
  refine qr_icmp_ge 29 32 61 rfl (by decide) dX12_laysOrder_29 (fun c29 => ?_) (fun c29 => ?_)
  · have h := h.1 c29
    refine qr_iconst 61 62 rfl (q_l32 _ rfl) dX12_laysOrder_61 ?_
    refine qr_istore_n 62 63 rfl (by decide) rfl rfl dX12_laysOrder_62 ?_
    exact h
  · have h := h.2 c29
    refine qr_aload_n 32 33 rfl (x := 178) rfl dX12_laysOrder_32 ?_
    refine qr_getF 33 36 rfl ck12 4 (by decide) (b := 182) (by decide +kernel) rfl (by decide +kernel) (by decide +kernel) wm_1330 rfl dX12_laysOrder_33 ?_
    refine qr_bipush 36 38 rfl (q_l32 _ rfl) (by decide) dX12_laysOrder_36 ?_
    refine qr_iload_n 38 39 rfl (x := x1) rfl dX12_laysOrder_38 ?_
    refine qr_iadd 39 40 rfl dX12_laysOrder_39 ?_
    refine qr_aload_n 40 41 rfl (x := 178) rfl dX12_laysOrder_40 ?_
    refine qr_getF 41 44 rfl ck12 6 (by decide) (b := 184) (by decide +kernel) rfl (by decide +kernel) (by decide +kernel) wm_1332 rfl dX12_laysOrder_41 ?_
    refine qr_bipush 44 46 rfl (q_l32 _ rfl) (by decide) dX12_laysOrder_44 ?_
    refine qr_iload_n 46 47 rfl (x := x2) rfl dX12_laysOrder_46 ?_
    refine qr_imul 47 48 rfl dX12_laysOrder_47 ?_
    refine qr_iload_n 48 49 rfl (x := x3) rfl dX12_laysOrder_48 ?_
    refine qr_iadd 49 50 rfl dX12_laysOrder_49 ?_
    have hb2 := h.1
    have h := h.2
    refine qi_ld 50 51 rfl (N := 160) (by decide +kernel) (by decide +kernel) hb2.1 hb2.2 dX12_laysOrder_50 ?_
    have hb3 := h.1
    have h := h.2
    refine qi_st 51 52 rfl (N := 1504) (by decide +kernel) (by decide +kernel) hb3.1 hb3.2 dX12_laysOrder_51 (fun M4 e_M4 => ?_)
    have h := h M4 e_M4
    refine qr_iinc 52 55 rfl (by decide) (x := x1) rfl rfl rfl dX12_laysOrder_52 ?_
    refine qr_iinc 55 58 rfl (by decide) (x := x3) rfl rfl rfl dX12_laysOrder_55 ?_
    refine qr_goto 58 22 (by decide) dX12_laysOrder_58 ?_
    exact h
theorem bX12_laysOrder_63 {d : Nat} {P : q_Mem → Prop} {M : q_Mem} (x1 x2 x3 : Int) (h : (((16 : Int) ≤ x3) → q_v mX12_laysOrder d (qPU P) M 4 [some (qR 178), some (qI x1), some (qI (q_add x2 1)), none] []) ∧ ((¬ ((16 : Int) ≤ x3)) → q_kI yX12_isOf mX12_isOf d [qR 178, qR 182, qI x3, qI x2] M (fun v2 M1 => ((v2 = 0) → q_v mX12_laysOrder d (qPU P) M1 63 [some (qR 178), some (qI x1), some (qI x2), some (qI (q_add x3 1))] []) ∧ ((¬ (v2 = 0)) → q_kI yX12_isRoundTold mX12_isRoundTold d [qR 178, qI x2, qI x3] M1 (fun v4 M3 => ((v4 = 0) → (0 ≤ (q_add 19 x1) ∧ (q_add 19 x1) < (1504 : Int)) ∧ (∀ M6 : q_Mem, M6 = q_up M3 182 (q_add 19 x1) x3 → q_v mX12_laysOrder d (qPU P) M6 63 [some (qR 178), some (qI (q_add x1 1)), some (qI x2), some (qI (q_add x3 1))] [])) ∧ ((¬ (v4 = 0)) → q_v mX12_laysOrder d (qPU P) M3 63 [some (qR 178), some (qI x1), some (qI x2), some (qI (q_add x3 1))] [])))))) : q_v mX12_laysOrder d (qPU P) M 63 [some (qR 178), some (qI x1), some (qI x2), some (qI x3)] [] := by
  refine qr_iload_n 63 64 rfl (x := x3) rfl dX12_laysOrder_63 ?_
  refine qr_bipush 64 66 rfl (q_l32 _ rfl) (by decide) dX12_laysOrder_64 ?_
  refine qr_icmp_ge 66 69 113 rfl (by decide) dX12_laysOrder_66 (fun c66 => ?_) (fun c66 => ?_)
  · have h := h.1 c66
    refine qr_iinc 113 116 rfl (by decide) (x := x2) rfl rfl rfl dX12_laysOrder_113 ?_
    refine qr_goto 116 4 (by decide) dX12_laysOrder_116 ?_
    exact qr_cut 4 (ls' := [some (qR 178), some (qI x1), some (qI (q_add x2 1)), none]) (And.intro rfl (And.intro rfl (And.intro rfl trivial))) h
  · have h := h.2 c66
    refine qr_aload_n 69 70 rfl (x := 178) rfl dX12_laysOrder_69 ?_
    refine qr_aload_n 70 71 rfl (x := 178) rfl dX12_laysOrder_70 ?_
    refine qr_getF 71 74 rfl ck12 4 (by decide) (b := 182) (by decide +kernel) rfl (by decide +kernel) (by decide +kernel) wm_1330 rfl dX12_laysOrder_71 ?_
    refine qr_iload_n 74 75 rfl (x := x3) rfl dX12_laysOrder_74 ?_
    refine qr_iload_n 75 76 rfl (x := x2) rfl dX12_laysOrder_75 ?_
    refine qw_I 76 79 rfl (av := [qR 182, qI x3, qI x2]) ca_X12_isOf wm_1547 wp_88 wm_1545 ck12 (by decide +kernel) rfl rfl (Nat.le_of_ble_eq_true rfl) dX12_laysOrder_76 h (fun v2 M1 h => ?_)
    refine qr_if_eq 79 82 107 rfl (by decide) dX12_laysOrder_79 (fun c79 => ?_) (fun c79 => ?_)
    · have h := h.1 c79
      refine qr_iinc 107 110 rfl (by decide) (x := x3) rfl rfl rfl dX12_laysOrder_107 ?_
      refine qr_goto 110 63 (by decide) dX12_laysOrder_110 ?_
      exact h
    · have h := h.2 c79
      refine qr_aload_n 82 83 rfl (x := 178) rfl dX12_laysOrder_82 ?_
      refine qr_iload_n 83 84 rfl (x := x2) rfl dX12_laysOrder_83 ?_
      refine qr_iload_n 84 85 rfl (x := x3) rfl dX12_laysOrder_84 ?_
      refine qw_I 85 88 rfl (av := [qI x2, qI x3]) ca_X12_isRoundTold wm_1551 wp_89 wm_1549 ck12 (by decide +kernel) rfl rfl (Nat.le_of_ble_eq_true rfl) dX12_laysOrder_85 h (fun v4 M3 h => ?_)
      refine qr_if_eq 88 91 94 rfl (by decide) dX12_laysOrder_88 (fun c88 => ?_) (fun c88 => ?_)
      · have h := h.1 c88
        refine qr_aload_n 94 95 rfl (x := 178) rfl dX12_laysOrder_94 ?_
        refine qr_getF 95 98 rfl ck12 4 (by decide) (b := 182) (by decide +kernel) rfl (by decide +kernel) (by decide +kernel) wm_1330 rfl dX12_laysOrder_95 ?_
        refine qr_bipush 98 100 rfl (q_l32 _ rfl) (by decide) dX12_laysOrder_98 ?_
        refine qr_iload_n 100 101 rfl (x := x1) rfl dX12_laysOrder_100 ?_
        refine qr_iadd 101 102 rfl dX12_laysOrder_101 ?_
        refine qr_iload_n 102 103 rfl (x := x3) rfl dX12_laysOrder_102 ?_
        have hb5 := h.1
        have h := h.2
        refine qi_st 103 104 rfl (N := 1504) (by decide +kernel) (by decide +kernel) hb5.1 hb5.2 dX12_laysOrder_103 (fun M6 e_M6 => ?_)
        have h := h M6 e_M6
        refine qr_iinc 104 107 rfl (by decide) (x := x1) rfl rfl rfl dX12_laysOrder_104 ?_
        refine qr_iinc 107 110 rfl (by decide) (x := x3) rfl rfl rfl dX12_laysOrder_107 ?_
        refine qr_goto 110 63 (by decide) dX12_laysOrder_110 ?_
        exact h
      · have h := h.2 c88
        refine qr_goto 91 107 (by decide) dX12_laysOrder_91 ?_
        refine qr_iinc 107 110 rfl (by decide) (x := x3) rfl rfl rfl dX12_laysOrder_107 ?_
        refine qr_goto 110 63 (by decide) dX12_laysOrder_110 ?_
        exact h
theorem dX12_net_0 : decode cX12_net 0 = .ok (.aload_n 0, 1) := by decide +kernel
theorem dX12_net_1 : decode cX12_net 1 = .ok (.iconst 0, 1) := by decide +kernel
theorem dX12_net_2 : decode cX12_net 2 = .ok (.putfield 1, 3) := by decide +kernel
theorem dX12_net_5 : decode cX12_net 5 = .ok (.iload_n 1, 1) := by decide +kernel
theorem dX12_net_6 : decode cX12_net 6 = .ok (.i2l, 1) := by decide +kernel
theorem dX12_net_7 : decode cX12_net 7 = .ok (.lconst 0, 1) := by decide +kernel
theorem dX12_net_8 : decode cX12_net 8 = .ok (.aload_n 0, 1) := by decide +kernel
theorem dX12_net_9 : decode cX12_net 9 = .ok (.getfield 111, 3) := by decide +kernel
theorem dX12_net_12 : decode cX12_net 12 = .ok (.i2l, 1) := by decide +kernel
theorem dX12_net_13 : decode cX12_net 13 = .ok (.invokestatic 176, 3) := by decide +kernel
theorem dX12_net_16 : decode cX12_net 16 = .ok (.ifCond .ne 6, 3) := by decide +kernel
theorem dX12_net_19 : decode cX12_net 19 = .ok (.bipush (-3), 2) := by decide +kernel
theorem dX12_net_21 : decode cX12_net 21 = .ok (.ireturn, 1) := by decide +kernel
theorem dX12_net_22 : decode cX12_net 22 = .ok (.aload_n 0, 1) := by decide +kernel
theorem dX12_net_23 : decode cX12_net 23 = .ok (.iload_n 1, 1) := by decide +kernel
theorem dX12_net_24 : decode cX12_net 24 = .ok (.putfield 114, 3) := by decide +kernel
theorem dX12_net_27 : decode cX12_net 27 = .ok (.aload_n 0, 1) := by decide +kernel
theorem dX12_net_28 : decode cX12_net 28 = .ok (.iconst 0, 1) := by decide +kernel
theorem dX12_net_29 : decode cX12_net 29 = .ok (.putfield 111, 3) := by decide +kernel
theorem dX12_net_32 : decode cX12_net 32 = .ok (.aload_n 0, 1) := by decide +kernel
theorem dX12_net_33 : decode cX12_net 33 = .ok (.iconst 0, 1) := by decide +kernel
theorem dX12_net_34 : decode cX12_net 34 = .ok (.putfield 132, 3) := by decide +kernel
theorem dX12_net_37 : decode cX12_net 37 = .ok (.aload_n 0, 1) := by decide +kernel
theorem dX12_net_38 : decode cX12_net 38 = .ok (.iconst 0, 1) := by decide +kernel
theorem dX12_net_39 : decode cX12_net 39 = .ok (.putfield 157, 3) := by decide +kernel
theorem dX12_net_42 : decode cX12_net 42 = .ok (.aload_n 0, 1) := by decide +kernel
theorem dX12_net_43 : decode cX12_net 43 = .ok (.getfield 24, 3) := by decide +kernel
theorem dX12_net_46 : decode cX12_net 46 = .ok (.invokestatic 107, 3) := by decide +kernel
theorem dX12_net_49 : decode cX12_net 49 = .ok (.iconst 0, 1) := by decide +kernel
theorem dX12_net_50 : decode cX12_net 50 = .ok (.istore_n 2, 1) := by decide +kernel
theorem dX12_net_51 : decode cX12_net 51 = .ok (.iload_n 2, 1) := by decide +kernel
theorem dX12_net_52 : decode cX12_net 52 = .ok (.bipush 10, 2) := by decide +kernel
theorem dX12_net_54 : decode cX12_net 54 = .ok (.if_icmp .ge 16, 3) := by decide +kernel
theorem dX12_net_57 : decode cX12_net 57 = .ok (.aload_n 0, 1) := by decide +kernel
theorem dX12_net_58 : decode cX12_net 58 = .ok (.getfield 27, 3) := by decide +kernel
theorem dX12_net_61 : decode cX12_net 61 = .ok (.iload_n 2, 1) := by decide +kernel
theorem dX12_net_62 : decode cX12_net 62 = .ok (.iconst 0, 1) := by decide +kernel
theorem dX12_net_63 : decode cX12_net 63 = .ok (.iastore, 1) := by decide +kernel
theorem dX12_net_64 : decode cX12_net 64 = .ok (.iinc 2 1, 3) := by decide +kernel
theorem dX12_net_67 : decode cX12_net 67 = .ok (.goto (-16), 3) := by decide +kernel
theorem dX12_net_70 : decode cX12_net 70 = .ok (.aload_n 0, 1) := by decide +kernel
theorem dX12_net_71 : decode cX12_net 71 = .ok (.invokevirtual 166, 3) := by decide +kernel
theorem dX12_net_74 : decode cX12_net 74 = .ok (.aload_n 0, 1) := by decide +kernel
theorem dX12_net_75 : decode cX12_net 75 = .ok (.iconst 0, 1) := by decide +kernel
theorem dX12_net_76 : decode cX12_net 76 = .ok (.invokevirtual 192, 3) := by decide +kernel
theorem dX12_net_79 : decode cX12_net 79 = .ok (.aload_n 0, 1) := by decide +kernel
theorem dX12_net_80 : decode cX12_net 80 = .ok (.iconst 1, 1) := by decide +kernel
theorem dX12_net_81 : decode cX12_net 81 = .ok (.invokevirtual 192, 3) := by decide +kernel
theorem dX12_net_84 : decode cX12_net 84 = .ok (.aload_n 0, 1) := by decide +kernel
theorem dX12_net_85 : decode cX12_net 85 = .ok (.getfield 24, 3) := by decide +kernel
theorem dX12_net_88 : decode cX12_net 88 = .ok (.iconst 1, 1) := by decide +kernel
theorem dX12_net_89 : decode cX12_net 89 = .ok (.aload_n 0, 1) := by decide +kernel
theorem dX12_net_90 : decode cX12_net 90 = .ok (.iconst 0, 1) := by decide +kernel
theorem dX12_net_91 : decode cX12_net 91 = .ok (.bipush 9, 2) := by decide +kernel
theorem dX12_net_93 : decode cX12_net 93 = .ok (.invokevirtual 213, 3) := by decide +kernel
theorem dX12_net_96 : decode cX12_net 96 = .ok (.iastore, 1) := by decide +kernel
theorem dX12_net_97 : decode cX12_net 97 = .ok (.aload_n 0, 1) := by decide +kernel
theorem dX12_net_98 : decode cX12_net 98 = .ok (.invokevirtual 237, 3) := by decide +kernel
theorem dX12_net_101 : decode cX12_net 101 = .ok (.aload_n 0, 1) := by decide +kernel
theorem dX12_net_102 : decode cX12_net 102 = .ok (.getfield 157, 3) := by decide +kernel
theorem dX12_net_105 : decode cX12_net 105 = .ok (.ifCond .ne 23, 3) := by decide +kernel
theorem dX12_net_108 : decode cX12_net 108 = .ok (.aload_n 0, 1) := by decide +kernel
theorem dX12_net_109 : decode cX12_net 109 = .ok (.getfield 139, 3) := by decide +kernel
theorem dX12_net_112 : decode cX12_net 112 = .ok (.bipush 21, 2) := by decide +kernel
theorem dX12_net_114 : decode cX12_net 114 = .ok (.if_icmp .eq 14, 3) := by decide +kernel
theorem dX12_net_117 : decode cX12_net 117 = .ok (.aload_n 0, 1) := by decide +kernel
theorem dX12_net_118 : decode cX12_net 118 = .ok (.invokevirtual 240, 3) := by decide +kernel
theorem dX12_net_121 : decode cX12_net 121 = .ok (.aload_n 0, 1) := by decide +kernel
theorem dX12_net_122 : decode cX12_net 122 = .ok (.invokevirtual 237, 3) := by decide +kernel
theorem dX12_net_125 : decode cX12_net 125 = .ok (.goto (-24), 3) := by decide +kernel
theorem dX12_net_128 : decode cX12_net 128 = .ok (.aload_n 0, 1) := by decide +kernel
theorem dX12_net_129 : decode cX12_net 129 = .ok (.aload_n 0, 1) := by decide +kernel
theorem dX12_net_130 : decode cX12_net 130 = .ok (.getfield 157, 3) := by decide +kernel
theorem dX12_net_133 : decode cX12_net 133 = .ok (.putfield 243, 3) := by decide +kernel
theorem dX12_net_136 : decode cX12_net 136 = .ok (.aload_n 0, 1) := by decide +kernel
theorem dX12_net_137 : decode cX12_net 137 = .ok (.aload_n 0, 1) := by decide +kernel
theorem dX12_net_138 : decode cX12_net 138 = .ok (.getfield 157, 3) := by decide +kernel
theorem dX12_net_141 : decode cX12_net 141 = .ok (.ifCond .ne 7, 3) := by decide +kernel
theorem dX12_net_144 : decode cX12_net 144 = .ok (.iconst (-1), 1) := by decide +kernel
theorem dX12_net_145 : decode cX12_net 145 = .ok (.goto 7, 3) := by decide +kernel
theorem dX12_net_148 : decode cX12_net 148 = .ok (.aload_n 0, 1) := by decide +kernel
theorem dX12_net_149 : decode cX12_net 149 = .ok (.getfield 160, 3) := by decide +kernel
theorem dX12_net_152 : decode cX12_net 152 = .ok (.putfield 33, 3) := by decide +kernel
theorem dX12_net_155 : decode cX12_net 155 = .ok (.aload_n 0, 1) := by decide +kernel
theorem dX12_net_156 : decode cX12_net 156 = .ok (.getfield 157, 3) := by decide +kernel
theorem dX12_net_159 : decode cX12_net 159 = .ok (.ifCond .eq 11, 3) := by decide +kernel
theorem dX12_net_162 : decode cX12_net 162 = .ok (.bipush (-30), 2) := by decide +kernel
theorem dX12_net_164 : decode cX12_net 164 = .ok (.aload_n 0, 1) := by decide +kernel
theorem dX12_net_165 : decode cX12_net 165 = .ok (.getfield 157, 3) := by decide +kernel
theorem dX12_net_168 : decode cX12_net 168 = .ok (.isub, 1) := by decide +kernel
theorem dX12_net_169 : decode cX12_net 169 = .ok (.ireturn, 1) := by decide +kernel
theorem dX12_net_170 : decode cX12_net 170 = .ok (.aload_n 0, 1) := by decide +kernel
theorem dX12_net_171 : decode cX12_net 171 = .ok (.invokevirtual 246, 3) := by decide +kernel
theorem dX12_net_174 : decode cX12_net 174 = .ok (.iconst 0, 1) := by decide +kernel
theorem dX12_net_175 : decode cX12_net 175 = .ok (.istore_n 2, 1) := by decide +kernel
theorem dX12_net_176 : decode cX12_net 176 = .ok (.iload_n 2, 1) := by decide +kernel
theorem dX12_net_177 : decode cX12_net 177 = .ok (.sipush 1504, 3) := by decide +kernel
theorem dX12_net_180 : decode cX12_net 180 = .ok (.if_icmp .ge 21, 3) := by decide +kernel
theorem dX12_net_183 : decode cX12_net 183 = .ok (.aload_n 0, 1) := by decide +kernel
theorem dX12_net_184 : decode cX12_net 184 = .ok (.getfield 13, 3) := by decide +kernel
theorem dX12_net_187 : decode cX12_net 187 = .ok (.iload_n 2, 1) := by decide +kernel
theorem dX12_net_188 : decode cX12_net 188 = .ok (.aload_n 0, 1) := by decide +kernel
theorem dX12_net_189 : decode cX12_net 189 = .ok (.getfield 24, 3) := by decide +kernel
theorem dX12_net_192 : decode cX12_net 192 = .ok (.iload_n 2, 1) := by decide +kernel
theorem dX12_net_193 : decode cX12_net 193 = .ok (.iaload, 1) := by decide +kernel
theorem dX12_net_194 : decode cX12_net 194 = .ok (.iastore, 1) := by decide +kernel
theorem dX12_net_195 : decode cX12_net 195 = .ok (.iinc 2 1, 3) := by decide +kernel
theorem dX12_net_198 : decode cX12_net 198 = .ok (.goto (-22), 3) := by decide +kernel
theorem dX12_net_201 : decode cX12_net 201 = .ok (.aload_n 0, 1) := by decide +kernel
theorem dX12_net_202 : decode cX12_net 202 = .ok (.getfield 13, 3) := by decide +kernel
theorem dX12_net_205 : decode cX12_net 205 = .ok (.iconst 0, 1) := by decide +kernel
theorem dX12_net_206 : decode cX12_net 206 = .ok (.iaload, 1) := by decide +kernel
theorem dX12_net_207 : decode cX12_net 207 = .ok (.ireturn, 1) := by decide +kernel
theorem bX12_net_0 {d : Nat} {P : Int → q_Mem → Prop} {M : q_Mem} (x1 : Int) (h : (∀ M1 : q_Mem, M1 = q_up M 178 0 0 → q_kI yX12_within mX12_within d [qL x1, qL 0, qL (M1 178 7)] M1 (fun v3 M2 => ((¬ v3 = 0) → (∀ M4 : q_Mem, M4 = q_up M2 178 10 x1 → (∀ M5 : q_Mem, M5 = q_up M4 178 7 0 → (∀ M6 : q_Mem, M6 = q_up M5 178 9 0 → (∀ M7 : q_Mem, M7 = q_up M6 178 13 0 → q_kU yX12_plain mX12_plain d [qR 182] M7 (fun M8 => q_v mX12_net d (qPI P) M8 51 [some (qR 178), none, some (qI 0)] [])))))) ∧ ((v3 = 0) → P (-3) M2)))) : q_v mX12_net d (qPI P) M 0 [some (qR 178), some (qI x1), none] [] := by
  refine qr_aload_n 0 1 rfl (x := 178) rfl dX12_net_0 ?_
  refine qr_iconst 1 2 rfl (q_l32 _ rfl) dX12_net_1 ?_
  refine qp_i 2 5 rfl ck12 0 (kk := 0) (by decide) (by decide +kernel) (by decide) rfl rfl wm_1326 rfl dX12_net_2 (fun M1 e_M1 => ?_)
  have h := h M1 e_M1
  refine qr_iload_n 5 6 rfl (x := x1) rfl dX12_net_5 ?_
  refine qr_i2l 6 7 rfl dX12_net_6 ?_
  refine qr_lconst 7 8 rfl (w := 0) (q_l64 _ rfl) (by decide) dX12_net_7 ?_
  refine qr_aload_n 8 9 rfl (x := 178) rfl dX12_net_8 ?_
  refine qg_i 9 12 rfl ck12 7 (kk := 7) (by decide) (by decide +kernel) (by decide +kernel) rfl wm_1333 rfl dX12_net_9 ?_
  refine qr_i2l 12 13 rfl dX12_net_12 ?_
  refine qs_I 13 16 rfl (av := [qL x1, qL 0, qL (M1 178 7)]) ca_X12_within wm_1481 wm_1480 rfl rfl (Nat.le_of_ble_eq_true rfl) dX12_net_13 h (fun v3 M2 h => ?_)
  refine qr_if_ne 16 19 22 rfl (by decide) dX12_net_16 (fun c16 => ?_) (fun c16 => ?_)
  · have h := h.1 c16
    refine qr_aload_n 22 23 rfl (x := 178) rfl dX12_net_22 ?_
    refine qr_iload_n 23 24 rfl (x := x1) rfl dX12_net_23 ?_
    refine qp_i 24 27 rfl ck12 10 (kk := 10) (by decide) (by decide +kernel) (by decide) rfl rfl wm_1336 rfl dX12_net_24 (fun M4 e_M4 => ?_)
    have h := h M4 e_M4
    refine qr_aload_n 27 28 rfl (x := 178) rfl dX12_net_27 ?_
    refine qr_iconst 28 29 rfl (q_l32 _ rfl) dX12_net_28 ?_
    refine qp_i 29 32 rfl ck12 7 (kk := 7) (by decide) (by decide +kernel) (by decide) rfl rfl wm_1333 rfl dX12_net_29 (fun M5 e_M5 => ?_)
    have h := h M5 e_M5
    refine qr_aload_n 32 33 rfl (x := 178) rfl dX12_net_32 ?_
    refine qr_iconst 33 34 rfl (q_l32 _ rfl) dX12_net_33 ?_
    refine qp_i 34 37 rfl ck12 9 (kk := 9) (by decide) (by decide +kernel) (by decide) rfl rfl wm_1335 rfl dX12_net_34 (fun M6 e_M6 => ?_)
    have h := h M6 e_M6
    refine qr_aload_n 37 38 rfl (x := 178) rfl dX12_net_37 ?_
    refine qr_iconst 38 39 rfl (q_l32 _ rfl) dX12_net_38 ?_
    refine qp_i 39 42 rfl ck12 13 (kk := 13) (by decide) (by decide +kernel) (by decide) rfl rfl wm_1339 rfl dX12_net_39 (fun M7 e_M7 => ?_)
    have h := h M7 e_M7
    refine qr_aload_n 42 43 rfl (x := 178) rfl dX12_net_42 ?_
    refine qr_getF 43 46 rfl ck12 4 (by decide) (b := 182) (by decide +kernel) rfl (by decide +kernel) (by decide +kernel) wm_1330 rfl dX12_net_43 ?_
    refine qs_U 46 49 rfl (av := [qR 182]) ca_X12_plain wm_1324 wm_1323 rfl rfl (Nat.le_of_ble_eq_true rfl) dX12_net_46 h (fun M8 h => ?_)
    refine qr_iconst 49 50 rfl (q_l32 _ rfl) dX12_net_49 ?_
    refine qr_istore_n 50 51 rfl (by decide) rfl rfl dX12_net_50 ?_
    exact qr_cut 51 (ls' := [some (qR 178), none, some (qI 0)]) (And.intro rfl (And.intro rfl trivial)) h
  · have h := h.2 c16
    refine qr_bipush 19 21 rfl (q_l32 _ rfl) (by decide) dX12_net_19 ?_
    exact qe_i 21 rfl dX12_net_21 h
theorem bX12_net_51 {d : Nat} {P : Int → q_Mem → Prop} {M : q_Mem} (x2 : Int) (h : (((10 : Int) ≤ x2) → q_kU yX12_goes mX12_goes d [qR 178] M (fun M1 => q_kU yX12_wants mX12_wants d [qR 178, qI 0] M1 (fun M2 => q_kU yX12_wants mX12_wants d [qR 178, qI 1] M2 (fun M3 => q_kI yX12_takes mX12_takes d [qR 178, qI 0, qI 9] M3 (fun v5 M4 => (∀ M6 : q_Mem, M6 = q_up M4 182 1 v5 → q_kU yX12_closes mX12_closes d [qR 178] M6 (fun M7 => q_v mX12_net d (qPI P) M7 101 [some (qR 178), none, none] []))))))) ∧ ((¬ ((10 : Int) ≤ x2)) → (0 ≤ x2 ∧ x2 < (10 : Int)) ∧ (∀ M9 : q_Mem, M9 = q_up M 183 x2 0 → q_v mX12_net d (qPI P) M9 51 [some (qR 178), none, some (qI (q_add x2 1))] []))) : q_v mX12_net d (qPI P) M 51 [some (qR 178), none, some (qI x2)] [] := by
  refine qr_iload_n 51 52 rfl (x := x2) rfl dX12_net_51 ?_
  refine qr_bipush 52 54 rfl (q_l32 _ rfl) (by decide) dX12_net_52 ?_
  refine qr_icmp_ge 54 57 70 rfl (by decide) dX12_net_54 (fun c54 => ?_) (fun c54 => ?_)
  · have h := h.1 c54
    refine qr_aload_n 70 71 rfl (x := 178) rfl dX12_net_70 ?_
    refine qw_U 71 74 rfl (av := []) ca_X12_goes wm_1485 wp_75 wm_1483 ck12 (by decide +kernel) rfl rfl (Nat.le_of_ble_eq_true rfl) dX12_net_71 h (fun M1 h => ?_)
    refine qr_aload_n 74 75 rfl (x := 178) rfl dX12_net_74 ?_
    refine qr_iconst 75 76 rfl (q_l32 _ rfl) dX12_net_75 ?_
    refine qw_U 76 79 rfl (av := [qI 0]) ca_X12_wants wm_1507 wp_78 wm_1505 ck12 (by decide +kernel) rfl rfl (Nat.le_of_ble_eq_true rfl) dX12_net_76 h (fun M2 h => ?_)
    refine qr_aload_n 79 80 rfl (x := 178) rfl dX12_net_79 ?_
    refine qr_iconst 80 81 rfl (q_l32 _ rfl) dX12_net_80 ?_
    refine qw_U 81 84 rfl (av := [qI 1]) ca_X12_wants wm_1507 wp_78 wm_1505 ck12 (by decide +kernel) rfl rfl (Nat.le_of_ble_eq_true rfl) dX12_net_81 h (fun M3 h => ?_)
    refine qr_aload_n 84 85 rfl (x := 178) rfl dX12_net_84 ?_
    refine qr_getF 85 88 rfl ck12 4 (by decide) (b := 182) (by decide +kernel) rfl (by decide +kernel) (by decide +kernel) wm_1330 rfl dX12_net_85 ?_
    refine qr_iconst 88 89 rfl (q_l32 _ rfl) dX12_net_88 ?_
    refine qr_aload_n 89 90 rfl (x := 178) rfl dX12_net_89 ?_
    refine qr_iconst 90 91 rfl (q_l32 _ rfl) dX12_net_90 ?_
    refine qr_bipush 91 93 rfl (q_l32 _ rfl) (by decide) dX12_net_91 ?_
    refine qw_I 93 96 rfl (av := [qI 0, qI 9]) ca_X12_takes wm_1523 wp_82 wm_1521 ck12 (by decide +kernel) rfl rfl (Nat.le_of_ble_eq_true rfl) dX12_net_93 h (fun v5 M4 h => ?_)
    refine qi_st 96 97 rfl (N := 1504) (by decide +kernel) (by decide +kernel) (by decide) (by decide) dX12_net_96 (fun M6 e_M6 => ?_)
    have h := h M6 e_M6
    refine qr_aload_n 97 98 rfl (x := 178) rfl dX12_net_97 ?_
    refine qw_U 98 101 rfl (av := []) ca_X12_closes wm_1527 wp_83 wm_1525 ck12 (by decide +kernel) rfl rfl (Nat.le_of_ble_eq_true rfl) dX12_net_98 h (fun M7 h => ?_)
    exact qr_cut 101 (ls' := [some (qR 178), none, none]) (And.intro rfl trivial) h
  · have h := h.2 c54
    refine qr_aload_n 57 58 rfl (x := 178) rfl dX12_net_57 ?_
    refine qr_getF 58 61 rfl ck12 5 (by decide) (b := 183) (by decide +kernel) rfl (by decide +kernel) (by decide +kernel) wm_1331 rfl dX12_net_58 ?_
    refine qr_iload_n 61 62 rfl (x := x2) rfl dX12_net_61 ?_
    refine qr_iconst 62 63 rfl (q_l32 _ rfl) dX12_net_62 ?_
    have hb8 := h.1
    have h := h.2
    refine qi_st 63 64 rfl (N := 10) (by decide +kernel) (by decide +kernel) hb8.1 hb8.2 dX12_net_63 (fun M9 e_M9 => ?_)
    have h := h M9 e_M9
    refine qr_iinc 64 67 rfl (by decide) (x := x2) rfl rfl rfl dX12_net_64 ?_
    refine qr_goto 67 51 (by decide) dX12_net_67 ?_
    exact h
theorem bX12_net_101 {d : Nat} {P : Int → q_Mem → Prop} {M : q_Mem} (h : ((¬ (M 178 13) = 0) → q_v mX12_net d (qPI P) M 128 [some (qR 178), none, none] []) ∧ (((M 178 13) = 0) → (((M 178 11) = (21 : Int)) → q_v mX12_net d (qPI P) M 128 [some (qR 178), none, none] []) ∧ ((¬ ((M 178 11) = (21 : Int))) → q_kU yX12_readLine mX12_readLine d [qR 178] M (fun M1 => q_kU yX12_closes mX12_closes d [qR 178] M1 (fun M2 => q_v mX12_net d (qPI P) M2 101 [some (qR 178), none, none] []))))) : q_v mX12_net d (qPI P) M 101 [some (qR 178), none, none] [] := by
  refine qr_aload_n 101 102 rfl (x := 178) rfl dX12_net_101 ?_
  refine qg_i 102 105 rfl ck12 13 (kk := 13) (by decide) (by decide +kernel) (by decide +kernel) rfl wm_1339 rfl dX12_net_102 ?_
  refine qr_if_ne 105 108 128 rfl (by decide) dX12_net_105 (fun c105 => ?_) (fun c105 => ?_)
  · have h := h.1 c105
    exact h
  · have h := h.2 c105
    refine qr_aload_n 108 109 rfl (x := 178) rfl dX12_net_108 ?_
    refine qg_i 109 112 rfl ck12 11 (kk := 11) (by decide) (by decide +kernel) (by decide +kernel) rfl wm_1337 rfl dX12_net_109 ?_
    refine qr_bipush 112 114 rfl (q_l32 _ rfl) (by decide) dX12_net_112 ?_
    refine qr_icmp_eq 114 117 128 rfl (by decide) dX12_net_114 (fun c114 => ?_) (fun c114 => ?_)
    · have h := h.1 c114
      exact h
    · have h := h.2 c114
      refine qr_aload_n 117 118 rfl (x := 178) rfl dX12_net_117 ?_
      refine qw_U 118 121 rfl (av := []) ca_X12_readLine wm_1531 wp_84 wm_1529 ck12 (by decide +kernel) rfl rfl (Nat.le_of_ble_eq_true rfl) dX12_net_118 h (fun M1 h => ?_)
      refine qr_aload_n 121 122 rfl (x := 178) rfl dX12_net_121 ?_
      refine qw_U 122 125 rfl (av := []) ca_X12_closes wm_1527 wp_83 wm_1525 ck12 (by decide +kernel) rfl rfl (Nat.le_of_ble_eq_true rfl) dX12_net_122 h (fun M2 h => ?_)
      refine qr_goto 125 101 (by decide) dX12_net_125 ?_
      exact h
theorem bX12_net_128 {d : Nat} {P : Int → q_Mem → Prop} {M : q_Mem} (h : (∀ M1 : q_Mem, M1 = q_up M 178 15 (M 178 13) → ((¬ (M1 178 13) = 0) → q_v mX12_net d (qPI P) M1 152 [some (qR 178), none, none] [qI (M1 178 14), qR 178]) ∧ (((M1 178 13) = 0) → q_v mX12_net d (qPI P) M1 152 [some (qR 178), none, none] [qI (-1), qR 178]))) : q_v mX12_net d (qPI P) M 128 [some (qR 178), none, none] [] := by
  refine qr_aload_n 128 129 rfl (x := 178) rfl dX12_net_128 ?_
  refine qr_aload_n 129 130 rfl (x := 178) rfl dX12_net_129 ?_
  refine qg_i 130 133 rfl ck12 13 (kk := 13) (by decide) (by decide +kernel) (by decide +kernel) rfl wm_1339 rfl dX12_net_130 ?_
  refine qp_i 133 136 rfl ck12 15 (kk := 15) (by decide) (by decide +kernel) (by decide) rfl rfl wm_1341 rfl dX12_net_133 (fun M1 e_M1 => ?_)
  have h := h M1 e_M1
  refine qr_aload_n 136 137 rfl (x := 178) rfl dX12_net_136 ?_
  refine qr_aload_n 137 138 rfl (x := 178) rfl dX12_net_137 ?_
  refine qg_i 138 141 rfl ck12 13 (kk := 13) (by decide) (by decide +kernel) (by decide +kernel) rfl wm_1339 rfl dX12_net_138 ?_
  refine qr_if_ne 141 144 148 rfl (by decide) dX12_net_141 (fun c141 => ?_) (fun c141 => ?_)
  · have h := h.1 c141
    refine qr_aload_n 148 149 rfl (x := 178) rfl dX12_net_148 ?_
    refine qg_i 149 152 rfl ck12 14 (kk := 14) (by decide) (by decide +kernel) (by decide +kernel) rfl wm_1340 rfl dX12_net_149 ?_
    exact h
  · have h := h.2 c141
    refine qr_iconst 144 145 rfl (q_l32 _ rfl) dX12_net_144 ?_
    refine qr_goto 145 152 (by decide) dX12_net_145 ?_
    exact h
theorem bX12_net_152 {d : Nat} {P : Int → q_Mem → Prop} {M : q_Mem} (y0 y1 : Int) (l0 : q_kd y0 = 12) (h : (∀ M1 : q_Mem, M1 = q_up M y0 16 y1 → (((M1 178 13) = 0) → q_kU yX12_laysOrder mX12_laysOrder d [qR 178] M1 (fun M2 => q_v mX12_net d (qPI P) M2 176 [some (qR 178), none, some (qI 0)] [])) ∧ ((¬ ((M1 178 13) = 0)) → P (q_sub (-30) (M1 178 13)) M1))) : q_v mX12_net d (qPI P) M 152 [some (qR 178), none, none] [qI y1, qR y0] := by
  refine qp_i 152 155 rfl ck12 16 (kk := 16) (by decide) l0 (by decide) rfl rfl wm_1342 rfl dX12_net_152 (fun M1 e_M1 => ?_)
  have h := h M1 e_M1
  refine qr_aload_n 155 156 rfl (x := 178) rfl dX12_net_155 ?_
  refine qg_i 156 159 rfl ck12 13 (kk := 13) (by decide) (by decide +kernel) (by decide +kernel) rfl wm_1339 rfl dX12_net_156 ?_
  refine qr_if_eq 159 162 170 rfl (by decide) dX12_net_159 (fun c159 => ?_) (fun c159 => ?_)
  · have h := h.1 c159
    refine qr_aload_n 170 171 rfl (x := 178) rfl dX12_net_170 ?_
    refine qw_U 171 174 rfl (av := []) ca_X12_laysOrder wm_1598 wp_100 wm_1596 ck12 (by decide +kernel) rfl rfl (Nat.le_of_ble_eq_true rfl) dX12_net_171 h (fun M2 h => ?_)
    refine qr_iconst 174 175 rfl (q_l32 _ rfl) dX12_net_174 ?_
    refine qr_istore_n 175 176 rfl (by decide) rfl rfl dX12_net_175 ?_
    exact h
  · have h := h.2 c159
    refine qr_bipush 162 164 rfl (q_l32 _ rfl) (by decide) dX12_net_162 ?_
    refine qr_aload_n 164 165 rfl (x := 178) rfl dX12_net_164 ?_
    refine qg_i 165 168 rfl ck12 13 (kk := 13) (by decide) (by decide +kernel) (by decide +kernel) rfl wm_1339 rfl dX12_net_165 ?_
    refine qr_isub 168 169 rfl dX12_net_168 ?_
    exact qe_i 169 rfl dX12_net_169 h
theorem bX12_net_176 {d : Nat} {P : Int → q_Mem → Prop} {M : q_Mem} (x2 : Int) (h : (((1504 : Int) ≤ x2) → (P (M 179 0) M)) ∧ ((¬ ((1504 : Int) ≤ x2)) → (0 ≤ x2 ∧ x2 < (1504 : Int)) ∧ ((0 ≤ x2 ∧ x2 < (4512 : Int)) ∧ (∀ M3 : q_Mem, M3 = q_up M 179 x2 (M 182 x2) → q_v mX12_net d (qPI P) M3 176 [some (qR 178), none, some (qI (q_add x2 1))] [])))) : q_v mX12_net d (qPI P) M 176 [some (qR 178), none, some (qI x2)] [] := by
  refine qr_iload_n 176 177 rfl (x := x2) rfl dX12_net_176 ?_
  refine qr_sipush 177 180 rfl (q_l32 _ rfl) (by decide) dX12_net_177 ?_
  refine qr_icmp_ge 180 183 201 rfl (by decide) dX12_net_180 (fun c180 => ?_) (fun c180 => ?_)
  · have h := h.1 c180
    refine qr_aload_n 201 202 rfl (x := 178) rfl dX12_net_201 ?_
    refine qr_getF 202 205 rfl ck12 1 (by decide) (b := 179) (by decide +kernel) rfl (by decide +kernel) (by decide +kernel) wm_1327 rfl dX12_net_202 ?_
    refine qr_iconst 205 206 rfl (q_l32 _ rfl) dX12_net_205 ?_
    refine qi_ld 206 207 rfl (N := 4512) (by decide +kernel) (by decide +kernel) (by decide) (by decide) dX12_net_206 ?_
    exact qe_i 207 rfl dX12_net_207 h
  · have h := h.2 c180
    refine qr_aload_n 183 184 rfl (x := 178) rfl dX12_net_183 ?_
    refine qr_getF 184 187 rfl ck12 1 (by decide) (b := 179) (by decide +kernel) rfl (by decide +kernel) (by decide +kernel) wm_1327 rfl dX12_net_184 ?_
    refine qr_iload_n 187 188 rfl (x := x2) rfl dX12_net_187 ?_
    refine qr_aload_n 188 189 rfl (x := 178) rfl dX12_net_188 ?_
    refine qr_getF 189 192 rfl ck12 4 (by decide) (b := 182) (by decide +kernel) rfl (by decide +kernel) (by decide +kernel) wm_1330 rfl dX12_net_189 ?_
    refine qr_iload_n 192 193 rfl (x := x2) rfl dX12_net_192 ?_
    have hb1 := h.1
    have h := h.2
    refine qi_ld 193 194 rfl (N := 1504) (by decide +kernel) (by decide +kernel) hb1.1 hb1.2 dX12_net_193 ?_
    have hb2 := h.1
    have h := h.2
    refine qi_st 194 195 rfl (N := 4512) (by decide +kernel) (by decide +kernel) hb2.1 hb2.2 dX12_net_194 (fun M3 e_M3 => ?_)
    have h := h M3 e_M3
    refine qr_iinc 195 198 rfl (by decide) (x := x2) rfl rfl rfl dX12_net_195 ?_
    refine qr_goto 198 176 (by decide) dX12_net_198 ?_
    exact h
theorem dX12_fault_0 : decode cX12_fault 0 = .ok (.aload_n 0, 1) := by decide +kernel
theorem dX12_fault_1 : decode cX12_fault 1 = .ok (.iconst 0, 1) := by decide +kernel
theorem dX12_fault_2 : decode cX12_fault 2 = .ok (.putfield 1, 3) := by decide +kernel
theorem dX12_fault_5 : decode cX12_fault 5 = .ok (.iload_n 1, 1) := by decide +kernel
theorem dX12_fault_6 : decode cX12_fault 6 = .ok (.ifCond .ne 10, 3) := by decide +kernel
theorem dX12_fault_9 : decode cX12_fault 9 = .ok (.aload_n 0, 1) := by decide +kernel
theorem dX12_fault_10 : decode cX12_fault 10 = .ok (.getfield 243, 3) := by decide +kernel
theorem dX12_fault_13 : decode cX12_fault 13 = .ok (.goto 16, 3) := by decide +kernel
theorem dX12_fault_16 : decode cX12_fault 16 = .ok (.iload_n 1, 1) := by decide +kernel
theorem dX12_fault_17 : decode cX12_fault 17 = .ok (.iconst 1, 1) := by decide +kernel
theorem dX12_fault_18 : decode cX12_fault 18 = .ok (.if_icmp .ne 10, 3) := by decide +kernel
theorem dX12_fault_21 : decode cX12_fault 21 = .ok (.aload_n 0, 1) := by decide +kernel
theorem dX12_fault_22 : decode cX12_fault 22 = .ok (.getfield 33, 3) := by decide +kernel
theorem dX12_fault_25 : decode cX12_fault 25 = .ok (.goto 4, 3) := by decide +kernel
theorem dX12_fault_28 : decode cX12_fault 28 = .ok (.iconst (-1), 1) := by decide +kernel
theorem dX12_fault_29 : decode cX12_fault 29 = .ok (.ireturn, 1) := by decide +kernel
theorem bX12_fault_0 {d : Nat} {P : Int → q_Mem → Prop} {M : q_Mem} (x1 : Int) (h : (∀ M1 : q_Mem, M1 = q_up M 178 0 0 → ((¬ x1 = 0) → ((¬ x1 = (1 : Int)) → P (-1) M1) ∧ ((x1 = (1 : Int)) → P (M1 178 16) M1)) ∧ ((x1 = 0) → P (M1 178 15) M1))) : q_v mX12_fault d (qPI P) M 0 [some (qR 178), some (qI x1)] [] := by
  refine qr_aload_n 0 1 rfl (x := 178) rfl dX12_fault_0 ?_
  refine qr_iconst 1 2 rfl (q_l32 _ rfl) dX12_fault_1 ?_
  refine qp_i 2 5 rfl ck12 0 (kk := 0) (by decide) (by decide +kernel) (by decide) rfl rfl wm_1326 rfl dX12_fault_2 (fun M1 e_M1 => ?_)
  have h := h M1 e_M1
  refine qr_iload_n 5 6 rfl (x := x1) rfl dX12_fault_5 ?_
  refine qr_if_ne 6 9 16 rfl (by decide) dX12_fault_6 (fun c6 => ?_) (fun c6 => ?_)
  · have h := h.1 c6
    refine qr_iload_n 16 17 rfl (x := x1) rfl dX12_fault_16 ?_
    refine qr_iconst 17 18 rfl (q_l32 _ rfl) dX12_fault_17 ?_
    refine qr_icmp_ne 18 21 28 rfl (by decide) dX12_fault_18 (fun c18 => ?_) (fun c18 => ?_)
    · have h := h.1 c18
      refine qr_iconst 28 29 rfl (q_l32 _ rfl) dX12_fault_28 ?_
      exact qe_i 29 rfl dX12_fault_29 h
    · have h := h.2 c18
      refine qr_aload_n 21 22 rfl (x := 178) rfl dX12_fault_21 ?_
      refine qg_i 22 25 rfl ck12 16 (kk := 16) (by decide) (by decide +kernel) (by decide +kernel) rfl wm_1342 rfl dX12_fault_22 ?_
      refine qr_goto 25 29 (by decide) dX12_fault_25 ?_
      exact qe_i 29 rfl dX12_fault_29 h
  · have h := h.2 c6
    refine qr_aload_n 9 10 rfl (x := 178) rfl dX12_fault_9 ?_
    refine qg_i 10 13 rfl ck12 15 (kk := 15) (by decide) (by decide +kernel) (by decide +kernel) rfl wm_1341 rfl dX12_fault_10 ?_
    refine qr_goto 13 29 (by decide) dX12_fault_13 ?_
    exact qe_i 29 rfl dX12_fault_29 h
theorem dX12_between_0 : decode cX12_between 0 = .ok (.iload_n 0, 1) := by decide +kernel
theorem dX12_between_1 : decode cX12_between 1 = .ok (.tableswitch 80 3003 3008 #[39, 50, 61, 80, 72, 76], 39) := by decide +kernel
theorem dX12_between_40 : decode cX12_between 40 = .ok (.iload_n 1, 1) := by decide +kernel
theorem dX12_between_41 : decode cX12_between 41 = .ok (.iload_n 2, 1) := by decide +kernel
theorem dX12_between_42 : decode cX12_between 42 = .ok (.if_icmp .ne 7, 3) := by decide +kernel
theorem dX12_between_45 : decode cX12_between 45 = .ok (.iconst 1, 1) := by decide +kernel
theorem dX12_between_46 : decode cX12_between 46 = .ok (.goto 4, 3) := by decide +kernel
theorem dX12_between_49 : decode cX12_between 49 = .ok (.iconst 0, 1) := by decide +kernel
theorem dX12_between_50 : decode cX12_between 50 = .ok (.ireturn, 1) := by decide +kernel
theorem dX12_between_51 : decode cX12_between 51 = .ok (.iload_n 1, 1) := by decide +kernel
theorem dX12_between_52 : decode cX12_between 52 = .ok (.iload_n 2, 1) := by decide +kernel
theorem dX12_between_53 : decode cX12_between 53 = .ok (.if_icmp .ge 7, 3) := by decide +kernel
theorem dX12_between_56 : decode cX12_between 56 = .ok (.iconst 1, 1) := by decide +kernel
theorem dX12_between_57 : decode cX12_between 57 = .ok (.goto 4, 3) := by decide +kernel
theorem dX12_between_60 : decode cX12_between 60 = .ok (.iconst 0, 1) := by decide +kernel
theorem dX12_between_61 : decode cX12_between 61 = .ok (.ireturn, 1) := by decide +kernel
theorem dX12_between_62 : decode cX12_between 62 = .ok (.iload_n 1, 1) := by decide +kernel
theorem dX12_between_63 : decode cX12_between 63 = .ok (.iload_n 2, 1) := by decide +kernel
theorem dX12_between_64 : decode cX12_between 64 = .ok (.if_icmp .le 7, 3) := by decide +kernel
theorem dX12_between_67 : decode cX12_between 67 = .ok (.iconst 1, 1) := by decide +kernel
theorem dX12_between_68 : decode cX12_between 68 = .ok (.goto 4, 3) := by decide +kernel
theorem dX12_between_71 : decode cX12_between 71 = .ok (.iconst 0, 1) := by decide +kernel
theorem dX12_between_72 : decode cX12_between 72 = .ok (.ireturn, 1) := by decide +kernel
theorem dX12_between_73 : decode cX12_between 73 = .ok (.iload_n 1, 1) := by decide +kernel
theorem dX12_between_74 : decode cX12_between 74 = .ok (.iload_n 2, 1) := by decide +kernel
theorem dX12_between_75 : decode cX12_between 75 = .ok (.iand, 1) := by decide +kernel
theorem dX12_between_76 : decode cX12_between 76 = .ok (.ireturn, 1) := by decide +kernel
theorem dX12_between_77 : decode cX12_between 77 = .ok (.iload_n 1, 1) := by decide +kernel
theorem dX12_between_78 : decode cX12_between 78 = .ok (.iload_n 2, 1) := by decide +kernel
theorem dX12_between_79 : decode cX12_between 79 = .ok (.ior, 1) := by decide +kernel
theorem dX12_between_80 : decode cX12_between 80 = .ok (.ireturn, 1) := by decide +kernel
theorem dX12_between_81 : decode cX12_between 81 = .ok (.iload_n 0, 1) := by decide +kernel
theorem dX12_between_82 : decode cX12_between 82 = .ok (.sipush 3000, 3) := by decide +kernel
theorem dX12_between_85 : decode cX12_between 85 = .ok (.if_icmp .ne 11, 3) := by decide +kernel
theorem dX12_between_88 : decode cX12_between 88 = .ok (.iload_n 1, 1) := by decide +kernel
theorem dX12_between_89 : decode cX12_between 89 = .ok (.i2l, 1) := by decide +kernel
theorem dX12_between_90 : decode cX12_between 90 = .ok (.iload_n 2, 1) := by decide +kernel
theorem dX12_between_91 : decode cX12_between 91 = .ok (.i2l, 1) := by decide +kernel
theorem dX12_between_92 : decode cX12_between 92 = .ok (.ladd, 1) := by decide +kernel
theorem dX12_between_93 : decode cX12_between 93 = .ok (.goto 23, 3) := by decide +kernel
theorem dX12_between_96 : decode cX12_between 96 = .ok (.iload_n 0, 1) := by decide +kernel
theorem dX12_between_97 : decode cX12_between 97 = .ok (.sipush 3001, 3) := by decide +kernel
theorem dX12_between_100 : decode cX12_between 100 = .ok (.if_icmp .ne 11, 3) := by decide +kernel
theorem dX12_between_103 : decode cX12_between 103 = .ok (.iload_n 1, 1) := by decide +kernel
theorem dX12_between_104 : decode cX12_between 104 = .ok (.i2l, 1) := by decide +kernel
theorem dX12_between_105 : decode cX12_between 105 = .ok (.iload_n 2, 1) := by decide +kernel
theorem dX12_between_106 : decode cX12_between 106 = .ok (.i2l, 1) := by decide +kernel
theorem dX12_between_107 : decode cX12_between 107 = .ok (.lsub, 1) := by decide +kernel
theorem dX12_between_108 : decode cX12_between 108 = .ok (.goto 8, 3) := by decide +kernel
theorem dX12_between_111 : decode cX12_between 111 = .ok (.iload_n 1, 1) := by decide +kernel
theorem dX12_between_112 : decode cX12_between 112 = .ok (.i2l, 1) := by decide +kernel
theorem dX12_between_113 : decode cX12_between 113 = .ok (.iload_n 2, 1) := by decide +kernel
theorem dX12_between_114 : decode cX12_between 114 = .ok (.i2l, 1) := by decide +kernel
theorem dX12_between_115 : decode cX12_between 115 = .ok (.lmul, 1) := by decide +kernel
theorem dX12_between_116 : decode cX12_between 116 = .ok (.lstore_n 3, 1) := by decide +kernel
theorem dX12_between_117 : decode cX12_between 117 = .ok (.lload_n 3, 1) := by decide +kernel
theorem dX12_between_118 : decode cX12_between 118 = .ok (.ldc2_w 249, 3) := by decide +kernel
theorem dX12_between_121 : decode cX12_between 121 = .ok (.lcmp, 1) := by decide +kernel
theorem dX12_between_122 : decode cX12_between 122 = .ok (.ifCond .le 9, 3) := by decide +kernel
theorem dX12_between_125 : decode cX12_between 125 = .ok (.ldc2_w 249, 3) := by decide +kernel
theorem dX12_between_128 : decode cX12_between 128 = .ok (.goto 18, 3) := by decide +kernel
theorem dX12_between_131 : decode cX12_between 131 = .ok (.lload_n 3, 1) := by decide +kernel
theorem dX12_between_132 : decode cX12_between 132 = .ok (.ldc2_w 251, 3) := by decide +kernel
theorem dX12_between_135 : decode cX12_between 135 = .ok (.lcmp, 1) := by decide +kernel
theorem dX12_between_136 : decode cX12_between 136 = .ok (.ifCond .ge 9, 3) := by decide +kernel
theorem dX12_between_139 : decode cX12_between 139 = .ok (.ldc2_w 251, 3) := by decide +kernel
theorem dX12_between_142 : decode cX12_between 142 = .ok (.goto 4, 3) := by decide +kernel
theorem dX12_between_145 : decode cX12_between 145 = .ok (.lload_n 3, 1) := by decide +kernel
theorem dX12_between_146 : decode cX12_between 146 = .ok (.l2i, 1) := by decide +kernel
theorem dX12_between_147 : decode cX12_between 147 = .ok (.ireturn, 1) := by decide +kernel
theorem txX12_between_1 (x : Int) (h : ¬ (x < 3003 ∨ 3008 < x)) (h0 : ¬ x = 3003) (h1 : ¬ x = 3004) (h2 : ¬ x = 3005) (h3 : ¬ x = 3006) (h4 : ¬ x = 3007) (h5 : ¬ x = 3008) : False := by omega
theorem bX12_between_0 {d : Nat} {P : Int → q_Mem → Prop} {M : q_Mem} (x0 x1 x2 : Int) (h : (((x0 < 3003 ∨ 3008 < x0) → ((¬ x0 = (3000 : Int)) → ((¬ x0 = (3001 : Int)) → q_v mX12_between d (qPI P) M 116 [none, none, none, none, none] [qL (q_lmul x1 x2)]) ∧ ((x0 = (3001 : Int)) → q_v mX12_between d (qPI P) M 116 [none, none, none, none, none] [qL (q_lsub x1 x2)])) ∧ ((x0 = (3000 : Int)) → q_v mX12_between d (qPI P) M 116 [none, none, none, none, none] [qL (q_ladd x1 x2)])) ∧ (((x0 = 3003) → ((¬ x1 = x2) → P 0 M) ∧ ((x1 = x2) → P 1 M)) ∧ (((x0 = 3004) → ((x2 ≤ x1) → P 0 M) ∧ ((¬ (x2 ≤ x1)) → P 1 M)) ∧ (((x0 = 3005) → ((x1 ≤ x2) → P 0 M) ∧ ((¬ (x1 ≤ x2)) → P 1 M)) ∧ (((x0 = 3006) → ((¬ x0 = (3000 : Int)) → ((¬ x0 = (3001 : Int)) → q_v mX12_between d (qPI P) M 116 [none, none, none, none, none] [qL (q_lmul x1 x2)]) ∧ ((x0 = (3001 : Int)) → q_v mX12_between d (qPI P) M 116 [none, none, none, none, none] [qL (q_lsub x1 x2)])) ∧ ((x0 = (3000 : Int)) → q_v mX12_between d (qPI P) M 116 [none, none, none, none, none] [qL (q_ladd x1 x2)])) ∧ (((x0 = 3007) → P (q_and x1 x2) M) ∧ (((x0 = 3008) → P (q_or x1 x2) M))))))))) : q_v mX12_between d (qPI P) M 0 [some (qI x0), some (qI x1), some (qI x2), none, none] [] := by
  refine qr_iload_n 0 1 rfl (x := x0) rfl dX12_between_0 ?_
  by_cases c1 : x0 < 3003 ∨ 3008 < x0
  · have h := h.1 c1
    refine qr_tabOut 1 81 c1 (by decide) dX12_between_1 ?_
    refine qr_iload_n 81 82 rfl (x := x0) rfl dX12_between_81 ?_
    refine qr_sipush 82 85 rfl (q_l32 _ rfl) (by decide) dX12_between_82 ?_
    refine qr_icmp_ne 85 88 96 rfl (by decide) dX12_between_85 (fun c85 => ?_) (fun c85 => ?_)
    · have h := h.1 c85
      refine qr_iload_n 96 97 rfl (x := x0) rfl dX12_between_96 ?_
      refine qr_sipush 97 100 rfl (q_l32 _ rfl) (by decide) dX12_between_97 ?_
      refine qr_icmp_ne 100 103 111 rfl (by decide) dX12_between_100 (fun c100 => ?_) (fun c100 => ?_)
      · have h := h.1 c100
        refine qr_iload_n 111 112 rfl (x := x1) rfl dX12_between_111 ?_
        refine qr_i2l 112 113 rfl dX12_between_112 ?_
        refine qr_iload_n 113 114 rfl (x := x2) rfl dX12_between_113 ?_
        refine qr_i2l 114 115 rfl dX12_between_114 ?_
        refine qr_lmul 115 116 rfl dX12_between_115 ?_
        exact qr_cut 116 (ls' := [none, none, none, none, none]) trivial h
      · have h := h.2 c100
        refine qr_iload_n 103 104 rfl (x := x1) rfl dX12_between_103 ?_
        refine qr_i2l 104 105 rfl dX12_between_104 ?_
        refine qr_iload_n 105 106 rfl (x := x2) rfl dX12_between_105 ?_
        refine qr_i2l 106 107 rfl dX12_between_106 ?_
        refine qr_lsub 107 108 rfl dX12_between_107 ?_
        refine qr_goto 108 116 (by decide) dX12_between_108 ?_
        exact qr_cut 116 (ls' := [none, none, none, none, none]) trivial h
    · have h := h.2 c85
      refine qr_iload_n 88 89 rfl (x := x1) rfl dX12_between_88 ?_
      refine qr_i2l 89 90 rfl dX12_between_89 ?_
      refine qr_iload_n 90 91 rfl (x := x2) rfl dX12_between_90 ?_
      refine qr_i2l 91 92 rfl dX12_between_91 ?_
      refine qr_ladd 92 93 rfl dX12_between_92 ?_
      refine qr_goto 93 116 (by decide) dX12_between_93 ?_
      exact qr_cut 116 (ls' := [none, none, none, none, none]) trivial h
  have h := h.2
  by_cases e1_0 : x0 = 3003
  · have h := h.1 e1_0
    refine qr_tabIn 1 40 0 (e1_0.trans (by decide)) (by decide) rfl (by decide) dX12_between_1 ?_
    refine qr_iload_n 40 41 rfl (x := x1) rfl dX12_between_40 ?_
    refine qr_iload_n 41 42 rfl (x := x2) rfl dX12_between_41 ?_
    refine qr_icmp_ne 42 45 49 rfl (by decide) dX12_between_42 (fun c42 => ?_) (fun c42 => ?_)
    · have h := h.1 c42
      refine qr_iconst 49 50 rfl (q_l32 _ rfl) dX12_between_49 ?_
      exact qe_i 50 rfl dX12_between_50 h
    · have h := h.2 c42
      refine qr_iconst 45 46 rfl (q_l32 _ rfl) dX12_between_45 ?_
      refine qr_goto 46 50 (by decide) dX12_between_46 ?_
      exact qe_i 50 rfl dX12_between_50 h
  have h := h.2
  by_cases e1_1 : x0 = 3004
  · have h := h.1 e1_1
    refine qr_tabIn 1 51 1 (e1_1.trans (by decide)) (by decide) rfl (by decide) dX12_between_1 ?_
    refine qr_iload_n 51 52 rfl (x := x1) rfl dX12_between_51 ?_
    refine qr_iload_n 52 53 rfl (x := x2) rfl dX12_between_52 ?_
    refine qr_icmp_ge 53 56 60 rfl (by decide) dX12_between_53 (fun c53 => ?_) (fun c53 => ?_)
    · have h := h.1 c53
      refine qr_iconst 60 61 rfl (q_l32 _ rfl) dX12_between_60 ?_
      exact qe_i 61 rfl dX12_between_61 h
    · have h := h.2 c53
      refine qr_iconst 56 57 rfl (q_l32 _ rfl) dX12_between_56 ?_
      refine qr_goto 57 61 (by decide) dX12_between_57 ?_
      exact qe_i 61 rfl dX12_between_61 h
  have h := h.2
  by_cases e1_2 : x0 = 3005
  · have h := h.1 e1_2
    refine qr_tabIn 1 62 2 (e1_2.trans (by decide)) (by decide) rfl (by decide) dX12_between_1 ?_
    refine qr_iload_n 62 63 rfl (x := x1) rfl dX12_between_62 ?_
    refine qr_iload_n 63 64 rfl (x := x2) rfl dX12_between_63 ?_
    refine qr_icmp_le 64 67 71 rfl (by decide) dX12_between_64 (fun c64 => ?_) (fun c64 => ?_)
    · have h := h.1 c64
      refine qr_iconst 71 72 rfl (q_l32 _ rfl) dX12_between_71 ?_
      exact qe_i 72 rfl dX12_between_72 h
    · have h := h.2 c64
      refine qr_iconst 67 68 rfl (q_l32 _ rfl) dX12_between_67 ?_
      refine qr_goto 68 72 (by decide) dX12_between_68 ?_
      exact qe_i 72 rfl dX12_between_72 h
  have h := h.2
  by_cases e1_3 : x0 = 3006
  · have h := h.1 e1_3
    refine qr_tabIn 1 81 3 (e1_3.trans (by decide)) (by decide) rfl (by decide) dX12_between_1 ?_
    refine qr_iload_n 81 82 rfl (x := x0) rfl dX12_between_81 ?_
    refine qr_sipush 82 85 rfl (q_l32 _ rfl) (by decide) dX12_between_82 ?_
    refine qr_icmp_ne 85 88 96 rfl (by decide) dX12_between_85 (fun c85 => ?_) (fun c85 => ?_)
    · have h := h.1 c85
      refine qr_iload_n 96 97 rfl (x := x0) rfl dX12_between_96 ?_
      refine qr_sipush 97 100 rfl (q_l32 _ rfl) (by decide) dX12_between_97 ?_
      refine qr_icmp_ne 100 103 111 rfl (by decide) dX12_between_100 (fun c100 => ?_) (fun c100 => ?_)
      · have h := h.1 c100
        refine qr_iload_n 111 112 rfl (x := x1) rfl dX12_between_111 ?_
        refine qr_i2l 112 113 rfl dX12_between_112 ?_
        refine qr_iload_n 113 114 rfl (x := x2) rfl dX12_between_113 ?_
        refine qr_i2l 114 115 rfl dX12_between_114 ?_
        refine qr_lmul 115 116 rfl dX12_between_115 ?_
        exact qr_cut 116 (ls' := [none, none, none, none, none]) trivial h
      · have h := h.2 c100
        refine qr_iload_n 103 104 rfl (x := x1) rfl dX12_between_103 ?_
        refine qr_i2l 104 105 rfl dX12_between_104 ?_
        refine qr_iload_n 105 106 rfl (x := x2) rfl dX12_between_105 ?_
        refine qr_i2l 106 107 rfl dX12_between_106 ?_
        refine qr_lsub 107 108 rfl dX12_between_107 ?_
        refine qr_goto 108 116 (by decide) dX12_between_108 ?_
        exact qr_cut 116 (ls' := [none, none, none, none, none]) trivial h
    · have h := h.2 c85
      refine qr_iload_n 88 89 rfl (x := x1) rfl dX12_between_88 ?_
      refine qr_i2l 89 90 rfl dX12_between_89 ?_
      refine qr_iload_n 90 91 rfl (x := x2) rfl dX12_between_90 ?_
      refine qr_i2l 91 92 rfl dX12_between_91 ?_
      refine qr_ladd 92 93 rfl dX12_between_92 ?_
      refine qr_goto 93 116 (by decide) dX12_between_93 ?_
      exact qr_cut 116 (ls' := [none, none, none, none, none]) trivial h
  have h := h.2
  by_cases e1_4 : x0 = 3007
  · have h := h.1 e1_4
    refine qr_tabIn 1 73 4 (e1_4.trans (by decide)) (by decide) rfl (by decide) dX12_between_1 ?_
    refine qr_iload_n 73 74 rfl (x := x1) rfl dX12_between_73 ?_
    refine qr_iload_n 74 75 rfl (x := x2) rfl dX12_between_74 ?_
    refine qr_iand 75 76 rfl dX12_between_75 ?_
    exact qe_i 76 rfl dX12_between_76 h
  have h := h.2
  by_cases e1_5 : x0 = 3008
  · have h := h e1_5
    refine qr_tabIn 1 77 5 (e1_5.trans (by decide)) (by decide) rfl (by decide) dX12_between_1 ?_
    refine qr_iload_n 77 78 rfl (x := x1) rfl dX12_between_77 ?_
    refine qr_iload_n 78 79 rfl (x := x2) rfl dX12_between_78 ?_
    refine qr_ior 79 80 rfl dX12_between_79 ?_
    exact qe_i 80 rfl dX12_between_80 h
  exact (txX12_between_1 x0 c1 e1_0 e1_1 e1_2 e1_3 e1_4 e1_5).elim
theorem bX12_between_116 {d : Nat} {P : Int → q_Mem → Prop} {M : q_Mem} (y0 : Int) (h : (((q_lcmp y0 1000000) ≤ 0) → ((0 ≤ (q_lcmp y0 (-1000000))) → P (q_l2i y0) M) ∧ ((¬ (0 ≤ (q_lcmp y0 (-1000000)))) → P (q_l2i (-1000000)) M)) ∧ ((¬ ((q_lcmp y0 1000000) ≤ 0)) → P (q_l2i 1000000) M)) : q_v mX12_between d (qPI P) M 116 [none, none, none, none, none] [qL y0] := by
  refine qr_lstore_n 116 117 rfl (by decide) rfl rfl dX12_between_116 ?_
  refine qr_lload_n 117 118 rfl (x := y0) rfl dX12_between_117 ?_
  refine qr_ldc2 118 121 rfl (v := 1000000) (q_l64 _ rfl) wm_1647 dX12_between_118 ?_
  refine qr_lcmp 121 122 rfl dX12_between_121 ?_
  refine qr_if_le 122 125 131 rfl (by decide) dX12_between_122 (fun c122 => ?_) (fun c122 => ?_)
  · have h := h.1 c122
    refine qr_lload_n 131 132 rfl (x := y0) rfl dX12_between_131 ?_
    refine qr_ldc2 132 135 rfl (v := (-1000000)) (q_l64 _ rfl) wm_1648 dX12_between_132 ?_
    refine qr_lcmp 135 136 rfl dX12_between_135 ?_
    refine qr_if_ge 136 139 145 rfl (by decide) dX12_between_136 (fun c136 => ?_) (fun c136 => ?_)
    · have h := h.1 c136
      refine qr_lload_n 145 146 rfl (x := y0) rfl dX12_between_145 ?_
      refine qr_l2i 146 147 rfl dX12_between_146 ?_
      exact qe_i 147 rfl dX12_between_147 h
    · have h := h.2 c136
      refine qr_ldc2 139 142 rfl (v := (-1000000)) (q_l64 _ rfl) wm_1648 dX12_between_139 ?_
      refine qr_goto 142 146 (by decide) dX12_between_142 ?_
      refine qr_l2i 146 147 rfl dX12_between_146 ?_
      exact qe_i 147 rfl dX12_between_147 h
  · have h := h.2 c122
    refine qr_ldc2 125 128 rfl (v := 1000000) (q_l64 _ rfl) wm_1647 dX12_between_125 ?_
    refine qr_goto 128 146 (by decide) dX12_between_128 ?_
    refine qr_l2i 146 147 rfl dX12_between_146 ?_
    exact qe_i 147 rfl dX12_between_147 h
theorem dX12_reckons_0 : decode cX12_reckons 0 = .ok (.iconst 0, 1) := by decide +kernel
theorem dX12_reckons_1 : decode cX12_reckons 1 = .ok (.istore_n 2, 1) := by decide +kernel
theorem dX12_reckons_2 : decode cX12_reckons 2 = .ok (.iconst 0, 1) := by decide +kernel
theorem dX12_reckons_3 : decode cX12_reckons 3 = .ok (.istore_n 3, 1) := by decide +kernel
theorem dX12_reckons_4 : decode cX12_reckons 4 = .ok (.iload_n 3, 1) := by decide +kernel
theorem dX12_reckons_5 : decode cX12_reckons 5 = .ok (.aload_n 0, 1) := by decide +kernel
theorem dX12_reckons_6 : decode cX12_reckons 6 = .ok (.getfield 13, 3) := by decide +kernel
theorem dX12_reckons_9 : decode cX12_reckons 9 = .ok (.bipush 100, 2) := by decide +kernel
theorem dX12_reckons_11 : decode cX12_reckons 11 = .ok (.iload_n 1, 1) := by decide +kernel
theorem dX12_reckons_12 : decode cX12_reckons 12 = .ok (.iadd, 1) := by decide +kernel
theorem dX12_reckons_13 : decode cX12_reckons 13 = .ok (.iaload, 1) := by decide +kernel
theorem dX12_reckons_14 : decode cX12_reckons 14 = .ok (.if_icmp .ge 185, 3) := by decide +kernel
theorem dX12_reckons_17 : decode cX12_reckons 17 = .ok (.aload_n 0, 1) := by decide +kernel
theorem dX12_reckons_18 : decode cX12_reckons 18 = .ok (.getfield 13, 3) := by decide +kernel
theorem dX12_reckons_21 : decode cX12_reckons 21 = .ok (.sipush 604, 3) := by decide +kernel
theorem dX12_reckons_24 : decode cX12_reckons 24 = .ok (.aload_n 0, 1) := by decide +kernel
theorem dX12_reckons_25 : decode cX12_reckons 25 = .ok (.getfield 13, 3) := by decide +kernel
theorem dX12_reckons_28 : decode cX12_reckons 28 = .ok (.bipush 98, 2) := by decide +kernel
theorem dX12_reckons_30 : decode cX12_reckons 30 = .ok (.iload_n 1, 1) := by decide +kernel
theorem dX12_reckons_31 : decode cX12_reckons 31 = .ok (.iadd, 1) := by decide +kernel
theorem dX12_reckons_32 : decode cX12_reckons 32 = .ok (.iaload, 1) := by decide +kernel
theorem dX12_reckons_33 : decode cX12_reckons 33 = .ok (.iadd, 1) := by decide +kernel
theorem dX12_reckons_34 : decode cX12_reckons 34 = .ok (.iload_n 3, 1) := by decide +kernel
theorem dX12_reckons_35 : decode cX12_reckons 35 = .ok (.iadd, 1) := by decide +kernel
theorem dX12_reckons_36 : decode cX12_reckons 36 = .ok (.iaload, 1) := by decide +kernel
theorem dX12_reckons_37 : decode cX12_reckons 37 = .ok (.istore 4, 2) := by decide +kernel
theorem dX12_reckons_39 : decode cX12_reckons 39 = .ok (.iload 4, 2) := by decide +kernel
theorem dX12_reckons_41 : decode cX12_reckons 41 = .ok (.sipush 3000, 3) := by decide +kernel
theorem dX12_reckons_44 : decode cX12_reckons 44 = .ok (.if_icmp .ge 39, 3) := by decide +kernel
theorem dX12_reckons_47 : decode cX12_reckons 47 = .ok (.aload_n 0, 1) := by decide +kernel
theorem dX12_reckons_48 : decode cX12_reckons 48 = .ok (.getfield 36, 3) := by decide +kernel
theorem dX12_reckons_51 : decode cX12_reckons 51 = .ok (.iload_n 2, 1) := by decide +kernel
theorem dX12_reckons_52 : decode cX12_reckons 52 = .ok (.iload 4, 2) := by decide +kernel
theorem dX12_reckons_54 : decode cX12_reckons 54 = .ok (.sipush 1000, 3) := by decide +kernel
theorem dX12_reckons_57 : decode cX12_reckons 57 = .ok (.if_icmp .ge 8, 3) := by decide +kernel
theorem dX12_reckons_60 : decode cX12_reckons 60 = .ok (.iload 4, 2) := by decide +kernel
theorem dX12_reckons_62 : decode cX12_reckons 62 = .ok (.goto 14, 3) := by decide +kernel
theorem dX12_reckons_65 : decode cX12_reckons 65 = .ok (.aload_n 0, 1) := by decide +kernel
theorem dX12_reckons_66 : decode cX12_reckons 66 = .ok (.getfield 39, 3) := by decide +kernel
theorem dX12_reckons_69 : decode cX12_reckons 69 = .ok (.iload 4, 2) := by decide +kernel
theorem dX12_reckons_71 : decode cX12_reckons 71 = .ok (.sipush 1000, 3) := by decide +kernel
theorem dX12_reckons_74 : decode cX12_reckons 74 = .ok (.isub, 1) := by decide +kernel
theorem dX12_reckons_75 : decode cX12_reckons 75 = .ok (.iaload, 1) := by decide +kernel
theorem dX12_reckons_76 : decode cX12_reckons 76 = .ok (.iastore, 1) := by decide +kernel
theorem dX12_reckons_77 : decode cX12_reckons 77 = .ok (.iinc 2 1, 3) := by decide +kernel
theorem dX12_reckons_80 : decode cX12_reckons 80 = .ok (.goto 113, 3) := by decide +kernel
theorem dX12_reckons_83 : decode cX12_reckons 83 = .ok (.iload 4, 2) := by decide +kernel
theorem dX12_reckons_85 : decode cX12_reckons 85 = .ok (.sipush 3006, 3) := by decide +kernel
theorem dX12_reckons_88 : decode cX12_reckons 88 = .ok (.if_icmp .ne 24, 3) := by decide +kernel
theorem dX12_reckons_91 : decode cX12_reckons 91 = .ok (.aload_n 0, 1) := by decide +kernel
theorem dX12_reckons_92 : decode cX12_reckons 92 = .ok (.getfield 36, 3) := by decide +kernel
theorem dX12_reckons_95 : decode cX12_reckons 95 = .ok (.iload_n 2, 1) := by decide +kernel
theorem dX12_reckons_96 : decode cX12_reckons 96 = .ok (.iconst 1, 1) := by decide +kernel
theorem dX12_reckons_97 : decode cX12_reckons 97 = .ok (.isub, 1) := by decide +kernel
theorem dX12_reckons_98 : decode cX12_reckons 98 = .ok (.iconst 1, 1) := by decide +kernel
theorem dX12_reckons_99 : decode cX12_reckons 99 = .ok (.aload_n 0, 1) := by decide +kernel
theorem dX12_reckons_100 : decode cX12_reckons 100 = .ok (.getfield 36, 3) := by decide +kernel
theorem dX12_reckons_103 : decode cX12_reckons 103 = .ok (.iload_n 2, 1) := by decide +kernel
theorem dX12_reckons_104 : decode cX12_reckons 104 = .ok (.iconst 1, 1) := by decide +kernel
theorem dX12_reckons_105 : decode cX12_reckons 105 = .ok (.isub, 1) := by decide +kernel
theorem dX12_reckons_106 : decode cX12_reckons 106 = .ok (.iaload, 1) := by decide +kernel
theorem dX12_reckons_107 : decode cX12_reckons 107 = .ok (.isub, 1) := by decide +kernel
theorem dX12_reckons_108 : decode cX12_reckons 108 = .ok (.iastore, 1) := by decide +kernel
theorem dX12_reckons_109 : decode cX12_reckons 109 = .ok (.goto 84, 3) := by decide +kernel
theorem dX12_reckons_112 : decode cX12_reckons 112 = .ok (.iload 4, 2) := by decide +kernel
theorem dX12_reckons_114 : decode cX12_reckons 114 = .ok (.sipush 3009, 3) := by decide +kernel
theorem dX12_reckons_117 : decode cX12_reckons 117 = .ok (.if_icmp .ne 46, 3) := by decide +kernel
theorem dX12_reckons_120 : decode cX12_reckons 120 = .ok (.iinc 2 (-2), 3) := by decide +kernel
theorem dX12_reckons_123 : decode cX12_reckons 123 = .ok (.aload_n 0, 1) := by decide +kernel
theorem dX12_reckons_124 : decode cX12_reckons 124 = .ok (.getfield 36, 3) := by decide +kernel
theorem dX12_reckons_127 : decode cX12_reckons 127 = .ok (.iload_n 2, 1) := by decide +kernel
theorem dX12_reckons_128 : decode cX12_reckons 128 = .ok (.iconst 1, 1) := by decide +kernel
theorem dX12_reckons_129 : decode cX12_reckons 129 = .ok (.isub, 1) := by decide +kernel
theorem dX12_reckons_130 : decode cX12_reckons 130 = .ok (.aload_n 0, 1) := by decide +kernel
theorem dX12_reckons_131 : decode cX12_reckons 131 = .ok (.getfield 36, 3) := by decide +kernel
theorem dX12_reckons_134 : decode cX12_reckons 134 = .ok (.iload_n 2, 1) := by decide +kernel
theorem dX12_reckons_135 : decode cX12_reckons 135 = .ok (.iconst 1, 1) := by decide +kernel
theorem dX12_reckons_136 : decode cX12_reckons 136 = .ok (.isub, 1) := by decide +kernel
theorem dX12_reckons_137 : decode cX12_reckons 137 = .ok (.iaload, 1) := by decide +kernel
theorem dX12_reckons_138 : decode cX12_reckons 138 = .ok (.iconst 1, 1) := by decide +kernel
theorem dX12_reckons_139 : decode cX12_reckons 139 = .ok (.if_icmp .ne 12, 3) := by decide +kernel
theorem dX12_reckons_142 : decode cX12_reckons 142 = .ok (.aload_n 0, 1) := by decide +kernel
theorem dX12_reckons_143 : decode cX12_reckons 143 = .ok (.getfield 36, 3) := by decide +kernel
theorem dX12_reckons_146 : decode cX12_reckons 146 = .ok (.iload_n 2, 1) := by decide +kernel
theorem dX12_reckons_147 : decode cX12_reckons 147 = .ok (.iaload, 1) := by decide +kernel
theorem dX12_reckons_148 : decode cX12_reckons 148 = .ok (.goto 11, 3) := by decide +kernel
theorem dX12_reckons_151 : decode cX12_reckons 151 = .ok (.aload_n 0, 1) := by decide +kernel
theorem dX12_reckons_152 : decode cX12_reckons 152 = .ok (.getfield 36, 3) := by decide +kernel
theorem dX12_reckons_155 : decode cX12_reckons 155 = .ok (.iload_n 2, 1) := by decide +kernel
theorem dX12_reckons_156 : decode cX12_reckons 156 = .ok (.iconst 1, 1) := by decide +kernel
theorem dX12_reckons_157 : decode cX12_reckons 157 = .ok (.iadd, 1) := by decide +kernel
theorem dX12_reckons_158 : decode cX12_reckons 158 = .ok (.iaload, 1) := by decide +kernel
theorem dX12_reckons_159 : decode cX12_reckons 159 = .ok (.iastore, 1) := by decide +kernel
theorem dX12_reckons_160 : decode cX12_reckons 160 = .ok (.goto 33, 3) := by decide +kernel
theorem dX12_reckons_163 : decode cX12_reckons 163 = .ok (.iinc 2 (-1), 3) := by decide +kernel
theorem dX12_reckons_166 : decode cX12_reckons 166 = .ok (.aload_n 0, 1) := by decide +kernel
theorem dX12_reckons_167 : decode cX12_reckons 167 = .ok (.getfield 36, 3) := by decide +kernel
theorem dX12_reckons_170 : decode cX12_reckons 170 = .ok (.iload_n 2, 1) := by decide +kernel
theorem dX12_reckons_171 : decode cX12_reckons 171 = .ok (.iconst 1, 1) := by decide +kernel
theorem dX12_reckons_172 : decode cX12_reckons 172 = .ok (.isub, 1) := by decide +kernel
theorem dX12_reckons_173 : decode cX12_reckons 173 = .ok (.iload 4, 2) := by decide +kernel
theorem dX12_reckons_175 : decode cX12_reckons 175 = .ok (.aload_n 0, 1) := by decide +kernel
theorem dX12_reckons_176 : decode cX12_reckons 176 = .ok (.getfield 36, 3) := by decide +kernel
theorem dX12_reckons_179 : decode cX12_reckons 179 = .ok (.iload_n 2, 1) := by decide +kernel
theorem dX12_reckons_180 : decode cX12_reckons 180 = .ok (.iconst 1, 1) := by decide +kernel
theorem dX12_reckons_181 : decode cX12_reckons 181 = .ok (.isub, 1) := by decide +kernel
theorem dX12_reckons_182 : decode cX12_reckons 182 = .ok (.iaload, 1) := by decide +kernel
theorem dX12_reckons_183 : decode cX12_reckons 183 = .ok (.aload_n 0, 1) := by decide +kernel
theorem dX12_reckons_184 : decode cX12_reckons 184 = .ok (.getfield 36, 3) := by decide +kernel
theorem dX12_reckons_187 : decode cX12_reckons 187 = .ok (.iload_n 2, 1) := by decide +kernel
theorem dX12_reckons_188 : decode cX12_reckons 188 = .ok (.iaload, 1) := by decide +kernel
theorem dX12_reckons_189 : decode cX12_reckons 189 = .ok (.invokestatic 253, 3) := by decide +kernel
theorem dX12_reckons_192 : decode cX12_reckons 192 = .ok (.iastore, 1) := by decide +kernel
theorem dX12_reckons_193 : decode cX12_reckons 193 = .ok (.iinc 3 1, 3) := by decide +kernel
theorem dX12_reckons_196 : decode cX12_reckons 196 = .ok (.goto (-192), 3) := by decide +kernel
theorem dX12_reckons_199 : decode cX12_reckons 199 = .ok (.aload_n 0, 1) := by decide +kernel
theorem dX12_reckons_200 : decode cX12_reckons 200 = .ok (.getfield 36, 3) := by decide +kernel
theorem dX12_reckons_203 : decode cX12_reckons 203 = .ok (.iconst 0, 1) := by decide +kernel
theorem dX12_reckons_204 : decode cX12_reckons 204 = .ok (.iaload, 1) := by decide +kernel
theorem dX12_reckons_205 : decode cX12_reckons 205 = .ok (.ireturn, 1) := by decide +kernel
theorem bX12_reckons_0 {d : Nat} {P : Int → q_Mem → Prop} {M : q_Mem} (x1 : Int) (h : q_v mX12_reckons d (qPI P) M 4 [some (qR 178), some (qI x1), some (qI 0), some (qI 0), none] []) : q_v mX12_reckons d (qPI P) M 0 [some (qR 178), some (qI x1), none, none, none] [] := by
  refine qr_iconst 0 1 rfl (q_l32 _ rfl) dX12_reckons_0 ?_
  refine qr_istore_n 1 2 rfl (by decide) rfl rfl dX12_reckons_1 ?_
  refine qr_iconst 2 3 rfl (q_l32 _ rfl) dX12_reckons_2 ?_
  refine qr_istore_n 3 4 rfl (by decide) rfl rfl dX12_reckons_3 ?_
  exact h
theorem bX12_reckons_4 {d : Nat} {P : Int → q_Mem → Prop} {M : q_Mem} (x1 x2 x3 : Int) (h : (0 ≤ (q_add 100 x1) ∧ (q_add 100 x1) < (4512 : Int)) ∧ ((((M 179 (q_add 100 x1)) ≤ x3) → (P (M 185 0) M)) ∧ ((¬ ((M 179 (q_add 100 x1)) ≤ x3)) → (0 ≤ (q_add 98 x1) ∧ (q_add 98 x1) < (4512 : Int)) ∧ ((0 ≤ (q_add (q_add 604 (M 179 (q_add 98 x1))) x3) ∧ (q_add (q_add 604 (M 179 (q_add 98 x1))) x3) < (4512 : Int)) ∧ (∀ x4_4 : Int, x4_4 = (M 179 (q_add (q_add 604 (M 179 (q_add 98 x1))) x3)) → (((3000 : Int) ≤ x4_4) → ((¬ x4_4 = (3006 : Int)) → ((¬ x4_4 = (3009 : Int)) → (0 ≤ (q_sub (q_add x2 (-1)) 1) ∧ (q_sub (q_add x2 (-1)) 1) < (900 : Int)) ∧ ((0 ≤ (q_add x2 (-1)) ∧ (q_add x2 (-1)) < (900 : Int)) ∧ (q_kI yX12_between mX12_between d [qI x4_4, qI (M 185 (q_sub (q_add x2 (-1)) 1)), qI (M 185 (q_add x2 (-1)))] M (fun v8 M7 => (0 ≤ (q_sub (q_add x2 (-1)) 1) ∧ (q_sub (q_add x2 (-1)) 1) < (900 : Int)) ∧ (∀ M10 : q_Mem, M10 = q_up M7 185 (q_sub (q_add x2 (-1)) 1) v8 → q_v mX12_reckons d (qPI P) M10 4 [some (qR 178), some (qI x1), some (qI (q_add x2 (-1))), some (qI (q_add x3 1)), none] []))))) ∧ ((x4_4 = (3009 : Int)) → (0 ≤ (q_sub (q_add x2 (-2)) 1) ∧ (q_sub (q_add x2 (-2)) 1) < (900 : Int)) ∧ (((¬ (M 185 (q_sub (q_add x2 (-2)) 1)) = (1 : Int)) → (0 ≤ (q_add (q_add x2 (-2)) 1) ∧ (q_add (q_add x2 (-2)) 1) < (900 : Int)) ∧ ((0 ≤ (q_sub (q_add x2 (-2)) 1) ∧ (q_sub (q_add x2 (-2)) 1) < (900 : Int)) ∧ (∀ M14 : q_Mem, M14 = q_up M 185 (q_sub (q_add x2 (-2)) 1) (M 185 (q_add (q_add x2 (-2)) 1)) → q_v mX12_reckons d (qPI P) M14 4 [some (qR 178), some (qI x1), some (qI (q_add x2 (-2))), some (qI (q_add x3 1)), none] []))) ∧ (((M 185 (q_sub (q_add x2 (-2)) 1)) = (1 : Int)) → (0 ≤ (q_add x2 (-2)) ∧ (q_add x2 (-2)) < (900 : Int)) ∧ ((0 ≤ (q_sub (q_add x2 (-2)) 1) ∧ (q_sub (q_add x2 (-2)) 1) < (900 : Int)) ∧ (∀ M17 : q_Mem, M17 = q_up M 185 (q_sub (q_add x2 (-2)) 1) (M 185 (q_add x2 (-2))) → q_v mX12_reckons d (qPI P) M17 4 [some (qR 178), some (qI x1), some (qI (q_add x2 (-2))), some (qI (q_add x3 1)), none] [])))))) ∧ ((x4_4 = (3006 : Int)) → (0 ≤ (q_sub x2 1) ∧ (q_sub x2 1) < (900 : Int)) ∧ ((0 ≤ (q_sub x2 1) ∧ (q_sub x2 1) < (900 : Int)) ∧ (∀ M20 : q_Mem, M20 = q_up M 185 (q_sub x2 1) (q_sub 1 (M 185 (q_sub x2 1))) → q_v mX12_reckons d (qPI P) M20 4 [some (qR 178), some (qI x1), some (qI x2), some (qI (q_add x3 1)), none] [])))) ∧ ((¬ ((3000 : Int) ≤ x4_4)) → (((1000 : Int) ≤ x4_4) → (0 ≤ (q_sub x4_4 1000) ∧ (q_sub x4_4 1000) < (5 : Int)) ∧ ((0 ≤ x2 ∧ x2 < (900 : Int)) ∧ (∀ M23 : q_Mem, M23 = q_up M 185 x2 (M 186 (q_sub x4_4 1000)) → q_v mX12_reckons d (qPI P) M23 4 [some (qR 178), some (qI x1), some (qI (q_add x2 1)), some (qI (q_add x3 1)), none] []))) ∧ ((¬ ((1000 : Int) ≤ x4_4)) → (0 ≤ x2 ∧ x2 < (900 : Int)) ∧ (∀ M25 : q_Mem, M25 = q_up M 185 x2 x4_4 → q_v mX12_reckons d (qPI P) M25 4 [some (qR 178), some (qI x1), some (qI (q_add x2 1)), some (qI (q_add x3 1)), none] [])))))))) : q_v mX12_reckons d (qPI P) M 4 [some (qR 178), some (qI x1), some (qI x2), some (qI x3), none] [] := by
  refine qr_iload_n 4 5 rfl (x := x3) rfl dX12_reckons_4 ?_
  refine qr_aload_n 5 6 rfl (x := 178) rfl dX12_reckons_5 ?_
  refine qr_getF 6 9 rfl ck12 1 (by decide) (b := 179) (by decide +kernel) rfl (by decide +kernel) (by decide +kernel) wm_1327 rfl dX12_reckons_6 ?_
  refine qr_bipush 9 11 rfl (q_l32 _ rfl) (by decide) dX12_reckons_9 ?_
  refine qr_iload_n 11 12 rfl (x := x1) rfl dX12_reckons_11 ?_
  refine qr_iadd 12 13 rfl dX12_reckons_12 ?_
  have hb1 := h.1
  have h := h.2
  refine qi_ld 13 14 rfl (N := 4512) (by decide +kernel) (by decide +kernel) hb1.1 hb1.2 dX12_reckons_13 ?_
  refine qr_icmp_ge 14 17 199 rfl (by decide) dX12_reckons_14 (fun c14 => ?_) (fun c14 => ?_)
  · have h := h.1 c14
    refine qr_aload_n 199 200 rfl (x := 178) rfl dX12_reckons_199 ?_
    refine qr_getF 200 203 rfl ck12 17 (by decide) (b := 185) (by decide +kernel) rfl (by decide +kernel) (by decide +kernel) wm_1343 rfl dX12_reckons_200 ?_
    refine qr_iconst 203 204 rfl (q_l32 _ rfl) dX12_reckons_203 ?_
    refine qi_ld 204 205 rfl (N := 900) (by decide +kernel) (by decide +kernel) (by decide) (by decide) dX12_reckons_204 ?_
    exact qe_i 205 rfl dX12_reckons_205 h
  · have h := h.2 c14
    refine qr_aload_n 17 18 rfl (x := 178) rfl dX12_reckons_17 ?_
    refine qr_getF 18 21 rfl ck12 1 (by decide) (b := 179) (by decide +kernel) rfl (by decide +kernel) (by decide +kernel) wm_1327 rfl dX12_reckons_18 ?_
    refine qr_sipush 21 24 rfl (q_l32 _ rfl) (by decide) dX12_reckons_21 ?_
    refine qr_aload_n 24 25 rfl (x := 178) rfl dX12_reckons_24 ?_
    refine qr_getF 25 28 rfl ck12 1 (by decide) (b := 179) (by decide +kernel) rfl (by decide +kernel) (by decide +kernel) wm_1327 rfl dX12_reckons_25 ?_
    refine qr_bipush 28 30 rfl (q_l32 _ rfl) (by decide) dX12_reckons_28 ?_
    refine qr_iload_n 30 31 rfl (x := x1) rfl dX12_reckons_30 ?_
    refine qr_iadd 31 32 rfl dX12_reckons_31 ?_
    have hb2 := h.1
    have h := h.2
    refine qi_ld 32 33 rfl (N := 4512) (by decide +kernel) (by decide +kernel) hb2.1 hb2.2 dX12_reckons_32 ?_
    refine qr_iadd 33 34 rfl dX12_reckons_33 ?_
    refine qr_iload_n 34 35 rfl (x := x3) rfl dX12_reckons_34 ?_
    refine qr_iadd 35 36 rfl dX12_reckons_35 ?_
    have hb3 := h.1
    have h := h.2
    refine qi_ld 36 37 rfl (N := 4512) (by decide +kernel) (by decide +kernel) hb3.1 hb3.2 dX12_reckons_36 ?_
    refine qn_i 37 (fun x4_4 e_x4_4 => ?_)
    have h := h x4_4 e_x4_4
    refine qr_istore 37 39 rfl (by decide) rfl rfl dX12_reckons_37 ?_
    refine qr_iload 39 41 rfl (x := x4_4) rfl dX12_reckons_39 ?_
    refine qr_sipush 41 44 rfl (q_l32 _ rfl) (by decide) dX12_reckons_41 ?_
    refine qr_icmp_ge 44 47 83 rfl (by decide) dX12_reckons_44 (fun c44 => ?_) (fun c44 => ?_)
    · have h := h.1 c44
      refine qr_iload 83 85 rfl (x := x4_4) rfl dX12_reckons_83 ?_
      refine qr_sipush 85 88 rfl (q_l32 _ rfl) (by decide) dX12_reckons_85 ?_
      refine qr_icmp_ne 88 91 112 rfl (by decide) dX12_reckons_88 (fun c88 => ?_) (fun c88 => ?_)
      · have h := h.1 c88
        refine qr_iload 112 114 rfl (x := x4_4) rfl dX12_reckons_112 ?_
        refine qr_sipush 114 117 rfl (q_l32 _ rfl) (by decide) dX12_reckons_114 ?_
        refine qr_icmp_ne 117 120 163 rfl (by decide) dX12_reckons_117 (fun c117 => ?_) (fun c117 => ?_)
        · have h := h.1 c117
          refine qr_iinc 163 166 rfl (by decide) (x := x2) rfl rfl rfl dX12_reckons_163 ?_
          refine qr_aload_n 166 167 rfl (x := 178) rfl dX12_reckons_166 ?_
          refine qr_getF 167 170 rfl ck12 17 (by decide) (b := 185) (by decide +kernel) rfl (by decide +kernel) (by decide +kernel) wm_1343 rfl dX12_reckons_167 ?_
          refine qr_iload_n 170 171 rfl (x := (q_add x2 (-1))) rfl dX12_reckons_170 ?_
          refine qr_iconst 171 172 rfl (q_l32 _ rfl) dX12_reckons_171 ?_
          refine qr_isub 172 173 rfl dX12_reckons_172 ?_
          refine qr_iload 173 175 rfl (x := x4_4) rfl dX12_reckons_173 ?_
          refine qr_aload_n 175 176 rfl (x := 178) rfl dX12_reckons_175 ?_
          refine qr_getF 176 179 rfl ck12 17 (by decide) (b := 185) (by decide +kernel) rfl (by decide +kernel) (by decide +kernel) wm_1343 rfl dX12_reckons_176 ?_
          refine qr_iload_n 179 180 rfl (x := (q_add x2 (-1))) rfl dX12_reckons_179 ?_
          refine qr_iconst 180 181 rfl (q_l32 _ rfl) dX12_reckons_180 ?_
          refine qr_isub 181 182 rfl dX12_reckons_181 ?_
          have hb5 := h.1
          have h := h.2
          refine qi_ld 182 183 rfl (N := 900) (by decide +kernel) (by decide +kernel) hb5.1 hb5.2 dX12_reckons_182 ?_
          refine qr_aload_n 183 184 rfl (x := 178) rfl dX12_reckons_183 ?_
          refine qr_getF 184 187 rfl ck12 17 (by decide) (b := 185) (by decide +kernel) rfl (by decide +kernel) (by decide +kernel) wm_1343 rfl dX12_reckons_184 ?_
          refine qr_iload_n 187 188 rfl (x := (q_add x2 (-1))) rfl dX12_reckons_187 ?_
          have hb6 := h.1
          have h := h.2
          refine qi_ld 188 189 rfl (N := 900) (by decide +kernel) (by decide +kernel) hb6.1 hb6.2 dX12_reckons_188 ?_
          refine qs_I 189 192 rfl (av := [qI x4_4, qI (M 185 (q_sub (q_add x2 (-1)) 1)), qI (M 185 (q_add x2 (-1)))]) ca_X12_between wm_1645 wm_1644 rfl rfl (Nat.le_of_ble_eq_true rfl) dX12_reckons_189 h (fun v8 M7 h => ?_)
          have hb9 := h.1
          have h := h.2
          refine qi_st 192 193 rfl (N := 900) (by decide +kernel) (by decide +kernel) hb9.1 hb9.2 dX12_reckons_192 (fun M10 e_M10 => ?_)
          have h := h M10 e_M10
          refine qr_iinc 193 196 rfl (by decide) (x := x3) rfl rfl rfl dX12_reckons_193 ?_
          refine qr_goto 196 4 (by decide) dX12_reckons_196 ?_
          exact qr_cut 4 (ls' := [some (qR 178), some (qI x1), some (qI (q_add x2 (-1))), some (qI (q_add x3 1)), none]) (And.intro rfl (And.intro rfl (And.intro rfl (And.intro rfl trivial)))) h
        · have h := h.2 c117
          refine qr_iinc 120 123 rfl (by decide) (x := x2) rfl rfl rfl dX12_reckons_120 ?_
          refine qr_aload_n 123 124 rfl (x := 178) rfl dX12_reckons_123 ?_
          refine qr_getF 124 127 rfl ck12 17 (by decide) (b := 185) (by decide +kernel) rfl (by decide +kernel) (by decide +kernel) wm_1343 rfl dX12_reckons_124 ?_
          refine qr_iload_n 127 128 rfl (x := (q_add x2 (-2))) rfl dX12_reckons_127 ?_
          refine qr_iconst 128 129 rfl (q_l32 _ rfl) dX12_reckons_128 ?_
          refine qr_isub 129 130 rfl dX12_reckons_129 ?_
          refine qr_aload_n 130 131 rfl (x := 178) rfl dX12_reckons_130 ?_
          refine qr_getF 131 134 rfl ck12 17 (by decide) (b := 185) (by decide +kernel) rfl (by decide +kernel) (by decide +kernel) wm_1343 rfl dX12_reckons_131 ?_
          refine qr_iload_n 134 135 rfl (x := (q_add x2 (-2))) rfl dX12_reckons_134 ?_
          refine qr_iconst 135 136 rfl (q_l32 _ rfl) dX12_reckons_135 ?_
          refine qr_isub 136 137 rfl dX12_reckons_136 ?_
          have hb11 := h.1
          have h := h.2
          refine qi_ld 137 138 rfl (N := 900) (by decide +kernel) (by decide +kernel) hb11.1 hb11.2 dX12_reckons_137 ?_
          refine qr_iconst 138 139 rfl (q_l32 _ rfl) dX12_reckons_138 ?_
          refine qr_icmp_ne 139 142 151 rfl (by decide) dX12_reckons_139 (fun c139 => ?_) (fun c139 => ?_)
          · have h := h.1 c139
            refine qr_aload_n 151 152 rfl (x := 178) rfl dX12_reckons_151 ?_
            refine qr_getF 152 155 rfl ck12 17 (by decide) (b := 185) (by decide +kernel) rfl (by decide +kernel) (by decide +kernel) wm_1343 rfl dX12_reckons_152 ?_
            refine qr_iload_n 155 156 rfl (x := (q_add x2 (-2))) rfl dX12_reckons_155 ?_
            refine qr_iconst 156 157 rfl (q_l32 _ rfl) dX12_reckons_156 ?_
            refine qr_iadd 157 158 rfl dX12_reckons_157 ?_
            have hb12 := h.1
            have h := h.2
            refine qi_ld 158 159 rfl (N := 900) (by decide +kernel) (by decide +kernel) hb12.1 hb12.2 dX12_reckons_158 ?_
            have hb13 := h.1
            have h := h.2
            refine qi_st 159 160 rfl (N := 900) (by decide +kernel) (by decide +kernel) hb13.1 hb13.2 dX12_reckons_159 (fun M14 e_M14 => ?_)
            have h := h M14 e_M14
            refine qr_goto 160 193 (by decide) dX12_reckons_160 ?_
            refine qr_iinc 193 196 rfl (by decide) (x := x3) rfl rfl rfl dX12_reckons_193 ?_
            refine qr_goto 196 4 (by decide) dX12_reckons_196 ?_
            exact qr_cut 4 (ls' := [some (qR 178), some (qI x1), some (qI (q_add x2 (-2))), some (qI (q_add x3 1)), none]) (And.intro rfl (And.intro rfl (And.intro rfl (And.intro rfl trivial)))) h
          · have h := h.2 c139
            refine qr_aload_n 142 143 rfl (x := 178) rfl dX12_reckons_142 ?_
            refine qr_getF 143 146 rfl ck12 17 (by decide) (b := 185) (by decide +kernel) rfl (by decide +kernel) (by decide +kernel) wm_1343 rfl dX12_reckons_143 ?_
            refine qr_iload_n 146 147 rfl (x := (q_add x2 (-2))) rfl dX12_reckons_146 ?_
            have hb15 := h.1
            have h := h.2
            refine qi_ld 147 148 rfl (N := 900) (by decide +kernel) (by decide +kernel) hb15.1 hb15.2 dX12_reckons_147 ?_
            refine qr_goto 148 159 (by decide) dX12_reckons_148 ?_
            have hb16 := h.1
            have h := h.2
            refine qi_st 159 160 rfl (N := 900) (by decide +kernel) (by decide +kernel) hb16.1 hb16.2 dX12_reckons_159 (fun M17 e_M17 => ?_)
            have h := h M17 e_M17
            refine qr_goto 160 193 (by decide) dX12_reckons_160 ?_
            refine qr_iinc 193 196 rfl (by decide) (x := x3) rfl rfl rfl dX12_reckons_193 ?_
            refine qr_goto 196 4 (by decide) dX12_reckons_196 ?_
            exact qr_cut 4 (ls' := [some (qR 178), some (qI x1), some (qI (q_add x2 (-2))), some (qI (q_add x3 1)), none]) (And.intro rfl (And.intro rfl (And.intro rfl (And.intro rfl trivial)))) h
      · have h := h.2 c88
        refine qr_aload_n 91 92 rfl (x := 178) rfl dX12_reckons_91 ?_
        refine qr_getF 92 95 rfl ck12 17 (by decide) (b := 185) (by decide +kernel) rfl (by decide +kernel) (by decide +kernel) wm_1343 rfl dX12_reckons_92 ?_
        refine qr_iload_n 95 96 rfl (x := x2) rfl dX12_reckons_95 ?_
        refine qr_iconst 96 97 rfl (q_l32 _ rfl) dX12_reckons_96 ?_
        refine qr_isub 97 98 rfl dX12_reckons_97 ?_
        refine qr_iconst 98 99 rfl (q_l32 _ rfl) dX12_reckons_98 ?_
        refine qr_aload_n 99 100 rfl (x := 178) rfl dX12_reckons_99 ?_
        refine qr_getF 100 103 rfl ck12 17 (by decide) (b := 185) (by decide +kernel) rfl (by decide +kernel) (by decide +kernel) wm_1343 rfl dX12_reckons_100 ?_
        refine qr_iload_n 103 104 rfl (x := x2) rfl dX12_reckons_103 ?_
        refine qr_iconst 104 105 rfl (q_l32 _ rfl) dX12_reckons_104 ?_
        refine qr_isub 105 106 rfl dX12_reckons_105 ?_
        have hb18 := h.1
        have h := h.2
        refine qi_ld 106 107 rfl (N := 900) (by decide +kernel) (by decide +kernel) hb18.1 hb18.2 dX12_reckons_106 ?_
        refine qr_isub 107 108 rfl dX12_reckons_107 ?_
        have hb19 := h.1
        have h := h.2
        refine qi_st 108 109 rfl (N := 900) (by decide +kernel) (by decide +kernel) hb19.1 hb19.2 dX12_reckons_108 (fun M20 e_M20 => ?_)
        have h := h M20 e_M20
        refine qr_goto 109 193 (by decide) dX12_reckons_109 ?_
        refine qr_iinc 193 196 rfl (by decide) (x := x3) rfl rfl rfl dX12_reckons_193 ?_
        refine qr_goto 196 4 (by decide) dX12_reckons_196 ?_
        exact qr_cut 4 (ls' := [some (qR 178), some (qI x1), some (qI x2), some (qI (q_add x3 1)), none]) (And.intro rfl (And.intro rfl (And.intro rfl (And.intro rfl trivial)))) h
    · have h := h.2 c44
      refine qr_aload_n 47 48 rfl (x := 178) rfl dX12_reckons_47 ?_
      refine qr_getF 48 51 rfl ck12 17 (by decide) (b := 185) (by decide +kernel) rfl (by decide +kernel) (by decide +kernel) wm_1343 rfl dX12_reckons_48 ?_
      refine qr_iload_n 51 52 rfl (x := x2) rfl dX12_reckons_51 ?_
      refine qr_iload 52 54 rfl (x := x4_4) rfl dX12_reckons_52 ?_
      refine qr_sipush 54 57 rfl (q_l32 _ rfl) (by decide) dX12_reckons_54 ?_
      refine qr_icmp_ge 57 60 65 rfl (by decide) dX12_reckons_57 (fun c57 => ?_) (fun c57 => ?_)
      · have h := h.1 c57
        refine qr_aload_n 65 66 rfl (x := 178) rfl dX12_reckons_65 ?_
        refine qr_getF 66 69 rfl ck12 18 (by decide) (b := 186) (by decide +kernel) rfl (by decide +kernel) (by decide +kernel) wm_1344 rfl dX12_reckons_66 ?_
        refine qr_iload 69 71 rfl (x := x4_4) rfl dX12_reckons_69 ?_
        refine qr_sipush 71 74 rfl (q_l32 _ rfl) (by decide) dX12_reckons_71 ?_
        refine qr_isub 74 75 rfl dX12_reckons_74 ?_
        have hb21 := h.1
        have h := h.2
        refine qi_ld 75 76 rfl (N := 5) (by decide +kernel) (by decide +kernel) hb21.1 hb21.2 dX12_reckons_75 ?_
        have hb22 := h.1
        have h := h.2
        refine qi_st 76 77 rfl (N := 900) (by decide +kernel) (by decide +kernel) hb22.1 hb22.2 dX12_reckons_76 (fun M23 e_M23 => ?_)
        have h := h M23 e_M23
        refine qr_iinc 77 80 rfl (by decide) (x := x2) rfl rfl rfl dX12_reckons_77 ?_
        refine qr_goto 80 193 (by decide) dX12_reckons_80 ?_
        refine qr_iinc 193 196 rfl (by decide) (x := x3) rfl rfl rfl dX12_reckons_193 ?_
        refine qr_goto 196 4 (by decide) dX12_reckons_196 ?_
        exact qr_cut 4 (ls' := [some (qR 178), some (qI x1), some (qI (q_add x2 1)), some (qI (q_add x3 1)), none]) (And.intro rfl (And.intro rfl (And.intro rfl (And.intro rfl trivial)))) h
      · have h := h.2 c57
        refine qr_iload 60 62 rfl (x := x4_4) rfl dX12_reckons_60 ?_
        refine qr_goto 62 76 (by decide) dX12_reckons_62 ?_
        have hb24 := h.1
        have h := h.2
        refine qi_st 76 77 rfl (N := 900) (by decide +kernel) (by decide +kernel) hb24.1 hb24.2 dX12_reckons_76 (fun M25 e_M25 => ?_)
        have h := h M25 e_M25
        refine qr_iinc 77 80 rfl (by decide) (x := x2) rfl rfl rfl dX12_reckons_77 ?_
        refine qr_goto 80 193 (by decide) dX12_reckons_80 ?_
        refine qr_iinc 193 196 rfl (by decide) (x := x3) rfl rfl rfl dX12_reckons_193 ?_
        refine qr_goto 196 4 (by decide) dX12_reckons_196 ?_
        exact qr_cut 4 (ls' := [some (qR 178), some (qI x1), some (qI (q_add x2 1)), some (qI (q_add x3 1)), none]) (And.intro rfl (And.intro rfl (And.intro rfl (And.intro rfl trivial)))) h
