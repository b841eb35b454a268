-- blocks of methods (by program)
theorem dX12_laysLonger_0 : decode cX12_laysLonger 0 = .ok (.iconst 0, 1) := by decide +kernel
theorem dX12_laysLonger_1 : decode cX12_laysLonger 1 = .ok (.istore_n 1, 1) := by decide +kernel
theorem dX12_laysLonger_2 : decode cX12_laysLonger 2 = .ok (.iconst 0, 1) := by decide +kernel
theorem dX12_laysLonger_3 : decode cX12_laysLonger 3 = .ok (.istore_n 2, 1) := by decide +kernel
theorem dX12_laysLonger_4 : decode cX12_laysLonger 4 = .ok (.iload_n 2, 1) := by decide +kernel
theorem dX12_laysLonger_5 : decode cX12_laysLonger 5 = .ok (.aload_n 0, 1) := by decide +kernel
theorem dX12_laysLonger_6 : decode cX12_laysLonger 6 = .ok (.getfield 450, 3) := by decide +kernel
theorem dX12_laysLonger_9 : decode cX12_laysLonger 9 = .ok (.if_icmp .ge 87, 3) := by decide +kernel
theorem dX12_laysLonger_12 : decode cX12_laysLonger 12 = .ok (.iconst 0, 1) := by decide +kernel
theorem dX12_laysLonger_13 : decode cX12_laysLonger 13 = .ok (.istore_n 3, 1) := by decide +kernel
theorem dX12_laysLonger_14 : decode cX12_laysLonger 14 = .ok (.iload_n 3, 1) := by decide +kernel
theorem dX12_laysLonger_15 : decode cX12_laysLonger 15 = .ok (.aload_n 0, 1) := by decide +kernel
theorem dX12_laysLonger_16 : decode cX12_laysLonger 16 = .ok (.getfield 13, 3) := by decide +kernel
theorem dX12_laysLonger_19 : decode cX12_laysLonger 19 = .ok (.bipush 51, 2) := by decide +kernel
theorem dX12_laysLonger_21 : decode cX12_laysLonger 21 = .ok (.iaload, 1) := by decide +kernel
theorem dX12_laysLonger_22 : decode cX12_laysLonger 22 = .ok (.if_icmp .ge 68, 3) := by decide +kernel
theorem dX12_laysLonger_25 : decode cX12_laysLonger 25 = .ok (.iload_n 2, 1) := by decide +kernel
theorem dX12_laysLonger_26 : decode cX12_laysLonger 26 = .ok (.iconst 1, 1) := by decide +kernel
theorem dX12_laysLonger_27 : decode cX12_laysLonger 27 = .ok (.iload_n 3, 1) := by decide +kernel
theorem dX12_laysLonger_28 : decode cX12_laysLonger 28 = .ok (.ishl, 1) := by decide +kernel
theorem dX12_laysLonger_29 : decode cX12_laysLonger 29 = .ok (.ixor, 1) := by decide +kernel
theorem dX12_laysLonger_30 : decode cX12_laysLonger 30 = .ok (.istore 4, 2) := by decide +kernel
theorem dX12_laysLonger_32 : decode cX12_laysLonger 32 = .ok (.aload_n 0, 1) := by decide +kernel
theorem dX12_laysLonger_33 : decode cX12_laysLonger 33 = .ok (.getfield 79, 3) := by decide +kernel
theorem dX12_laysLonger_36 : decode cX12_laysLonger 36 = .ok (.iload 4, 2) := by decide +kernel
theorem dX12_laysLonger_38 : decode cX12_laysLonger 38 = .ok (.iaload, 1) := by decide +kernel
theorem dX12_laysLonger_39 : decode cX12_laysLonger 39 = .ok (.aload_n 0, 1) := by decide +kernel
theorem dX12_laysLonger_40 : decode cX12_laysLonger 40 = .ok (.getfield 79, 3) := by decide +kernel
theorem dX12_laysLonger_43 : decode cX12_laysLonger 43 = .ok (.iload_n 2, 1) := by decide +kernel
theorem dX12_laysLonger_44 : decode cX12_laysLonger 44 = .ok (.iaload, 1) := by decide +kernel
theorem dX12_laysLonger_45 : decode cX12_laysLonger 45 = .ok (.if_icmp .le 39, 3) := by decide +kernel
theorem dX12_laysLonger_48 : decode cX12_laysLonger 48 = .ok (.aload_n 0, 1) := by decide +kernel
theorem dX12_laysLonger_49 : decode cX12_laysLonger 49 = .ok (.getfield 82, 3) := by decide +kernel
theorem dX12_laysLonger_52 : decode cX12_laysLonger 52 = .ok (.iload 4, 2) := by decide +kernel
theorem dX12_laysLonger_54 : decode cX12_laysLonger 54 = .ok (.iaload, 1) := by decide +kernel
theorem dX12_laysLonger_55 : decode cX12_laysLonger 55 = .ok (.aload_n 0, 1) := by decide +kernel
theorem dX12_laysLonger_56 : decode cX12_laysLonger 56 = .ok (.getfield 82, 3) := by decide +kernel
theorem dX12_laysLonger_59 : decode cX12_laysLonger 59 = .ok (.iload_n 2, 1) := by decide +kernel
theorem dX12_laysLonger_60 : decode cX12_laysLonger 60 = .ok (.iaload, 1) := by decide +kernel
theorem dX12_laysLonger_61 : decode cX12_laysLonger 61 = .ok (.if_icmp .ge 6, 3) := by decide +kernel
theorem dX12_laysLonger_64 : decode cX12_laysLonger 64 = .ok (.goto 20, 3) := by decide +kernel
theorem dX12_laysLonger_67 : decode cX12_laysLonger 67 = .ok (.aload_n 0, 1) := by decide +kernel
theorem dX12_laysLonger_68 : decode cX12_laysLonger 68 = .ok (.getfield 82, 3) := by decide +kernel
theorem dX12_laysLonger_71 : decode cX12_laysLonger 71 = .ok (.iload_n 2, 1) := by decide +kernel
theorem dX12_laysLonger_72 : decode cX12_laysLonger 72 = .ok (.aload_n 0, 1) := by decide +kernel
theorem dX12_laysLonger_73 : decode cX12_laysLonger 73 = .ok (.getfield 82, 3) := by decide +kernel
theorem dX12_laysLonger_76 : decode cX12_laysLonger 76 = .ok (.iload 4, 2) := by decide +kernel
theorem dX12_laysLonger_78 : decode cX12_laysLonger 78 = .ok (.iaload, 1) := by decide +kernel
theorem dX12_laysLonger_79 : decode cX12_laysLonger 79 = .ok (.iconst 1, 1) := by decide +kernel
theorem dX12_laysLonger_80 : decode cX12_laysLonger 80 = .ok (.iadd, 1) := by decide +kernel
theorem dX12_laysLonger_81 : decode cX12_laysLonger 81 = .ok (.iastore, 1) := by decide +kernel
theorem dX12_laysLonger_82 : decode cX12_laysLonger 82 = .ok (.iconst 1, 1) := by decide +kernel
theorem dX12_laysLonger_83 : decode cX12_laysLonger 83 = .ok (.istore_n 1, 1) := by decide +kernel
theorem dX12_laysLonger_84 : decode cX12_laysLonger 84 = .ok (.iinc 3 1, 3) := by decide +kernel
theorem dX12_laysLonger_87 : decode cX12_laysLonger 87 = .ok (.goto (-73), 3) := by decide +kernel
theorem dX12_laysLonger_90 : decode cX12_laysLonger 90 = .ok (.iinc 2 1, 3) := by decide +kernel
theorem dX12_laysLonger_93 : decode cX12_laysLonger 93 = .ok (.goto (-89), 3) := by decide +kernel
theorem dX12_laysLonger_96 : decode cX12_laysLonger 96 = .ok (.iload_n 1, 1) := by decide +kernel
theorem dX12_laysLonger_97 : decode cX12_laysLonger 97 = .ok (.ireturn, 1) := by decide +kernel
theorem bX12_laysLonger_0 {d : Nat} {P : Int → q_Mem → Prop} {M : q_Mem} (h : q_v mX12_laysLonger d (qPI P) M 4 [some (qR 178), some (qI 0), some (qI 0), none, none] []) : q_v mX12_laysLonger d (qPI P) M 0 [some (qR 178), none, none, none, none] [] := by
  refine qr_iconst 0 1 rfl (q_l32 _ rfl) dX12_laysLonger_0 ?_
  refine qr_istore_n 1 2 rfl (by decide) rfl rfl dX12_laysLonger_1 ?_
  refine qr_iconst 2 3 rfl (q_l32 _ rfl) dX12_laysLonger_2 ?_
  refine qr_istore_n 3 4 rfl (by decide) rfl rfl dX12_laysLonger_3 ?_
  exact h
theorem bX12_laysLonger_4 {d : Nat} {P : Int → q_Mem → Prop} {M : q_Mem} (x1 x2 : Int) (h : (((M 178 39) ≤ x2) → (x1 = 0 ∨ x1 = 1) ∧ P x1 M) ∧ ((¬ ((M 178 39) ≤ x2)) → q_v mX12_laysLonger d (qPI P) M 14 [some (qR 178), some (qI x1), some (qI x2), some (qI 0), none] [])) : q_v mX12_laysLonger d (qPI P) M 4 [some (qR 178), some (qI x1), some (qI x2), none, none] [] := by
  refine qr_iload_n 4 5 rfl (x := x2) rfl dX12_laysLonger_4 ?_
  refine qr_aload_n 5 6 rfl (x := 178) rfl dX12_laysLonger_5 ?_
  refine qg_i 6 9 rfl ck12 39 (kk := 39) (by decide) (by decide +kernel) (by decide +kernel) rfl wm_1365 rfl dX12_laysLonger_6 ?_
  refine qr_icmp_ge 9 12 96 rfl (by decide) dX12_laysLonger_9 (fun c9 => ?_) (fun c9 => ?_)
  · have h := h.1 c9
    refine qr_iload_n 96 97 rfl (x := x1) rfl dX12_laysLonger_96 ?_
    exact qe_z 97 rfl h.1 dX12_laysLonger_97 h.2
  · have h := h.2 c9
    refine qr_iconst 12 13 rfl (q_l32 _ rfl) dX12_laysLonger_12 ?_
    refine qr_istore_n 13 14 rfl (by decide) rfl rfl dX12_laysLonger_13 ?_
    exact h
theorem bX12_laysLonger_14 {d : Nat} {P : Int → q_Mem → Prop} {M : q_Mem} (x1 x2 x3 : Int) (h : ((((M 179 51) ≤ x3) → q_v mX12_laysLonger d (qPI P) M 4 [some (qR 178), some (qI x1), some (qI (q_add x2 1)), none, none] []) ∧ ((¬ ((M 179 51) ≤ x3)) → ∀ x4_1 : Int, x4_1 = (q_xor x2 (q_shl 1 x3)) → (0 ≤ x4_1 ∧ x4_1 < (1024 : Int)) ∧ ((0 ≤ x2 ∧ x2 < (1024 : Int)) ∧ ((((M 199 x4_1) ≤ (M 199 x2)) → q_v mX12_laysLonger d (qPI P) M 14 [some (qR 178), some (qI x1), some (qI x2), some (qI (q_add x3 1)), none] []) ∧ ((¬ ((M 199 x4_1) ≤ (M 199 x2))) → (0 ≤ x4_1 ∧ x4_1 < (1024 : Int)) ∧ ((0 ≤ x2 ∧ x2 < (1024 : Int)) ∧ ((((M 200 x2) ≤ (M 200 x4_1)) → (0 ≤ x4_1 ∧ x4_1 < (1024 : Int)) ∧ ((0 ≤ x2 ∧ x2 < (1024 : Int)) ∧ (∀ M8 : q_Mem, M8 = q_up M 200 x2 (q_add (M 200 x4_1) 1) → q_v mX12_laysLonger d (qPI P) M8 14 [some (qR 178), some (qI 1), some (qI x2), some (qI (q_add x3 1)), none] []))) ∧ ((¬ ((M 200 x2) ≤ (M 200 x4_1))) → q_v mX12_laysLonger d (qPI P) M 14 [some (qR 178), some (qI x1), some (qI x2), some (qI (q_add x3 1)), none] []))))))))) : q_v mX12_laysLonger d (qPI P) M 14 [some (qR 178), some (qI x1), some (qI x2), some (qI x3), none] [] := by
  refine qr_iload_n 14 15 rfl (x := x3) rfl dX12_laysLonger_14 ?_
  refine qr_aload_n 15 16 rfl (x := 178) rfl dX12_laysLonger_15 ?_
  refine qr_getF 16 19 rfl ck12 1 (by decide) (b := 179) (by decide +kernel) rfl (by decide +kernel) (by decide +kernel) wm_1327 rfl dX12_laysLonger_16 ?_
  refine qr_bipush 19 21 rfl (q_l32 _ rfl) (by decide) dX12_laysLonger_19 ?_
  refine qi_ld 21 22 rfl (N := 4512) (by decide +kernel) (by decide +kernel) (by decide) (by decide) dX12_laysLonger_21 ?_
  refine qr_icmp_ge 22 25 90 rfl (by decide) dX12_laysLonger_22 (fun c22 => ?_) (fun c22 => ?_)
  · have h := h.1 c22
    refine qr_iinc 90 93 rfl (by decide) (x := x2) rfl rfl rfl dX12_laysLonger_90 ?_
    refine qr_goto 93 4 (by decide) dX12_laysLonger_93 ?_
    exact qr_cut 4 (ls' := [some (qR 178), some (qI x1), some (qI (q_add x2 1)), none, none]) (And.intro rfl (And.intro rfl (And.intro rfl trivial))) h
  · have h := h.2 c22
    refine qr_iload_n 25 26 rfl (x := x2) rfl dX12_laysLonger_25 ?_
    refine qr_iconst 26 27 rfl (q_l32 _ rfl) dX12_laysLonger_26 ?_
    refine qr_iload_n 27 28 rfl (x := x3) rfl dX12_laysLonger_27 ?_
    refine qr_ishl 28 29 rfl dX12_laysLonger_28 ?_
    refine qr_ixor 29 30 rfl dX12_laysLonger_29 ?_
    refine qn_i 30 (fun x4_1 e_x4_1 => ?_)
    have h := h x4_1 e_x4_1
    refine qr_istore 30 32 rfl (by decide) rfl rfl dX12_laysLonger_30 ?_
    refine qr_aload_n 32 33 rfl (x := 178) rfl dX12_laysLonger_32 ?_
    refine qr_getF 33 36 rfl ck12 36 (by decide) (b := 199) (by decide +kernel) rfl (by decide +kernel) (by decide +kernel) wm_1362 rfl dX12_laysLonger_33 ?_
    refine qr_iload 36 38 rfl (x := x4_1) rfl dX12_laysLonger_36 ?_
    have hb2 := h.1
    have h := h.2
    refine qi_ld 38 39 rfl (N := 1024) (by decide +kernel) (by decide +kernel) hb2.1 hb2.2 dX12_laysLonger_38 ?_
    refine qr_aload_n 39 40 rfl (x := 178) rfl dX12_laysLonger_39 ?_
    refine qr_getF 40 43 rfl ck12 36 (by decide) (b := 199) (by decide +kernel) rfl (by decide +kernel) (by decide +kernel) wm_1362 rfl dX12_laysLonger_40 ?_
    refine qr_iload_n 43 44 rfl (x := x2) rfl dX12_laysLonger_43 ?_
    have hb3 := h.1
    have h := h.2
    refine qi_ld 44 45 rfl (N := 1024) (by decide +kernel) (by decide +kernel) hb3.1 hb3.2 dX12_laysLonger_44 ?_
    refine qr_icmp_le 45 48 84 rfl (by decide) dX12_laysLonger_45 (fun c45 => ?_) (fun c45 => ?_)
    · have h := h.1 c45
      refine qr_iinc 84 87 rfl (by decide) (x := x3) rfl rfl rfl dX12_laysLonger_84 ?_
      refine qr_goto 87 14 (by decide) dX12_laysLonger_87 ?_
      exact qr_cut 14 (ls' := [some (qR 178), some (qI x1), some (qI x2), some (qI (q_add x3 1)), none]) (And.intro rfl (And.intro rfl (And.intro rfl (And.intro rfl trivial)))) h
    · have h := h.2 c45
      refine qr_aload_n 48 49 rfl (x := 178) rfl dX12_laysLonger_48 ?_
      refine qr_getF 49 52 rfl ck12 37 (by decide) (b := 200) (by decide +kernel) rfl (by decide +kernel) (by decide +kernel) wm_1363 rfl dX12_laysLonger_49 ?_
      refine qr_iload 52 54 rfl (x := x4_1) rfl dX12_laysLonger_52 ?_
      have hb4 := h.1
      have h := h.2
      refine qi_ld 54 55 rfl (N := 1024) (by decide +kernel) (by decide +kernel) hb4.1 hb4.2 dX12_laysLonger_54 ?_
      refine qr_aload_n 55 56 rfl (x := 178) rfl dX12_laysLonger_55 ?_
      refine qr_getF 56 59 rfl ck12 37 (by decide) (b := 200) (by decide +kernel) rfl (by decide +kernel) (by decide +kernel) wm_1363 rfl dX12_laysLonger_56 ?_
      refine qr_iload_n 59 60 rfl (x := x2) rfl dX12_laysLonger_59 ?_
      have hb5 := h.1
      have h := h.2
      refine qi_ld 60 61 rfl (N := 1024) (by decide +kernel) (by decide +kernel) hb5.1 hb5.2 dX12_laysLonger_60 ?_
      refine qr_icmp_ge 61 64 67 rfl (by decide) dX12_laysLonger_61 (fun c61 => ?_) (fun c61 => ?_)
      · have h := h.1 c61
        refine qr_aload_n 67 68 rfl (x := 178) rfl dX12_laysLonger_67 ?_
        refine qr_getF 68 71 rfl ck12 37 (by decide) (b := 200) (by decide +kernel) rfl (by decide +kernel) (by decide +kernel) wm_1363 rfl dX12_laysLonger_68 ?_
        refine qr_iload_n 71 72 rfl (x := x2) rfl dX12_laysLonger_71 ?_
        refine qr_aload_n 72 73 rfl (x := 178) rfl dX12_laysLonger_72 ?_
        refine qr_getF 73 76 rfl ck12 37 (by decide) (b := 200) (by decide +kernel) rfl (by decide +kernel) (by decide +kernel) wm_1363 rfl dX12_laysLonger_73 ?_
        refine qr_iload 76 78 rfl (x := x4_1) rfl dX12_laysLonger_76 ?_
        have hb6 := h.1
        have h := h.2
        refine qi_ld 78 79 rfl (N := 1024) (by decide +kernel) (by decide +kernel) hb6.1 hb6.2 dX12_laysLonger_78 ?_
        refine qr_iconst 79 80 rfl (q_l32 _ rfl) dX12_laysLonger_79 ?_
        refine qr_iadd 80 81 rfl dX12_laysLonger_80 ?_
        have hb7 := h.1
        have h := h.2
        refine qi_st 81 82 rfl (N := 1024) (by decide +kernel) (by decide +kernel) hb7.1 hb7.2 dX12_laysLonger_81 (fun M8 e_M8 => ?_)
        have h := h M8 e_M8
        refine qr_iconst 82 83 rfl (q_l32 _ rfl) dX12_laysLonger_82 ?_
        refine qr_istore_n 83 84 rfl (by decide) rfl rfl dX12_laysLonger_83 ?_
        refine qr_iinc 84 87 rfl (by decide) (x := x3) rfl rfl rfl dX12_laysLonger_84 ?_
        refine qr_goto 87 14 (by decide) dX12_laysLonger_87 ?_
        exact qr_cut 14 (ls' := [some (qR 178), some (qI 1), some (qI x2), some (qI (q_add x3 1)), none]) (And.intro rfl (And.intro rfl (And.intro rfl (And.intro rfl trivial)))) h
      · have h := h.2 c61
        refine qr_goto 64 84 (by decide) dX12_laysLonger_64 ?_
        refine qr_iinc 84 87 rfl (by decide) (x := x3) rfl rfl rfl dX12_laysLonger_84 ?_
        refine qr_goto 87 14 (by decide) dX12_laysLonger_87 ?_
        exact qr_cut 14 (ls' := [some (qR 178), some (qI x1), some (qI x2), some (qI (q_add x3 1)), none]) (And.intro rfl (And.intro rfl (And.intro rfl (And.intro rfl trivial)))) h
theorem dX12_longest_0 : decode cX12_longest 0 = .ok (.aload_n 0, 1) := by decide +kernel
theorem dX12_longest_1 : decode cX12_longest 1 = .ok (.iconst 0, 1) := by decide +kernel
theorem dX12_longest_2 : decode cX12_longest 2 = .ok (.putfield 1, 3) := by decide +kernel
theorem dX12_longest_5 : decode cX12_longest 5 = .ok (.aload_n 0, 1) := by decide +kernel
theorem dX12_longest_6 : decode cX12_longest 6 = .ok (.invokevirtual 459, 3) := by decide +kernel
theorem dX12_longest_9 : decode cX12_longest 9 = .ok (.iconst 0, 1) := by decide +kernel
theorem dX12_longest_10 : decode cX12_longest 10 = .ok (.istore_n 1, 1) := by decide +kernel
theorem dX12_longest_11 : decode cX12_longest 11 = .ok (.iload_n 1, 1) := by decide +kernel
theorem dX12_longest_12 : decode cX12_longest 12 = .ok (.aload_n 0, 1) := by decide +kernel
theorem dX12_longest_13 : decode cX12_longest 13 = .ok (.getfield 450, 3) := by decide +kernel
theorem dX12_longest_16 : decode cX12_longest 16 = .ok (.if_icmp .ge 16, 3) := by decide +kernel
theorem dX12_longest_19 : decode cX12_longest 19 = .ok (.aload_n 0, 1) := by decide +kernel
theorem dX12_longest_20 : decode cX12_longest 20 = .ok (.getfield 82, 3) := by decide +kernel
theorem dX12_longest_23 : decode cX12_longest 23 = .ok (.iload_n 1, 1) := by decide +kernel
theorem dX12_longest_24 : decode cX12_longest 24 = .ok (.iconst 0, 1) := by decide +kernel
theorem dX12_longest_25 : decode cX12_longest 25 = .ok (.iastore, 1) := by decide +kernel
theorem dX12_longest_26 : decode cX12_longest 26 = .ok (.iinc 1 1, 3) := by decide +kernel
theorem dX12_longest_29 : decode cX12_longest 29 = .ok (.goto (-18), 3) := by decide +kernel
theorem dX12_longest_32 : decode cX12_longest 32 = .ok (.iconst 1, 1) := by decide +kernel
theorem dX12_longest_33 : decode cX12_longest 33 = .ok (.istore_n 1, 1) := by decide +kernel
theorem dX12_longest_34 : decode cX12_longest 34 = .ok (.iload_n 1, 1) := by decide +kernel
theorem dX12_longest_35 : decode cX12_longest 35 = .ok (.ifCond .eq 11, 3) := by decide +kernel
theorem dX12_longest_38 : decode cX12_longest 38 = .ok (.aload_n 0, 1) := by decide +kernel
theorem dX12_longest_39 : decode cX12_longest 39 = .ok (.invokevirtual 465, 3) := by decide +kernel
theorem dX12_longest_42 : decode cX12_longest 42 = .ok (.istore_n 1, 1) := by decide +kernel
theorem dX12_longest_43 : decode cX12_longest 43 = .ok (.goto (-9), 3) := by decide +kernel
theorem dX12_longest_46 : decode cX12_longest 46 = .ok (.aload_n 0, 1) := by decide +kernel
theorem dX12_longest_47 : decode cX12_longest 47 = .ok (.getfield 82, 3) := by decide +kernel
theorem dX12_longest_50 : decode cX12_longest 50 = .ok (.aload_n 0, 1) := by decide +kernel
theorem dX12_longest_51 : decode cX12_longest 51 = .ok (.getfield 13, 3) := by decide +kernel
theorem dX12_longest_54 : decode cX12_longest 54 = .ok (.iconst 2, 1) := by decide +kernel
theorem dX12_longest_55 : decode cX12_longest 55 = .ok (.iaload, 1) := by decide +kernel
theorem dX12_longest_56 : decode cX12_longest 56 = .ok (.iaload, 1) := by decide +kernel
theorem dX12_longest_57 : decode cX12_longest 57 = .ok (.ireturn, 1) := by decide +kernel
theorem bX12_longest_0 {d : Nat} {P : Int → q_Mem → Prop} {M : q_Mem} (h : (∀ M1 : q_Mem, M1 = q_up M 178 0 0 → q_kU yX12_laysWorths mX12_laysWorths d [qR 178] M1 (fun M2 => q_v mX12_longest d (qPI P) M2 11 [some (qR 178), some (qI 0)] []))) : q_v mX12_longest d (qPI P) M 0 [some (qR 178), none] [] := by
  refine qr_aload_n 0 1 rfl (x := 178) rfl dX12_longest_0 ?_
  refine qr_iconst 1 2 rfl (q_l32 _ rfl) dX12_longest_1 ?_
  refine qp_i 2 5 rfl ck12 0 (kk := 0) (by decide) (by decide +kernel) (by decide) rfl rfl wm_1326 rfl dX12_longest_2 (fun M1 e_M1 => ?_)
  have h := h M1 e_M1
  refine qr_aload_n 5 6 rfl (x := 178) rfl dX12_longest_5 ?_
  refine qw_U 6 9 rfl (av := []) ca_X12_laysWorths wm_1937 wp_144 wm_1935 ck12 (by decide +kernel) rfl rfl (Nat.le_of_ble_eq_true rfl) dX12_longest_6 h (fun M2 h => ?_)
  refine qr_iconst 9 10 rfl (q_l32 _ rfl) dX12_longest_9 ?_
  refine qr_istore_n 10 11 rfl (by decide) rfl rfl dX12_longest_10 ?_
  exact h
theorem bX12_longest_11 {d : Nat} {P : Int → q_Mem → Prop} {M : q_Mem} (x1 : Int) (h : (((M 178 39) ≤ x1) → q_v mX12_longest d (qPI P) M 34 [some (qR 178), some (qI 1)] []) ∧ ((¬ ((M 178 39) ≤ x1)) → (0 ≤ x1 ∧ x1 < (1024 : Int)) ∧ (∀ M2 : q_Mem, M2 = q_up M 200 x1 0 → q_v mX12_longest d (qPI P) M2 11 [some (qR 178), some (qI (q_add x1 1))] []))) : q_v mX12_longest d (qPI P) M 11 [some (qR 178), some (qI x1)] [] := by
  refine qr_iload_n 11 12 rfl (x := x1) rfl dX12_longest_11 ?_
  refine qr_aload_n 12 13 rfl (x := 178) rfl dX12_longest_12 ?_
  refine qg_i 13 16 rfl ck12 39 (kk := 39) (by decide) (by decide +kernel) (by decide +kernel) rfl wm_1365 rfl dX12_longest_13 ?_
  refine qr_icmp_ge 16 19 32 rfl (by decide) dX12_longest_16 (fun c16 => ?_) (fun c16 => ?_)
  · have h := h.1 c16
    refine qr_iconst 32 33 rfl (q_l32 _ rfl) dX12_longest_32 ?_
    refine qr_istore_n 33 34 rfl (by decide) rfl rfl dX12_longest_33 ?_
    exact h
  · have h := h.2 c16
    refine qr_aload_n 19 20 rfl (x := 178) rfl dX12_longest_19 ?_
    refine qr_getF 20 23 rfl ck12 37 (by decide) (b := 200) (by decide +kernel) rfl (by decide +kernel) (by decide +kernel) wm_1363 rfl dX12_longest_20 ?_
    refine qr_iload_n 23 24 rfl (x := x1) rfl dX12_longest_23 ?_
    refine qr_iconst 24 25 rfl (q_l32 _ rfl) dX12_longest_24 ?_
    have hb1 := h.1
    have h := h.2
    refine qi_st 25 26 rfl (N := 1024) (by decide +kernel) (by decide +kernel) hb1.1 hb1.2 dX12_longest_25 (fun M2 e_M2 => ?_)
    have h := h M2 e_M2
    refine qr_iinc 26 29 rfl (by decide) (x := x1) rfl rfl rfl dX12_longest_26 ?_
    refine qr_goto 29 11 (by decide) dX12_longest_29 ?_
    exact h
theorem bX12_longest_34 {d : Nat} {P : Int → q_Mem → Prop} {M : q_Mem} (x1 : Int) (h : ((x1 = 0) → ((0 ≤ (M 179 2) ∧ (M 179 2) < (1024 : Int)) ∧ (P (M 200 (M 179 2)) M))) ∧ ((¬ (x1 = 0)) → q_kI yX12_laysLonger mX12_laysLonger d [qR 178] M (fun v3 M2 => q_v mX12_longest d (qPI P) M2 34 [some (qR 178), some (qI v3)] []))) : q_v mX12_longest d (qPI P) M 34 [some (qR 178), some (qI x1)] [] := by
  refine qr_iload_n 34 35 rfl (x := x1) rfl dX12_longest_34 ?_
  refine qr_if_eq 35 38 46 rfl (by decide) dX12_longest_35 (fun c35 => ?_) (fun c35 => ?_)
  · have h := h.1 c35
    refine qr_aload_n 46 47 rfl (x := 178) rfl dX12_longest_46 ?_
    refine qr_getF 47 50 rfl ck12 37 (by decide) (b := 200) (by decide +kernel) rfl (by decide +kernel) (by decide +kernel) wm_1363 rfl dX12_longest_47 ?_
    refine qr_aload_n 50 51 rfl (x := 178) rfl dX12_longest_50 ?_
    refine qr_getF 51 54 rfl ck12 1 (by decide) (b := 179) (by decide +kernel) rfl (by decide +kernel) (by decide +kernel) wm_1327 rfl dX12_longest_51 ?_
    refine qr_iconst 54 55 rfl (q_l32 _ rfl) dX12_longest_54 ?_
    refine qi_ld 55 56 rfl (N := 4512) (by decide +kernel) (by decide +kernel) (by decide) (by decide) dX12_longest_55 ?_
    have hb1 := h.1
    have h := h.2
    refine qi_ld 56 57 rfl (N := 1024) (by decide +kernel) (by decide +kernel) hb1.1 hb1.2 dX12_longest_56 ?_
    exact qe_i 57 rfl dX12_longest_57 h
  · have h := h.2 c35
    refine qr_aload_n 38 39 rfl (x := 178) rfl dX12_longest_38 ?_
    refine qw_I 39 42 rfl (av := []) ca_X12_laysLonger wm_1965 wp_146 wm_1963 ck12 (by decide +kernel) rfl rfl (Nat.le_of_ble_eq_true rfl) dX12_longest_39 h (fun v3 M2 h => ?_)
    refine qr_istore_n 42 43 rfl (by decide) rfl rfl dX12_longest_42 ?_
    refine qr_goto 43 34 (by decide) dX12_longest_43 ?_
    exact h
theorem dX12_noWeighed_0 : decode cX12_noWeighed 0 = .ok (.aload_n 0, 1) := by decide +kernel
theorem dX12_noWeighed_1 : decode cX12_noWeighed 1 = .ok (.iload_n 1, 1) := by decide +kernel
theorem dX12_noWeighed_2 : decode cX12_noWeighed 2 = .ok (.invokevirtual 367, 3) := by decide +kernel
theorem dX12_noWeighed_5 : decode cX12_noWeighed 5 = .ok (.istore_n 2, 1) := by decide +kernel
theorem dX12_noWeighed_6 : decode cX12_noWeighed 6 = .ok (.iload_n 2, 1) := by decide +kernel
theorem dX12_noWeighed_7 : decode cX12_noWeighed 7 = .ok (.ifCond .eq 5, 3) := by decide +kernel
theorem dX12_noWeighed_10 : decode cX12_noWeighed 10 = .ok (.iload_n 2, 1) := by decide +kernel
theorem dX12_noWeighed_11 : decode cX12_noWeighed 11 = .ok (.ireturn, 1) := by decide +kernel
theorem dX12_noWeighed_12 : decode cX12_noWeighed 12 = .ok (.aload_n 0, 1) := by decide +kernel
theorem dX12_noWeighed_13 : decode cX12_noWeighed 13 = .ok (.getfield 101, 3) := by decide +kernel
theorem dX12_noWeighed_16 : decode cX12_noWeighed 16 = .ok (.iload_n 1, 1) := by decide +kernel
theorem dX12_noWeighed_17 : decode cX12_noWeighed 17 = .ok (.iaload, 1) := by decide +kernel
theorem dX12_noWeighed_18 : decode cX12_noWeighed 18 = .ok (.i2l, 1) := by decide +kernel
theorem dX12_noWeighed_19 : decode cX12_noWeighed 19 = .ok (.lconst 1, 1) := by decide +kernel
theorem dX12_noWeighed_20 : decode cX12_noWeighed 20 = .ok (.ldc2_w 469, 3) := by decide +kernel
theorem dX12_noWeighed_23 : decode cX12_noWeighed 23 = .ok (.invokestatic 176, 3) := by decide +kernel
theorem dX12_noWeighed_26 : decode cX12_noWeighed 26 = .ok (.ifCond .ne 6, 3) := by decide +kernel
theorem dX12_noWeighed_29 : decode cX12_noWeighed 29 = .ok (.bipush (-4), 2) := by decide +kernel
theorem dX12_noWeighed_31 : decode cX12_noWeighed 31 = .ok (.ireturn, 1) := by decide +kernel
theorem dX12_noWeighed_32 : decode cX12_noWeighed 32 = .ok (.iconst 0, 1) := by decide +kernel
theorem dX12_noWeighed_33 : decode cX12_noWeighed 33 = .ok (.istore_n 3, 1) := by decide +kernel
theorem dX12_noWeighed_34 : decode cX12_noWeighed 34 = .ok (.iload_n 3, 1) := by decide +kernel
theorem dX12_noWeighed_35 : decode cX12_noWeighed 35 = .ok (.aload_n 0, 1) := by decide +kernel
theorem dX12_noWeighed_36 : decode cX12_noWeighed 36 = .ok (.getfield 101, 3) := by decide +kernel
theorem dX12_noWeighed_39 : decode cX12_noWeighed 39 = .ok (.iload_n 1, 1) := by decide +kernel
theorem dX12_noWeighed_40 : decode cX12_noWeighed 40 = .ok (.iaload, 1) := by decide +kernel
theorem dX12_noWeighed_41 : decode cX12_noWeighed 41 = .ok (.if_icmp .ge 61, 3) := by decide +kernel
theorem dX12_noWeighed_44 : decode cX12_noWeighed 44 = .ok (.aload_n 0, 1) := by decide +kernel
theorem dX12_noWeighed_45 : decode cX12_noWeighed 45 = .ok (.getfield 104, 3) := by decide +kernel
theorem dX12_noWeighed_48 : decode cX12_noWeighed 48 = .ok (.bipush 40, 2) := by decide +kernel
theorem dX12_noWeighed_50 : decode cX12_noWeighed 50 = .ok (.iload_n 1, 1) := by decide +kernel
theorem dX12_noWeighed_51 : decode cX12_noWeighed 51 = .ok (.imul, 1) := by decide +kernel
theorem dX12_noWeighed_52 : decode cX12_noWeighed 52 = .ok (.iload_n 3, 1) := by decide +kernel
theorem dX12_noWeighed_53 : decode cX12_noWeighed 53 = .ok (.iadd, 1) := by decide +kernel
theorem dX12_noWeighed_54 : decode cX12_noWeighed 54 = .ok (.laload, 1) := by decide +kernel
theorem dX12_noWeighed_55 : decode cX12_noWeighed 55 = .ok (.lstore 4, 2) := by decide +kernel
theorem dX12_noWeighed_57 : decode cX12_noWeighed 57 = .ok (.lload 4, 2) := by decide +kernel
theorem dX12_noWeighed_59 : decode cX12_noWeighed 59 = .ok (.lconst 0, 1) := by decide +kernel
theorem dX12_noWeighed_60 : decode cX12_noWeighed 60 = .ok (.lcmp, 1) := by decide +kernel
theorem dX12_noWeighed_61 : decode cX12_noWeighed 61 = .ok (.ifCond .lt 32, 3) := by decide +kernel
theorem dX12_noWeighed_64 : decode cX12_noWeighed 64 = .ok (.aload_n 0, 1) := by decide +kernel
theorem dX12_noWeighed_65 : decode cX12_noWeighed 65 = .ok (.lload 4, 2) := by decide +kernel
theorem dX12_noWeighed_67 : decode cX12_noWeighed 67 = .ok (.ldc2_w 355, 3) := by decide +kernel
theorem dX12_noWeighed_70 : decode cX12_noWeighed 70 = .ok (.ldiv, 1) := by decide +kernel
theorem dX12_noWeighed_71 : decode cX12_noWeighed 71 = .ok (.invokevirtual 296, 3) := by decide +kernel
theorem dX12_noWeighed_74 : decode cX12_noWeighed 74 = .ok (.ifCond .eq 19, 3) := by decide +kernel
theorem dX12_noWeighed_77 : decode cX12_noWeighed 77 = .ok (.lload 4, 2) := by decide +kernel
theorem dX12_noWeighed_79 : decode cX12_noWeighed 79 = .ok (.ldc2_w 355, 3) := by decide +kernel
theorem dX12_noWeighed_82 : decode cX12_noWeighed 82 = .ok (.lrem, 1) := by decide +kernel
theorem dX12_noWeighed_83 : decode cX12_noWeighed 83 = .ok (.lconst 1, 1) := by decide +kernel
theorem dX12_noWeighed_84 : decode cX12_noWeighed 84 = .ok (.ldc2_w 359, 3) := by decide +kernel
theorem dX12_noWeighed_87 : decode cX12_noWeighed 87 = .ok (.invokestatic 176, 3) := by decide +kernel
theorem dX12_noWeighed_90 : decode cX12_noWeighed 90 = .ok (.ifCond .ne 6, 3) := by decide +kernel
theorem dX12_noWeighed_93 : decode cX12_noWeighed 93 = .ok (.bipush (-3), 2) := by decide +kernel
theorem dX12_noWeighed_95 : decode cX12_noWeighed 95 = .ok (.ireturn, 1) := by decide +kernel
theorem dX12_noWeighed_96 : decode cX12_noWeighed 96 = .ok (.iinc 3 1, 3) := by decide +kernel
theorem dX12_noWeighed_99 : decode cX12_noWeighed 99 = .ok (.goto (-65), 3) := by decide +kernel
theorem dX12_noWeighed_102 : decode cX12_noWeighed 102 = .ok (.iconst 0, 1) := by decide +kernel
theorem dX12_noWeighed_103 : decode cX12_noWeighed 103 = .ok (.ireturn, 1) := by decide +kernel
theorem bX12_noWeighed_0 {d : Nat} {P : Int → q_Mem → Prop} {M : q_Mem} (x1 : Int) (h : q_kI yX12_noTray mX12_noTray d [qR 178, qI x1] M (fun v2 M1 => ((v2 = 0) → (0 ≤ x1 ∧ x1 < (4 : Int)) ∧ (q_kI yX12_within mX12_within d [qL (M1 206 x1), qL 1, qL 8] M1 (fun v5 M4 => ((¬ v5 = 0) → q_v mX12_noWeighed d (qPI P) M4 34 [some (qR 178), some (qI x1), none, some (qI 0), none, none] []) ∧ ((v5 = 0) → P (-4) M4)))) ∧ ((¬ (v2 = 0)) → P v2 M1))) : q_v mX12_noWeighed d (qPI P) M 0 [some (qR 178), some (qI x1), none, none, none, none] [] := by
  refine qr_aload_n 0 1 rfl (x := 178) rfl dX12_noWeighed_0 ?_
  refine qr_iload_n 1 2 rfl (x := x1) rfl dX12_noWeighed_1 ?_
  refine qw_I 2 5 rfl (av := [qI x1]) ca_X12_noTray wm_1803 wp_131 wm_1801 ck12 (by decide +kernel) rfl rfl (Nat.le_of_ble_eq_true rfl) dX12_noWeighed_2 h (fun v2 M1 h => ?_)
  refine qr_istore_n 5 6 rfl (by decide) rfl rfl dX12_noWeighed_5 ?_
  refine qr_iload_n 6 7 rfl (x := v2) rfl dX12_noWeighed_6 ?_
  refine qr_if_eq 7 10 12 rfl (by decide) dX12_noWeighed_7 (fun c7 => ?_) (fun c7 => ?_)
  · have h := h.1 c7
    refine qr_aload_n 12 13 rfl (x := 178) rfl dX12_noWeighed_12 ?_
    refine qr_getF 13 16 rfl ck12 46 (by decide) (b := 206) (by decide +kernel) rfl (by decide +kernel) (by decide +kernel) wm_1372 rfl dX12_noWeighed_13 ?_
    refine qr_iload_n 16 17 rfl (x := x1) rfl dX12_noWeighed_16 ?_
    have hb3 := h.1
    have h := h.2
    refine qi_ld 17 18 rfl (N := 4) (by decide +kernel) (by decide +kernel) hb3.1 hb3.2 dX12_noWeighed_17 ?_
    refine qr_i2l 18 19 rfl dX12_noWeighed_18 ?_
    refine qr_lconst 19 20 rfl (w := 1) (q_l64 _ rfl) (by decide) dX12_noWeighed_19 ?_
    refine qr_ldc2 20 23 rfl (v := 8) (q_l64 _ rfl) wm_1975 dX12_noWeighed_20 ?_
    refine qs_I 23 26 rfl (av := [qL (M1 206 x1), qL 1, qL 8]) ca_X12_within wm_1481 wm_1480 rfl rfl (Nat.le_of_ble_eq_true rfl) dX12_noWeighed_23 h (fun v5 M4 h => ?_)
    refine qr_if_ne 26 29 32 rfl (by decide) dX12_noWeighed_26 (fun c26 => ?_) (fun c26 => ?_)
    · have h := h.1 c26
      refine qr_iconst 32 33 rfl (q_l32 _ rfl) dX12_noWeighed_32 ?_
      refine qr_istore_n 33 34 rfl (by decide) rfl rfl dX12_noWeighed_33 ?_
      exact qr_cut 34 (ls' := [some (qR 178), some (qI x1), none, some (qI 0), none, none]) (And.intro rfl (And.intro rfl (And.intro rfl trivial))) h
    · have h := h.2 c26
      refine qr_bipush 29 31 rfl (q_l32 _ rfl) (by decide) dX12_noWeighed_29 ?_
      exact qe_i 31 rfl dX12_noWeighed_31 h
  · have h := h.2 c7
    refine qr_iload_n 10 11 rfl (x := v2) rfl dX12_noWeighed_10 ?_
    exact qe_i 11 rfl dX12_noWeighed_11 h
theorem bX12_noWeighed_34 {d : Nat} {P : Int → q_Mem → Prop} {M : q_Mem} (x1 x3 : Int) (h : (0 ≤ x1 ∧ x1 < (4 : Int)) ∧ ((((M 206 x1) ≤ x3) → P 0 M) ∧ ((¬ ((M 206 x1) ≤ x3)) → (0 ≤ (q_add (q_mul 40 x1) x3) ∧ (q_add (q_mul 40 x1) x3) < (160 : Int)) ∧ (∀ x4_3 : Int, x4_3 = (M 207 (q_add (q_mul 40 x1) x3)) → (((q_lcmp x4_3 0) < 0) → P (-3) M) ∧ ((¬ ((q_lcmp x4_3 0) < 0)) → q_kI yX12_isLink mX12_isLink d [qR 178, qL (q_ldiv x4_3 1000)] M (fun v5 M4 => ((v5 = 0) → P (-3) M4) ∧ ((¬ (v5 = 0)) → q_kI yX12_within mX12_within d [qL (q_lrem x4_3 1000), qL 1, qL 199] M4 (fun v7 M6 => ((¬ v7 = 0) → q_v mX12_noWeighed d (qPI P) M6 34 [some (qR 178), some (qI x1), none, some (qI (q_add x3 1)), none, none] []) ∧ ((v7 = 0) → P (-3) M6))))))))) : q_v mX12_noWeighed d (qPI P) M 34 [some (qR 178), some (qI x1), none, some (qI x3), none, none] [] := by
  refine qr_iload_n 34 35 rfl (x := x3) rfl dX12_noWeighed_34 ?_
  refine qr_aload_n 35 36 rfl (x := 178) rfl dX12_noWeighed_35 ?_
  refine qr_getF 36 39 rfl ck12 46 (by decide) (b := 206) (by decide +kernel) rfl (by decide +kernel) (by decide +kernel) wm_1372 rfl dX12_noWeighed_36 ?_
  refine qr_iload_n 39 40 rfl (x := x1) rfl dX12_noWeighed_39 ?_
  have hb1 := h.1
  have h := h.2
  refine qi_ld 40 41 rfl (N := 4) (by decide +kernel) (by decide +kernel) hb1.1 hb1.2 dX12_noWeighed_40 ?_
  refine qr_icmp_ge 41 44 102 rfl (by decide) dX12_noWeighed_41 (fun c41 => ?_) (fun c41 => ?_)
  · have h := h.1 c41
    refine qr_iconst 102 103 rfl (q_l32 _ rfl) dX12_noWeighed_102 ?_
    exact qe_i 103 rfl dX12_noWeighed_103 h
  · have h := h.2 c41
    refine qr_aload_n 44 45 rfl (x := 178) rfl dX12_noWeighed_44 ?_
    refine qr_getF 45 48 rfl ck12 47 (by decide) (b := 207) (by decide +kernel) rfl (by decide +kernel) (by decide +kernel) wm_1373 rfl dX12_noWeighed_45 ?_
    refine qr_bipush 48 50 rfl (q_l32 _ rfl) (by decide) dX12_noWeighed_48 ?_
    refine qr_iload_n 50 51 rfl (x := x1) rfl dX12_noWeighed_50 ?_
    refine qr_imul 51 52 rfl dX12_noWeighed_51 ?_
    refine qr_iload_n 52 53 rfl (x := x3) rfl dX12_noWeighed_52 ?_
    refine qr_iadd 53 54 rfl dX12_noWeighed_53 ?_
    have hb2 := h.1
    have h := h.2
    refine ql_ld 54 55 rfl (N := 160) (by decide +kernel) (by decide +kernel) hb2.1 hb2.2 dX12_noWeighed_54 ?_
    refine qn_l 55 (fun x4_3 e_x4_3 => ?_)
    have h := h x4_3 e_x4_3
    refine qr_lstore 55 57 rfl (by decide) rfl rfl dX12_noWeighed_55 ?_
    refine qr_lload 57 59 rfl (x := x4_3) rfl dX12_noWeighed_57 ?_
    refine qr_lconst 59 60 rfl (w := 0) (q_l64 _ rfl) (by decide) dX12_noWeighed_59 ?_
    refine qr_lcmp 60 61 rfl dX12_noWeighed_60 ?_
    refine qr_if_lt 61 64 93 rfl (by decide) dX12_noWeighed_61 (fun c61 => ?_) (fun c61 => ?_)
    · have h := h.1 c61
      refine qr_bipush 93 95 rfl (q_l32 _ rfl) (by decide) dX12_noWeighed_93 ?_
      exact qe_i 95 rfl dX12_noWeighed_95 h
    · have h := h.2 c61
      refine qr_aload_n 64 65 rfl (x := 178) rfl dX12_noWeighed_64 ?_
      refine qr_lload 65 67 rfl (x := x4_3) rfl dX12_noWeighed_65 ?_
      refine qr_ldc2 67 70 rfl (v := 1000) (q_l64 _ rfl) wm_1816 dX12_noWeighed_67 ?_
      refine qr_ldiv 70 71 rfl (by decide) dX12_noWeighed_70 ?_
      refine qw_I 71 74 rfl (av := [qL (q_ldiv x4_3 1000)]) ca_X12_isLink wm_1610 wp_101 wm_1608 ck12 (by decide +kernel) rfl rfl (Nat.le_of_ble_eq_true rfl) dX12_noWeighed_71 h (fun v5 M4 h => ?_)
      refine qr_if_eq 74 77 93 rfl (by decide) dX12_noWeighed_74 (fun c74 => ?_) (fun c74 => ?_)
      · have h := h.1 c74
        refine qr_bipush 93 95 rfl (q_l32 _ rfl) (by decide) dX12_noWeighed_93 ?_
        exact qe_i 95 rfl dX12_noWeighed_95 h
      · have h := h.2 c74
        refine qr_lload 77 79 rfl (x := x4_3) rfl dX12_noWeighed_77 ?_
        refine qr_ldc2 79 82 rfl (v := 1000) (q_l64 _ rfl) wm_1816 dX12_noWeighed_79 ?_
        refine qr_lrem 82 83 rfl (by decide) dX12_noWeighed_82 ?_
        refine qr_lconst 83 84 rfl (w := 1) (q_l64 _ rfl) (by decide) dX12_noWeighed_83 ?_
        refine qr_ldc2 84 87 rfl (v := 199) (q_l64 _ rfl) wm_1818 dX12_noWeighed_84 ?_
        refine qs_I 87 90 rfl (av := [qL (q_lrem x4_3 1000), qL 1, qL 199]) ca_X12_within wm_1481 wm_1480 rfl rfl (Nat.le_of_ble_eq_true rfl) dX12_noWeighed_87 h (fun v7 M6 h => ?_)
        refine qr_if_ne 90 93 96 rfl (by decide) dX12_noWeighed_90 (fun c90 => ?_) (fun c90 => ?_)
        · have h := h.1 c90
          refine qr_iinc 96 99 rfl (by decide) (x := x3) rfl rfl rfl dX12_noWeighed_96 ?_
          refine qr_goto 99 34 (by decide) dX12_noWeighed_99 ?_
          exact qr_cut 34 (ls' := [some (qR 178), some (qI x1), none, some (qI (q_add x3 1)), none, none]) (And.intro rfl (And.intro rfl (And.intro rfl trivial))) h
        · have h := h.2 c90
          refine qr_bipush 93 95 rfl (q_l32 _ rfl) (by decide) dX12_noWeighed_93 ?_
          exact qe_i 95 rfl dX12_noWeighed_95 h
theorem dX12_warmthsOf_0 : decode cX12_warmthsOf 0 = .ok (.iconst 0, 1) := by decide +kernel
theorem dX12_warmthsOf_1 : decode cX12_warmthsOf 1 = .ok (.istore_n 2, 1) := by decide +kernel
theorem dX12_warmthsOf_2 : decode cX12_warmthsOf 2 = .ok (.iconst 0, 1) := by decide +kernel
theorem dX12_warmthsOf_3 : decode cX12_warmthsOf 3 = .ok (.istore_n 3, 1) := by decide +kernel
theorem dX12_warmthsOf_4 : decode cX12_warmthsOf 4 = .ok (.iload_n 3, 1) := by decide +kernel
theorem dX12_warmthsOf_5 : decode cX12_warmthsOf 5 = .ok (.bipush 10, 2) := by decide +kernel
theorem dX12_warmthsOf_7 : decode cX12_warmthsOf 7 = .ok (.if_icmp .ge 95, 3) := by decide +kernel
theorem dX12_warmthsOf_10 : decode cX12_warmthsOf 10 = .ok (.iconst 1, 1) := by decide +kernel
theorem dX12_warmthsOf_11 : decode cX12_warmthsOf 11 = .ok (.istore 4, 2) := by decide +kernel
theorem dX12_warmthsOf_13 : decode cX12_warmthsOf 13 = .ok (.iconst 0, 1) := by decide +kernel
theorem dX12_warmthsOf_14 : decode cX12_warmthsOf 14 = .ok (.istore 5, 2) := by decide +kernel
theorem dX12_warmthsOf_16 : decode cX12_warmthsOf 16 = .ok (.iload 5, 2) := by decide +kernel
theorem dX12_warmthsOf_18 : decode cX12_warmthsOf 18 = .ok (.aload_n 0, 1) := by decide +kernel
theorem dX12_warmthsOf_19 : decode cX12_warmthsOf 19 = .ok (.getfield 101, 3) := by decide +kernel
theorem dX12_warmthsOf_22 : decode cX12_warmthsOf 22 = .ok (.iload_n 1, 1) := by decide +kernel
theorem dX12_warmthsOf_23 : decode cX12_warmthsOf 23 = .ok (.iaload, 1) := by decide +kernel
theorem dX12_warmthsOf_24 : decode cX12_warmthsOf 24 = .ok (.if_icmp .ge 57, 3) := by decide +kernel
theorem dX12_warmthsOf_27 : decode cX12_warmthsOf 27 = .ok (.aload_n 0, 1) := by decide +kernel
theorem dX12_warmthsOf_28 : decode cX12_warmthsOf 28 = .ok (.getfield 104, 3) := by decide +kernel
theorem dX12_warmthsOf_31 : decode cX12_warmthsOf 31 = .ok (.bipush 40, 2) := by decide +kernel
theorem dX12_warmthsOf_33 : decode cX12_warmthsOf 33 = .ok (.iload_n 1, 1) := by decide +kernel
theorem dX12_warmthsOf_34 : decode cX12_warmthsOf 34 = .ok (.imul, 1) := by decide +kernel
theorem dX12_warmthsOf_35 : decode cX12_warmthsOf 35 = .ok (.iload 5, 2) := by decide +kernel
theorem dX12_warmthsOf_37 : decode cX12_warmthsOf 37 = .ok (.iadd, 1) := by decide +kernel
theorem dX12_warmthsOf_38 : decode cX12_warmthsOf 38 = .ok (.laload, 1) := by decide +kernel
theorem dX12_warmthsOf_39 : decode cX12_warmthsOf 39 = .ok (.l2i, 1) := by decide +kernel
theorem dX12_warmthsOf_40 : decode cX12_warmthsOf 40 = .ok (.istore 6, 2) := by decide +kernel
theorem dX12_warmthsOf_42 : decode cX12_warmthsOf 42 = .ok (.iload 4, 2) := by decide +kernel
theorem dX12_warmthsOf_44 : decode cX12_warmthsOf 44 = .ok (.aload_n 0, 1) := by decide +kernel
theorem dX12_warmthsOf_45 : decode cX12_warmthsOf 45 = .ok (.iload 6, 2) := by decide +kernel
theorem dX12_warmthsOf_47 : decode cX12_warmthsOf 47 = .ok (.sipush 1000, 3) := by decide +kernel
theorem dX12_warmthsOf_50 : decode cX12_warmthsOf 50 = .ok (.idiv, 1) := by decide +kernel
theorem dX12_warmthsOf_51 : decode cX12_warmthsOf 51 = .ok (.iload_n 3, 1) := by decide +kernel
theorem dX12_warmthsOf_52 : decode cX12_warmthsOf 52 = .ok (.invokevirtual 260, 3) := by decide +kernel
theorem dX12_warmthsOf_55 : decode cX12_warmthsOf 55 = .ok (.iload 6, 2) := by decide +kernel
theorem dX12_warmthsOf_57 : decode cX12_warmthsOf 57 = .ok (.sipush 1000, 3) := by decide +kernel
theorem dX12_warmthsOf_60 : decode cX12_warmthsOf 60 = .ok (.irem, 1) := by decide +kernel
theorem dX12_warmthsOf_61 : decode cX12_warmthsOf 61 = .ok (.bipush 100, 2) := by decide +kernel
theorem dX12_warmthsOf_63 : decode cX12_warmthsOf 63 = .ok (.isub, 1) := by decide +kernel
theorem dX12_warmthsOf_64 : decode cX12_warmthsOf 64 = .ok (.if_icmp .ne 7, 3) := by decide +kernel
theorem dX12_warmthsOf_67 : decode cX12_warmthsOf 67 = .ok (.iconst 1, 1) := by decide +kernel
theorem dX12_warmthsOf_68 : decode cX12_warmthsOf 68 = .ok (.goto 4, 3) := by decide +kernel
theorem dX12_warmthsOf_71 : decode cX12_warmthsOf 71 = .ok (.iconst 0, 1) := by decide +kernel
theorem dX12_warmthsOf_72 : decode cX12_warmthsOf 72 = .ok (.iand, 1) := by decide +kernel
theorem dX12_warmthsOf_73 : decode cX12_warmthsOf 73 = .ok (.istore 4, 2) := by decide +kernel
theorem dX12_warmthsOf_75 : decode cX12_warmthsOf 75 = .ok (.iinc 5 1, 3) := by decide +kernel
theorem dX12_warmthsOf_78 : decode cX12_warmthsOf 78 = .ok (.goto (-62), 3) := by decide +kernel
theorem dX12_warmthsOf_81 : decode cX12_warmthsOf 81 = .ok (.iload_n 2, 1) := by decide +kernel
theorem dX12_warmthsOf_82 : decode cX12_warmthsOf 82 = .ok (.iload 4, 2) := by decide +kernel
theorem dX12_warmthsOf_84 : decode cX12_warmthsOf 84 = .ok (.ifCond .eq 9, 3) := by decide +kernel
theorem dX12_warmthsOf_87 : decode cX12_warmthsOf 87 = .ok (.iconst 1, 1) := by decide +kernel
theorem dX12_warmthsOf_88 : decode cX12_warmthsOf 88 = .ok (.iload_n 3, 1) := by decide +kernel
theorem dX12_warmthsOf_89 : decode cX12_warmthsOf 89 = .ok (.ishl, 1) := by decide +kernel
theorem dX12_warmthsOf_90 : decode cX12_warmthsOf 90 = .ok (.goto 4, 3) := by decide +kernel
theorem dX12_warmthsOf_93 : decode cX12_warmthsOf 93 = .ok (.iconst 0, 1) := by decide +kernel
theorem dX12_warmthsOf_94 : decode cX12_warmthsOf 94 = .ok (.ior, 1) := by decide +kernel
theorem dX12_warmthsOf_95 : decode cX12_warmthsOf 95 = .ok (.istore_n 2, 1) := by decide +kernel
theorem dX12_warmthsOf_96 : decode cX12_warmthsOf 96 = .ok (.iinc 3 1, 3) := by decide +kernel
theorem dX12_warmthsOf_99 : decode cX12_warmthsOf 99 = .ok (.goto (-95), 3) := by decide +kernel
theorem dX12_warmthsOf_102 : decode cX12_warmthsOf 102 = .ok (.iload_n 2, 1) := by decide +kernel
theorem dX12_warmthsOf_103 : decode cX12_warmthsOf 103 = .ok (.ireturn, 1) := by decide +kernel
theorem bX12_warmthsOf_0 {d : Nat} {P : Int → q_Mem → Prop} {M : q_Mem} (x1 : Int) (h : q_v mX12_warmthsOf d (qPI P) M 4 [some (qR 178), some (qI x1), some (qI 0), some (qI 0), none, none, none] []) : q_v mX12_warmthsOf d (qPI P) M 0 [some (qR 178), some (qI x1), none, none, none, none, none] [] := by
  refine qr_iconst 0 1 rfl (q_l32 _ rfl) dX12_warmthsOf_0 ?_
  refine qr_istore_n 1 2 rfl (by decide) rfl rfl dX12_warmthsOf_1 ?_
  refine qr_iconst 2 3 rfl (q_l32 _ rfl) dX12_warmthsOf_2 ?_
  refine qr_istore_n 3 4 rfl (by decide) rfl rfl dX12_warmthsOf_3 ?_
  exact h
theorem bX12_warmthsOf_4 {d : Nat} {P : Int → q_Mem → Prop} {M : q_Mem} (x1 x2 x3 : Int) (h : (((10 : Int) ≤ x3) → P x2 M) ∧ ((¬ ((10 : Int) ≤ x3)) → q_v mX12_warmthsOf d (qPI P) M 16 [some (qR 178), some (qI x1), some (qI x2), some (qI x3), some (qI 1), some (qI 0), none] [])) : q_v mX12_warmthsOf d (qPI P) M 4 [some (qR 178), some (qI x1), some (qI x2), some (qI x3), none, none, none] [] := by
  refine qr_iload_n 4 5 rfl (x := x3) rfl dX12_warmthsOf_4 ?_
  refine qr_bipush 5 7 rfl (q_l32 _ rfl) (by decide) dX12_warmthsOf_5 ?_
  refine qr_icmp_ge 7 10 102 rfl (by decide) dX12_warmthsOf_7 (fun c7 => ?_) (fun c7 => ?_)
  · have h := h.1 c7
    refine qr_iload_n 102 103 rfl (x := x2) rfl dX12_warmthsOf_102 ?_
    exact qe_i 103 rfl dX12_warmthsOf_103 h
  · have h := h.2 c7
    refine qr_iconst 10 11 rfl (q_l32 _ rfl) dX12_warmthsOf_10 ?_
    refine qr_istore 11 13 rfl (by decide) rfl rfl dX12_warmthsOf_11 ?_
    refine qr_iconst 13 14 rfl (q_l32 _ rfl) dX12_warmthsOf_13 ?_
    refine qr_istore 14 16 rfl (by decide) rfl rfl dX12_warmthsOf_14 ?_
    exact h
theorem bX12_warmthsOf_16 {d : Nat} {P : Int → q_Mem → Prop} {M : q_Mem} (x1 x2 x3 x4 x5 : Int) (h : (0 ≤ x1 ∧ x1 < (4 : Int)) ∧ ((((M 206 x1) ≤ x5) → ((x4 = 0) → ∀ x2_2 : Int, x2_2 = (q_or x2 0) → q_v mX12_warmthsOf d (qPI P) M 4 [some (qR 178), some (qI x1), some (qI x2_2), some (qI (q_add x3 1)), none, none, none] []) ∧ ((¬ (x4 = 0)) → ∀ x2_3 : Int, x2_3 = (q_or x2 (q_shl 1 x3)) → q_v mX12_warmthsOf d (qPI P) M 4 [some (qR 178), some (qI x1), some (qI x2_3), some (qI (q_add x3 1)), none, none, none] [])) ∧ ((¬ ((M 206 x1) ≤ x5)) → (0 ≤ (q_add (q_mul 40 x1) x5) ∧ (q_add (q_mul 40 x1) x5) < (160 : Int)) ∧ (∀ x6_5 : Int, x6_5 = (q_l2i (M 207 (q_add (q_mul 40 x1) x5))) → q_kI yX12_weightOf mX12_weightOf d [qR 178, qI (q_div x6_5 1000), qI x3] M (fun v7 M6 => ((¬ v7 = (q_sub (q_rem x6_5 1000) 100)) → ∀ x4_8 : Int, x4_8 = (q_and x4 0) → q_v mX12_warmthsOf d (qPI P) M6 16 [some (qR 178), some (qI x1), some (qI x2), some (qI x3), some (qI x4_8), some (qI (q_add x5 1)), none] []) ∧ ((v7 = (q_sub (q_rem x6_5 1000) 100)) → ∀ x4_9 : Int, x4_9 = (q_and x4 1) → q_v mX12_warmthsOf d (qPI P) M6 16 [some (qR 178), some (qI x1), some (qI x2), some (qI x3), some (qI x4_9), some (qI (q_add x5 1)), none] [])))))) : q_v mX12_warmthsOf d (qPI P) M 16 [some (qR 178), some (qI x1), some (qI x2), some (qI x3), some (qI x4), some (qI x5), none] [] := by
  refine qr_iload 16 18 rfl (x := x5) rfl dX12_warmthsOf_16 ?_
  refine qr_aload_n 18 19 rfl (x := 178) rfl dX12_warmthsOf_18 ?_
  refine qr_getF 19 22 rfl ck12 46 (by decide) (b := 206) (by decide +kernel) rfl (by decide +kernel) (by decide +kernel) wm_1372 rfl dX12_warmthsOf_19 ?_
  refine qr_iload_n 22 23 rfl (x := x1) rfl dX12_warmthsOf_22 ?_
  have hb1 := h.1
  have h := h.2
  refine qi_ld 23 24 rfl (N := 4) (by decide +kernel) (by decide +kernel) hb1.1 hb1.2 dX12_warmthsOf_23 ?_
  refine qr_icmp_ge 24 27 81 rfl (by decide) dX12_warmthsOf_24 (fun c24 => ?_) (fun c24 => ?_)
  · have h := h.1 c24
    refine qr_iload_n 81 82 rfl (x := x2) rfl dX12_warmthsOf_81 ?_
    refine qr_iload 82 84 rfl (x := x4) rfl dX12_warmthsOf_82 ?_
    refine qr_if_eq 84 87 93 rfl (by decide) dX12_warmthsOf_84 (fun c84 => ?_) (fun c84 => ?_)
    · have h := h.1 c84
      refine qr_iconst 93 94 rfl (q_l32 _ rfl) dX12_warmthsOf_93 ?_
      refine qr_ior 94 95 rfl dX12_warmthsOf_94 ?_
      refine qn_i 95 (fun x2_2 e_x2_2 => ?_)
      have h := h x2_2 e_x2_2
      refine qr_istore_n 95 96 rfl (by decide) rfl rfl dX12_warmthsOf_95 ?_
      refine qr_iinc 96 99 rfl (by decide) (x := x3) rfl rfl rfl dX12_warmthsOf_96 ?_
      refine qr_goto 99 4 (by decide) dX12_warmthsOf_99 ?_
      exact qr_cut 4 (ls' := [some (qR 178), some (qI x1), some (qI x2_2), some (qI (q_add x3 1)), none, none, none]) (And.intro rfl (And.intro rfl (And.intro rfl (And.intro rfl trivial)))) h
    · have h := h.2 c84
      refine qr_iconst 87 88 rfl (q_l32 _ rfl) dX12_warmthsOf_87 ?_
      refine qr_iload_n 88 89 rfl (x := x3) rfl dX12_warmthsOf_88 ?_
      refine qr_ishl 89 90 rfl dX12_warmthsOf_89 ?_
      refine qr_goto 90 94 (by decide) dX12_warmthsOf_90 ?_
      refine qr_ior 94 95 rfl dX12_warmthsOf_94 ?_
      refine qn_i 95 (fun x2_3 e_x2_3 => ?_)
      have h := h x2_3 e_x2_3
      refine qr_istore_n 95 96 rfl (by decide) rfl rfl dX12_warmthsOf_95 ?_
      refine qr_iinc 96 99 rfl (by decide) (x := x3) rfl rfl rfl dX12_warmthsOf_96 ?_
      refine qr_goto 99 4 (by decide) dX12_warmthsOf_99 ?_
      exact qr_cut 4 (ls' := [some (qR 178), some (qI x1), some (qI x2_3), some (qI (q_add x3 1)), none, none, none]) (And.intro rfl (And.intro rfl (And.intro rfl (And.intro rfl trivial)))) h
  · have h := h.2 c24
    refine qr_aload_n 27 28 rfl (x := 178) rfl dX12_warmthsOf_27 ?_
    refine qr_getF 28 31 rfl ck12 47 (by decide) (b := 207) (by decide +kernel) rfl (by decide +kernel) (by decide +kernel) wm_1373 rfl dX12_warmthsOf_28 ?_
    refine qr_bipush 31 33 rfl (q_l32 _ rfl) (by decide) dX12_warmthsOf_31 ?_
    refine qr_iload_n 33 34 rfl (x := x1) rfl dX12_warmthsOf_33 ?_
    refine qr_imul 34 35 rfl dX12_warmthsOf_34 ?_
    refine qr_iload 35 37 rfl (x := x5) rfl dX12_warmthsOf_35 ?_
    refine qr_iadd 37 38 rfl dX12_warmthsOf_37 ?_
    have hb4 := h.1
    have h := h.2
    refine ql_ld 38 39 rfl (N := 160) (by decide +kernel) (by decide +kernel) hb4.1 hb4.2 dX12_warmthsOf_38 ?_
    refine qr_l2i 39 40 rfl dX12_warmthsOf_39 ?_
    refine qn_i 40 (fun x6_5 e_x6_5 => ?_)
    have h := h x6_5 e_x6_5
    refine qr_istore 40 42 rfl (by decide) rfl rfl dX12_warmthsOf_40 ?_
    refine qr_iload 42 44 rfl (x := x4) rfl dX12_warmthsOf_42 ?_
    refine qr_aload_n 44 45 rfl (x := 178) rfl dX12_warmthsOf_44 ?_
    refine qr_iload 45 47 rfl (x := x6_5) rfl dX12_warmthsOf_45 ?_
    refine qr_sipush 47 50 rfl (q_l32 _ rfl) (by decide) dX12_warmthsOf_47 ?_
    refine qr_idiv 50 51 rfl (by decide) dX12_warmthsOf_50 ?_
    refine qr_iload_n 51 52 rfl (x := x3) rfl dX12_warmthsOf_51 ?_
    refine qw_I 52 55 rfl (av := [qI (q_div x6_5 1000), qI x3]) ca_X12_weightOf wm_1638 wp_106 wm_1636 ck12 (by decide +kernel) rfl rfl (Nat.le_of_ble_eq_true rfl) dX12_warmthsOf_52 h (fun v7 M6 h => ?_)
    refine qr_iload 55 57 rfl (x := x6_5) rfl dX12_warmthsOf_55 ?_
    refine qr_sipush 57 60 rfl (q_l32 _ rfl) (by decide) dX12_warmthsOf_57 ?_
    refine qr_irem 60 61 rfl (by decide) dX12_warmthsOf_60 ?_
    refine qr_bipush 61 63 rfl (q_l32 _ rfl) (by decide) dX12_warmthsOf_61 ?_
    refine qr_isub 63 64 rfl dX12_warmthsOf_63 ?_
    refine qr_icmp_ne 64 67 71 rfl (by decide) dX12_warmthsOf_64 (fun c64 => ?_) (fun c64 => ?_)
    · have h := h.1 c64
      refine qr_iconst 71 72 rfl (q_l32 _ rfl) dX12_warmthsOf_71 ?_
      refine qr_iand 72 73 rfl dX12_warmthsOf_72 ?_
      refine qn_i 73 (fun x4_8 e_x4_8 => ?_)
      have h := h x4_8 e_x4_8
      refine qr_istore 73 75 rfl (by decide) rfl rfl dX12_warmthsOf_73 ?_
      refine qr_iinc 75 78 rfl (by decide) (x := x5) rfl rfl rfl dX12_warmthsOf_75 ?_
      refine qr_goto 78 16 (by decide) dX12_warmthsOf_78 ?_
      exact qr_cut 16 (ls' := [some (qR 178), some (qI x1), some (qI x2), some (qI x3), some (qI x4_8), some (qI (q_add x5 1)), none]) (And.intro rfl (And.intro rfl (And.intro rfl (And.intro rfl (And.intro rfl (And.intro rfl trivial)))))) h
    · have h := h.2 c64
      refine qr_iconst 67 68 rfl (q_l32 _ rfl) dX12_warmthsOf_67 ?_
      refine qr_goto 68 72 (by decide) dX12_warmthsOf_68 ?_
      refine qr_iand 72 73 rfl dX12_warmthsOf_72 ?_
      refine qn_i 73 (fun x4_9 e_x4_9 => ?_)
      have h := h x4_9 e_x4_9
      refine qr_istore 73 75 rfl (by decide) rfl rfl dX12_warmthsOf_73 ?_
      refine qr_iinc 75 78 rfl (by decide) (x := x5) rfl rfl rfl dX12_warmthsOf_75 ?_
      refine qr_goto 78 16 (by decide) dX12_warmthsOf_78 ?_
      exact qr_cut 16 (ls' := [some (qR 178), some (qI x1), some (qI x2), some (qI x3), some (qI x4_9), some (qI (q_add x5 1)), none]) (And.intro rfl (And.intro rfl (And.intro rfl (And.intro rfl (And.intro rfl (And.intro rfl trivial)))))) h
theorem dX12_warms_0 : decode cX12_warms 0 = .ok (.aload_n 0, 1) := by decide +kernel
theorem dX12_warms_1 : decode cX12_warms 1 = .ok (.iconst 0, 1) := by decide +kernel
theorem dX12_warms_2 : decode cX12_warms 2 = .ok (.putfield 1, 3) := by decide +kernel
theorem dX12_warms_5 : decode cX12_warms 5 = .ok (.aload_n 0, 1) := by decide +kernel
theorem dX12_warms_6 : decode cX12_warms 6 = .ok (.iload_n 1, 1) := by decide +kernel
theorem dX12_warms_7 : decode cX12_warms 7 = .ok (.invokevirtual 471, 3) := by decide +kernel
theorem dX12_warms_10 : decode cX12_warms 10 = .ok (.istore_n 2, 1) := by decide +kernel
theorem dX12_warms_11 : decode cX12_warms 11 = .ok (.iload_n 2, 1) := by decide +kernel
theorem dX12_warms_12 : decode cX12_warms 12 = .ok (.ifCond .eq 7, 3) := by decide +kernel
theorem dX12_warms_15 : decode cX12_warms 15 = .ok (.iload_n 2, 1) := by decide +kernel
theorem dX12_warms_16 : decode cX12_warms 16 = .ok (.goto 8, 3) := by decide +kernel
theorem dX12_warms_19 : decode cX12_warms 19 = .ok (.aload_n 0, 1) := by decide +kernel
theorem dX12_warms_20 : decode cX12_warms 20 = .ok (.iload_n 1, 1) := by decide +kernel
theorem dX12_warms_21 : decode cX12_warms 21 = .ok (.invokevirtual 474, 3) := by decide +kernel
theorem dX12_warms_24 : decode cX12_warms 24 = .ok (.ireturn, 1) := by decide +kernel
theorem bX12_warms_0 {d : Nat} {P : Int → q_Mem → Prop} {M : q_Mem} (x1 : Int) (h : (∀ M1 : q_Mem, M1 = q_up M 178 0 0 → q_kI yX12_noWeighed mX12_noWeighed d [qR 178, qI x1] M1 (fun v3 M2 => ((v3 = 0) → q_kI yX12_warmthsOf mX12_warmthsOf d [qR 178, qI x1] M2 (fun v5 M4 => P v5 M4)) ∧ ((¬ (v3 = 0)) → P v3 M2)))) : q_v mX12_warms d (qPI P) M 0 [some (qR 178), some (qI x1), none] [] := by
  refine qr_aload_n 0 1 rfl (x := 178) rfl dX12_warms_0 ?_
  refine qr_iconst 1 2 rfl (q_l32 _ rfl) dX12_warms_1 ?_
  refine qp_i 2 5 rfl ck12 0 (kk := 0) (by decide) (by decide +kernel) (by decide) rfl rfl wm_1326 rfl dX12_warms_2 (fun M1 e_M1 => ?_)
  have h := h M1 e_M1
  refine qr_aload_n 5 6 rfl (x := 178) rfl dX12_warms_5 ?_
  refine qr_iload_n 6 7 rfl (x := x1) rfl dX12_warms_6 ?_
  refine qw_I 7 10 rfl (av := [qI x1]) ca_X12_noWeighed wm_1973 wp_147 wm_1971 ck12 (by decide +kernel) rfl rfl (Nat.le_of_ble_eq_true rfl) dX12_warms_7 h (fun v3 M2 h => ?_)
  refine qr_istore_n 10 11 rfl (by decide) rfl rfl dX12_warms_10 ?_
  refine qr_iload_n 11 12 rfl (x := v3) rfl dX12_warms_11 ?_
  refine qr_if_eq 12 15 19 rfl (by decide) dX12_warms_12 (fun c12 => ?_) (fun c12 => ?_)
  · have h := h.1 c12
    refine qr_aload_n 19 20 rfl (x := 178) rfl dX12_warms_19 ?_
    refine qr_iload_n 20 21 rfl (x := x1) rfl dX12_warms_20 ?_
    refine qw_I 21 24 rfl (av := [qI x1]) ca_X12_warmthsOf wm_1978 wp_148 wm_1976 ck12 (by decide +kernel) rfl rfl (Nat.le_of_ble_eq_true rfl) dX12_warms_21 h (fun v5 M4 h => ?_)
    exact qe_i 24 rfl dX12_warms_24 h
  · have h := h.2 c12
    refine qr_iload_n 15 16 rfl (x := v3) rfl dX12_warms_15 ?_
    refine qr_goto 16 24 (by decide) dX12_warms_16 ?_
    exact qe_i 24 rfl dX12_warms_24 h
theorem dX12_mostAlike_0 : decode cX12_mostAlike 0 = .ok (.iconst 0, 1) := by decide +kernel
theorem dX12_mostAlike_1 : decode cX12_mostAlike 1 = .ok (.istore_n 3, 1) := by decide +kernel
theorem dX12_mostAlike_2 : decode cX12_mostAlike 2 = .ok (.iload_n 3, 1) := by decide +kernel
theorem dX12_mostAlike_3 : decode cX12_mostAlike 3 = .ok (.bipush 10, 2) := by decide +kernel
theorem dX12_mostAlike_5 : decode cX12_mostAlike 5 = .ok (.if_icmp .ge 21, 3) := by decide +kernel
theorem dX12_mostAlike_8 : decode cX12_mostAlike 8 = .ok (.aload_n 0, 1) := by decide +kernel
theorem dX12_mostAlike_9 : decode cX12_mostAlike 9 = .ok (.getfield 88, 3) := by decide +kernel
theorem dX12_mostAlike_12 : decode cX12_mostAlike 12 = .ok (.iload_n 3, 1) := by decide +kernel
theorem dX12_mostAlike_13 : decode cX12_mostAlike 13 = .ok (.aload_n 0, 1) := by decide +kernel
theorem dX12_mostAlike_14 : decode cX12_mostAlike 14 = .ok (.iload_n 2, 1) := by decide +kernel
theorem dX12_mostAlike_15 : decode cX12_mostAlike 15 = .ok (.iload_n 3, 1) := by decide +kernel
theorem dX12_mostAlike_16 : decode cX12_mostAlike 16 = .ok (.invokevirtual 260, 3) := by decide +kernel
theorem dX12_mostAlike_19 : decode cX12_mostAlike 19 = .ok (.iastore, 1) := by decide +kernel
theorem dX12_mostAlike_20 : decode cX12_mostAlike 20 = .ok (.iinc 3 1, 3) := by decide +kernel
theorem dX12_mostAlike_23 : decode cX12_mostAlike 23 = .ok (.goto (-21), 3) := by decide +kernel
theorem dX12_mostAlike_26 : decode cX12_mostAlike 26 = .ok (.iconst 0, 1) := by decide +kernel
theorem dX12_mostAlike_27 : decode cX12_mostAlike 27 = .ok (.istore_n 3, 1) := by decide +kernel
theorem dX12_mostAlike_28 : decode cX12_mostAlike 28 = .ok (.iconst 0, 1) := by decide +kernel
theorem dX12_mostAlike_29 : decode cX12_mostAlike 29 = .ok (.istore 4, 2) := by decide +kernel
theorem dX12_mostAlike_31 : decode cX12_mostAlike 31 = .ok (.iload 4, 2) := by decide +kernel
theorem dX12_mostAlike_33 : decode cX12_mostAlike 33 = .ok (.bipush 10, 2) := by decide +kernel
theorem dX12_mostAlike_35 : decode cX12_mostAlike 35 = .ok (.if_icmp .ge 86, 3) := by decide +kernel
theorem dX12_mostAlike_38 : decode cX12_mostAlike 38 = .ok (.iconst 0, 1) := by decide +kernel
theorem dX12_mostAlike_39 : decode cX12_mostAlike 39 = .ok (.istore 5, 2) := by decide +kernel
theorem dX12_mostAlike_41 : decode cX12_mostAlike 41 = .ok (.iconst 0, 1) := by decide +kernel
theorem dX12_mostAlike_42 : decode cX12_mostAlike 42 = .ok (.istore 6, 2) := by decide +kernel
theorem dX12_mostAlike_44 : decode cX12_mostAlike 44 = .ok (.iload 6, 2) := by decide +kernel
theorem dX12_mostAlike_46 : decode cX12_mostAlike 46 = .ok (.bipush 10, 2) := by decide +kernel
theorem dX12_mostAlike_48 : decode cX12_mostAlike 48 = .ok (.if_icmp .ge 54, 3) := by decide +kernel
theorem dX12_mostAlike_51 : decode cX12_mostAlike 51 = .ok (.iload 5, 2) := by decide +kernel
theorem dX12_mostAlike_53 : decode cX12_mostAlike 53 = .ok (.iload_n 1, 1) := by decide +kernel
theorem dX12_mostAlike_54 : decode cX12_mostAlike 54 = .ok (.iload 4, 2) := by decide +kernel
theorem dX12_mostAlike_56 : decode cX12_mostAlike 56 = .ok (.invokestatic 263, 3) := by decide +kernel
theorem dX12_mostAlike_59 : decode cX12_mostAlike 59 = .ok (.ifCond .eq 33, 3) := by decide +kernel
theorem dX12_mostAlike_62 : decode cX12_mostAlike 62 = .ok (.iload_n 1, 1) := by decide +kernel
theorem dX12_mostAlike_63 : decode cX12_mostAlike 63 = .ok (.iload 6, 2) := by decide +kernel
theorem dX12_mostAlike_65 : decode cX12_mostAlike 65 = .ok (.invokestatic 263, 3) := by decide +kernel
theorem dX12_mostAlike_68 : decode cX12_mostAlike 68 = .ok (.ifCond .eq 24, 3) := by decide +kernel
theorem dX12_mostAlike_71 : decode cX12_mostAlike 71 = .ok (.aload_n 0, 1) := by decide +kernel
theorem dX12_mostAlike_72 : decode cX12_mostAlike 72 = .ok (.getfield 88, 3) := by decide +kernel
theorem dX12_mostAlike_75 : decode cX12_mostAlike 75 = .ok (.iload 4, 2) := by decide +kernel
theorem dX12_mostAlike_77 : decode cX12_mostAlike 77 = .ok (.iaload, 1) := by decide +kernel
theorem dX12_mostAlike_78 : decode cX12_mostAlike 78 = .ok (.aload_n 0, 1) := by decide +kernel
theorem dX12_mostAlike_79 : decode cX12_mostAlike 79 = .ok (.getfield 88, 3) := by decide +kernel
theorem dX12_mostAlike_82 : decode cX12_mostAlike 82 = .ok (.iload 6, 2) := by decide +kernel
theorem dX12_mostAlike_84 : decode cX12_mostAlike 84 = .ok (.iaload, 1) := by decide +kernel
theorem dX12_mostAlike_85 : decode cX12_mostAlike 85 = .ok (.if_icmp .ne 7, 3) := by decide +kernel
theorem dX12_mostAlike_88 : decode cX12_mostAlike 88 = .ok (.iconst 1, 1) := by decide +kernel
theorem dX12_mostAlike_89 : decode cX12_mostAlike 89 = .ok (.goto 4, 3) := by decide +kernel
theorem dX12_mostAlike_92 : decode cX12_mostAlike 92 = .ok (.iconst 0, 1) := by decide +kernel
theorem dX12_mostAlike_93 : decode cX12_mostAlike 93 = .ok (.iadd, 1) := by decide +kernel
theorem dX12_mostAlike_94 : decode cX12_mostAlike 94 = .ok (.istore 5, 2) := by decide +kernel
theorem dX12_mostAlike_96 : decode cX12_mostAlike 96 = .ok (.iinc 6 1, 3) := by decide +kernel
theorem dX12_mostAlike_99 : decode cX12_mostAlike 99 = .ok (.goto (-55), 3) := by decide +kernel
theorem dX12_mostAlike_102 : decode cX12_mostAlike 102 = .ok (.iload 5, 2) := by decide +kernel
theorem dX12_mostAlike_104 : decode cX12_mostAlike 104 = .ok (.iload_n 3, 1) := by decide +kernel
theorem dX12_mostAlike_105 : decode cX12_mostAlike 105 = .ok (.if_icmp .le 8, 3) := by decide +kernel
theorem dX12_mostAlike_108 : decode cX12_mostAlike 108 = .ok (.iload 5, 2) := by decide +kernel
theorem dX12_mostAlike_110 : decode cX12_mostAlike 110 = .ok (.goto 4, 3) := by decide +kernel
theorem dX12_mostAlike_113 : decode cX12_mostAlike 113 = .ok (.iload_n 3, 1) := by decide +kernel
theorem dX12_mostAlike_114 : decode cX12_mostAlike 114 = .ok (.istore_n 3, 1) := by decide +kernel
theorem dX12_mostAlike_115 : decode cX12_mostAlike 115 = .ok (.iinc 4 1, 3) := by decide +kernel
theorem dX12_mostAlike_118 : decode cX12_mostAlike 118 = .ok (.goto (-87), 3) := by decide +kernel
theorem dX12_mostAlike_121 : decode cX12_mostAlike 121 = .ok (.iload_n 3, 1) := by decide +kernel
theorem dX12_mostAlike_122 : decode cX12_mostAlike 122 = .ok (.ireturn, 1) := by decide +kernel
theorem bX12_mostAlike_0 {d : Nat} {P : Int → q_Mem → Prop} {M : q_Mem} (x1 x2 : Int) (h : q_v mX12_mostAlike d (qPI P) M 2 [some (qR 178), some (qI x1), some (qI x2), some (qI 0), none, none, none] []) : q_v mX12_mostAlike d (qPI P) M 0 [some (qR 178), some (qI x1), some (qI x2), none, none, none, none] [] := by
  refine qr_iconst 0 1 rfl (q_l32 _ rfl) dX12_mostAlike_0 ?_
  refine qr_istore_n 1 2 rfl (by decide) rfl rfl dX12_mostAlike_1 ?_
  exact h
theorem bX12_mostAlike_2 {d : Nat} {P : Int → q_Mem → Prop} {M : q_Mem} (x1 x2 x3 : Int) (h : (((10 : Int) ≤ x3) → q_v mX12_mostAlike d (qPI P) M 31 [some (qR 178), some (qI x1), none, some (qI 0), some (qI 0), none, none] []) ∧ ((¬ ((10 : Int) ≤ x3)) → q_kI yX12_weightOf mX12_weightOf d [qR 178, qI x2, qI x3] M (fun v2 M1 => (0 ≤ x3 ∧ x3 < (10 : Int)) ∧ (∀ M4 : q_Mem, M4 = q_up M1 202 x3 v2 → q_v mX12_mostAlike d (qPI P) M4 2 [some (qR 178), some (qI x1), some (qI x2), some (qI (q_add x3 1)), none, none, none] [])))) : q_v mX12_mostAlike d (qPI P) M 2 [some (qR 178), some (qI x1), some (qI x2), some (qI x3), none, none, none] [] := by
  refine qr_iload_n 2 3 rfl (x := x3) rfl dX12_mostAlike_2 ?_
  refine qr_bipush 3 5 rfl (q_l32 _ rfl) (by decide) dX12_mostAlike_3 ?_
  refine qr_icmp_ge 5 8 26 rfl (by decide) dX12_mostAlike_5 (fun c5 => ?_) (fun c5 => ?_)
  · have h := h.1 c5
    refine qr_iconst 26 27 rfl (q_l32 _ rfl) dX12_mostAlike_26 ?_
    refine qr_istore_n 27 28 rfl (by decide) rfl rfl dX12_mostAlike_27 ?_
    refine qr_iconst 28 29 rfl (q_l32 _ rfl) dX12_mostAlike_28 ?_
    refine qr_istore 29 31 rfl (by decide) rfl rfl dX12_mostAlike_29 ?_
    exact qr_cut 31 (ls' := [some (qR 178), some (qI x1), none, some (qI 0), some (qI 0), none, none]) (And.intro rfl (And.intro rfl (And.intro rfl (And.intro rfl trivial)))) h
  · have h := h.2 c5
    refine qr_aload_n 8 9 rfl (x := 178) rfl dX12_mostAlike_8 ?_
    refine qr_getF 9 12 rfl ck12 42 (by decide) (b := 202) (by decide +kernel) rfl (by decide +kernel) (by decide +kernel) wm_1368 rfl dX12_mostAlike_9 ?_
    refine qr_iload_n 12 13 rfl (x := x3) rfl dX12_mostAlike_12 ?_
    refine qr_aload_n 13 14 rfl (x := 178) rfl dX12_mostAlike_13 ?_
    refine qr_iload_n 14 15 rfl (x := x2) rfl dX12_mostAlike_14 ?_
    refine qr_iload_n 15 16 rfl (x := x3) rfl dX12_mostAlike_15 ?_
    refine qw_I 16 19 rfl (av := [qI x2, qI x3]) ca_X12_weightOf wm_1638 wp_106 wm_1636 ck12 (by decide +kernel) rfl rfl (Nat.le_of_ble_eq_true rfl) dX12_mostAlike_16 h (fun v2 M1 h => ?_)
    have hb3 := h.1
    have h := h.2
    refine qi_st 19 20 rfl (N := 10) (by decide +kernel) (by decide +kernel) hb3.1 hb3.2 dX12_mostAlike_19 (fun M4 e_M4 => ?_)
    have h := h M4 e_M4
    refine qr_iinc 20 23 rfl (by decide) (x := x3) rfl rfl rfl dX12_mostAlike_20 ?_
    refine qr_goto 23 2 (by decide) dX12_mostAlike_23 ?_
    exact h
theorem bX12_mostAlike_31 {d : Nat} {P : Int → q_Mem → Prop} {M : q_Mem} (x1 x3 x4 : Int) (h : (((10 : Int) ≤ x4) → P x3 M) ∧ ((¬ ((10 : Int) ≤ x4)) → q_v mX12_mostAlike d (qPI P) M 44 [some (qR 178), some (qI x1), none, some (qI x3), some (qI x4), some (qI 0), some (qI 0)] [])) : q_v mX12_mostAlike d (qPI P) M 31 [some (qR 178), some (qI x1), none, some (qI x3), some (qI x4), none, none] [] := by
  refine qr_iload 31 33 rfl (x := x4) rfl dX12_mostAlike_31 ?_
  refine qr_bipush 33 35 rfl (q_l32 _ rfl) (by decide) dX12_mostAlike_33 ?_
  refine qr_icmp_ge 35 38 121 rfl (by decide) dX12_mostAlike_35 (fun c35 => ?_) (fun c35 => ?_)
  · have h := h.1 c35
    refine qr_iload_n 121 122 rfl (x := x3) rfl dX12_mostAlike_121 ?_
    exact qe_i 122 rfl dX12_mostAlike_122 h
  · have h := h.2 c35
    refine qr_iconst 38 39 rfl (q_l32 _ rfl) dX12_mostAlike_38 ?_
    refine qr_istore 39 41 rfl (by decide) rfl rfl dX12_mostAlike_39 ?_
    refine qr_iconst 41 42 rfl (q_l32 _ rfl) dX12_mostAlike_41 ?_
    refine qr_istore 42 44 rfl (by decide) rfl rfl dX12_mostAlike_42 ?_
    exact h
theorem bX12_mostAlike_44 {d : Nat} {P : Int → q_Mem → Prop} {M : q_Mem} (x1 x3 x4 x5 x6 : Int) (h : (((10 : Int) ≤ x6) → ((x5 ≤ x3) → q_v mX12_mostAlike d (qPI P) M 31 [some (qR 178), some (qI x1), none, some (qI x3), some (qI (q_add x4 1)), none, none] []) ∧ ((¬ (x5 ≤ x3)) → q_v mX12_mostAlike d (qPI P) M 31 [some (qR 178), some (qI x1), none, some (qI x5), some (qI (q_add x4 1)), none, none] [])) ∧ ((¬ ((10 : Int) ≤ x6)) → q_kI yX12_isIn mX12_isIn d [qI x1, qI x4] M (fun v2 M1 => ((v2 = 0) → ∀ x5_3 : Int, x5_3 = (q_add x5 0) → q_v mX12_mostAlike d (qPI P) M1 44 [some (qR 178), some (qI x1), none, some (qI x3), some (qI x4), some (qI x5_3), some (qI (q_add x6 1))] []) ∧ ((¬ (v2 = 0)) → q_kI yX12_isIn mX12_isIn d [qI x1, qI x6] M1 (fun v5 M4 => ((v5 = 0) → ∀ x5_6 : Int, x5_6 = (q_add x5 0) → q_v mX12_mostAlike d (qPI P) M4 44 [some (qR 178), some (qI x1), none, some (qI x3), some (qI x4), some (qI x5_6), some (qI (q_add x6 1))] []) ∧ ((¬ (v5 = 0)) → (0 ≤ x4 ∧ x4 < (10 : Int)) ∧ ((0 ≤ x6 ∧ x6 < (10 : Int)) ∧ (((¬ (M4 202 x4) = (M4 202 x6)) → ∀ x5_9 : Int, x5_9 = (q_add x5 0) → q_v mX12_mostAlike d (qPI P) M4 44 [some (qR 178), some (qI x1), none, some (qI x3), some (qI x4), some (qI x5_9), some (qI (q_add x6 1))] []) ∧ (((M4 202 x4) = (M4 202 x6)) → ∀ x5_10 : Int, x5_10 = (q_add x5 1) → q_v mX12_mostAlike d (qPI P) M4 44 [some (qR 178), some (qI x1), none, some (qI x3), some (qI x4), some (qI x5_10), some (qI (q_add x6 1))] []))))))))) : q_v mX12_mostAlike d (qPI P) M 44 [some (qR 178), some (qI x1), none, some (qI x3), some (qI x4), some (qI x5), some (qI x6)] [] := by
  refine qr_iload 44 46 rfl (x := x6) rfl dX12_mostAlike_44 ?_
  refine qr_bipush 46 48 rfl (q_l32 _ rfl) (by decide) dX12_mostAlike_46 ?_
  refine qr_icmp_ge 48 51 102 rfl (by decide) dX12_mostAlike_48 (fun c48 => ?_) (fun c48 => ?_)
  · have h := h.1 c48
    refine qr_iload 102 104 rfl (x := x5) rfl dX12_mostAlike_102 ?_
    refine qr_iload_n 104 105 rfl (x := x3) rfl dX12_mostAlike_104 ?_
    refine qr_icmp_le 105 108 113 rfl (by decide) dX12_mostAlike_105 (fun c105 => ?_) (fun c105 => ?_)
    · have h := h.1 c105
      refine qr_iload_n 113 114 rfl (x := x3) rfl dX12_mostAlike_113 ?_
      refine qr_istore_n 114 115 rfl (by decide) rfl rfl dX12_mostAlike_114 ?_
      refine qr_iinc 115 118 rfl (by decide) (x := x4) rfl rfl rfl dX12_mostAlike_115 ?_
      refine qr_goto 118 31 (by decide) dX12_mostAlike_118 ?_
      exact qr_cut 31 (ls' := [some (qR 178), some (qI x1), none, some (qI x3), some (qI (q_add x4 1)), none, none]) (And.intro rfl (And.intro rfl (And.intro rfl (And.intro rfl trivial)))) h
    · have h := h.2 c105
      refine qr_iload 108 110 rfl (x := x5) rfl dX12_mostAlike_108 ?_
      refine qr_goto 110 114 (by decide) dX12_mostAlike_110 ?_
      refine qr_istore_n 114 115 rfl (by decide) rfl rfl dX12_mostAlike_114 ?_
      refine qr_iinc 115 118 rfl (by decide) (x := x4) rfl rfl rfl dX12_mostAlike_115 ?_
      refine qr_goto 118 31 (by decide) dX12_mostAlike_118 ?_
      exact qr_cut 31 (ls' := [some (qR 178), some (qI x1), none, some (qI x5), some (qI (q_add x4 1)), none, none]) (And.intro rfl (And.intro rfl (And.intro rfl (And.intro rfl trivial)))) h
  · have h := h.2 c48
    refine qr_iload 51 53 rfl (x := x5) rfl dX12_mostAlike_51 ?_
    refine qr_iload_n 53 54 rfl (x := x1) rfl dX12_mostAlike_53 ?_
    refine qr_iload 54 56 rfl (x := x4) rfl dX12_mostAlike_54 ?_
    refine qs_I 56 59 rfl (av := [qI x1, qI x4]) ca_X12_isIn wm_1694 wm_1693 rfl rfl (Nat.le_of_ble_eq_true rfl) dX12_mostAlike_56 h (fun v2 M1 h => ?_)
    refine qr_if_eq 59 62 92 rfl (by decide) dX12_mostAlike_59 (fun c59 => ?_) (fun c59 => ?_)
    · have h := h.1 c59
      refine qr_iconst 92 93 rfl (q_l32 _ rfl) dX12_mostAlike_92 ?_
      refine qr_iadd 93 94 rfl dX12_mostAlike_93 ?_
      refine qn_i 94 (fun x5_3 e_x5_3 => ?_)
      have h := h x5_3 e_x5_3
      refine qr_istore 94 96 rfl (by decide) rfl rfl dX12_mostAlike_94 ?_
      refine qr_iinc 96 99 rfl (by decide) (x := x6) rfl rfl rfl dX12_mostAlike_96 ?_
      refine qr_goto 99 44 (by decide) dX12_mostAlike_99 ?_
      exact h
    · have h := h.2 c59
      refine qr_iload_n 62 63 rfl (x := x1) rfl dX12_mostAlike_62 ?_
      refine qr_iload 63 65 rfl (x := x6) rfl dX12_mostAlike_63 ?_
      refine qs_I 65 68 rfl (av := [qI x1, qI x6]) ca_X12_isIn wm_1694 wm_1693 rfl rfl (Nat.le_of_ble_eq_true rfl) dX12_mostAlike_65 h (fun v5 M4 h => ?_)
      refine qr_if_eq 68 71 92 rfl (by decide) dX12_mostAlike_68 (fun c68 => ?_) (fun c68 => ?_)
      · have h := h.1 c68
        refine qr_iconst 92 93 rfl (q_l32 _ rfl) dX12_mostAlike_92 ?_
        refine qr_iadd 93 94 rfl dX12_mostAlike_93 ?_
        refine qn_i 94 (fun x5_6 e_x5_6 => ?_)
        have h := h x5_6 e_x5_6
        refine qr_istore 94 96 rfl (by decide) rfl rfl dX12_mostAlike_94 ?_
        refine qr_iinc 96 99 rfl (by decide) (x := x6) rfl rfl rfl dX12_mostAlike_96 ?_
        refine qr_goto 99 44 (by decide) dX12_mostAlike_99 ?_
        exact h
      · have h := h.2 c68
        refine qr_aload_n 71 72 rfl (x := 178) rfl dX12_mostAlike_71 ?_
        refine qr_getF 72 75 rfl ck12 42 (by decide) (b := 202) (by decide +kernel) rfl (by decide +kernel) (by decide +kernel) wm_1368 rfl dX12_mostAlike_72 ?_
        refine qr_iload 75 77 rfl (x := x4) rfl dX12_mostAlike_75 ?_
        have hb7 := h.1
        have h := h.2
        refine qi_ld 77 78 rfl (N := 10) (by decide +kernel) (by decide +kernel) hb7.1 hb7.2 dX12_mostAlike_77 ?_
        refine qr_aload_n 78 79 rfl (x := 178) rfl dX12_mostAlike_78 ?_
        refine qr_getF 79 82 rfl ck12 42 (by decide) (b := 202) (by decide +kernel) rfl (by decide +kernel) (by decide +kernel) wm_1368 rfl dX12_mostAlike_79 ?_
        refine qr_iload 82 84 rfl (x := x6) rfl dX12_mostAlike_82 ?_
        have hb8 := h.1
        have h := h.2
        refine qi_ld 84 85 rfl (N := 10) (by decide +kernel) (by decide +kernel) hb8.1 hb8.2 dX12_mostAlike_84 ?_
        refine qr_icmp_ne 85 88 92 rfl (by decide) dX12_mostAlike_85 (fun c85 => ?_) (fun c85 => ?_)
        · have h := h.1 c85
          refine qr_iconst 92 93 rfl (q_l32 _ rfl) dX12_mostAlike_92 ?_
          refine qr_iadd 93 94 rfl dX12_mostAlike_93 ?_
          refine qn_i 94 (fun x5_9 e_x5_9 => ?_)
          have h := h x5_9 e_x5_9
          refine qr_istore 94 96 rfl (by decide) rfl rfl dX12_mostAlike_94 ?_
          refine qr_iinc 96 99 rfl (by decide) (x := x6) rfl rfl rfl dX12_mostAlike_96 ?_
          refine qr_goto 99 44 (by decide) dX12_mostAlike_99 ?_
          exact h
        · have h := h.2 c85
          refine qr_iconst 88 89 rfl (q_l32 _ rfl) dX12_mostAlike_88 ?_
          refine qr_goto 89 93 (by decide) dX12_mostAlike_89 ?_
          refine qr_iadd 93 94 rfl dX12_mostAlike_93 ?_
          refine qn_i 94 (fun x5_10 e_x5_10 => ?_)
          have h := h x5_10 e_x5_10
          refine qr_istore 94 96 rfl (by decide) rfl rfl dX12_mostAlike_94 ?_
          refine qr_iinc 96 99 rfl (by decide) (x := x6) rfl rfl rfl dX12_mostAlike_96 ?_
          refine qr_goto 99 44 (by decide) dX12_mostAlike_99 ?_
          exact h
theorem dX12_ask_0 : decode cX12_ask 0 = .ok (.aload_n 0, 1) := by decide +kernel
theorem dX12_ask_1 : decode cX12_ask 1 = .ok (.iconst 0, 1) := by decide +kernel
theorem dX12_ask_2 : decode cX12_ask 2 = .ok (.putfield 1, 3) := by decide +kernel
theorem dX12_ask_5 : decode cX12_ask 5 = .ok (.aload_n 0, 1) := by decide +kernel
theorem dX12_ask_6 : decode cX12_ask 6 = .ok (.iload_n 1, 1) := by decide +kernel
theorem dX12_ask_7 : decode cX12_ask 7 = .ok (.invokevirtual 471, 3) := by decide +kernel
theorem dX12_ask_10 : decode cX12_ask 10 = .ok (.istore_n 2, 1) := by decide +kernel
theorem dX12_ask_11 : decode cX12_ask 11 = .ok (.iload_n 2, 1) := by decide +kernel
theorem dX12_ask_12 : decode cX12_ask 12 = .ok (.ifCond .eq 5, 3) := by decide +kernel
theorem dX12_ask_15 : decode cX12_ask 15 = .ok (.iload_n 2, 1) := by decide +kernel
theorem dX12_ask_16 : decode cX12_ask 16 = .ok (.ireturn, 1) := by decide +kernel
theorem dX12_ask_17 : decode cX12_ask 17 = .ok (.aload_n 0, 1) := by decide +kernel
theorem dX12_ask_18 : decode cX12_ask 18 = .ok (.iload_n 1, 1) := by decide +kernel
theorem dX12_ask_19 : decode cX12_ask 19 = .ok (.invokevirtual 474, 3) := by decide +kernel
theorem dX12_ask_22 : decode cX12_ask 22 = .ok (.istore_n 3, 1) := by decide +kernel
theorem dX12_ask_23 : decode cX12_ask 23 = .ok (.iconst (-1), 1) := by decide +kernel
theorem dX12_ask_24 : decode cX12_ask 24 = .ok (.istore 4, 2) := by decide +kernel
theorem dX12_ask_26 : decode cX12_ask 26 = .ok (.ldc_w 425, 3) := by decide +kernel
theorem dX12_ask_29 : decode cX12_ask 29 = .ok (.istore 5, 2) := by decide +kernel
theorem dX12_ask_31 : decode cX12_ask 31 = .ok (.iconst 0, 1) := by decide +kernel
theorem dX12_ask_32 : decode cX12_ask 32 = .ok (.istore 6, 2) := by decide +kernel
theorem dX12_ask_34 : decode cX12_ask 34 = .ok (.iload 6, 2) := by decide +kernel
theorem dX12_ask_36 : decode cX12_ask 36 = .ok (.aload_n 0, 1) := by decide +kernel
theorem dX12_ask_37 : decode cX12_ask 37 = .ok (.getfield 13, 3) := by decide +kernel
theorem dX12_ask_40 : decode cX12_ask 40 = .ok (.bipush 52, 2) := by decide +kernel
theorem dX12_ask_42 : decode cX12_ask 42 = .ok (.iaload, 1) := by decide +kernel
theorem dX12_ask_43 : decode cX12_ask 43 = .ok (.if_icmp .ge 40, 3) := by decide +kernel
theorem dX12_ask_46 : decode cX12_ask 46 = .ok (.iload_n 3, 1) := by decide +kernel
theorem dX12_ask_47 : decode cX12_ask 47 = .ok (.ifCond .eq 36, 3) := by decide +kernel
theorem dX12_ask_50 : decode cX12_ask 50 = .ok (.aload_n 0, 1) := by decide +kernel
theorem dX12_ask_51 : decode cX12_ask 51 = .ok (.iload_n 3, 1) := by decide +kernel
theorem dX12_ask_52 : decode cX12_ask 52 = .ok (.iload 6, 2) := by decide +kernel
theorem dX12_ask_54 : decode cX12_ask 54 = .ok (.invokevirtual 477, 3) := by decide +kernel
theorem dX12_ask_57 : decode cX12_ask 57 = .ok (.istore 7, 2) := by decide +kernel
theorem dX12_ask_59 : decode cX12_ask 59 = .ok (.iload 7, 2) := by decide +kernel
theorem dX12_ask_61 : decode cX12_ask 61 = .ok (.iload 5, 2) := by decide +kernel
theorem dX12_ask_63 : decode cX12_ask 63 = .ok (.if_icmp .lt 6, 3) := by decide +kernel
theorem dX12_ask_66 : decode cX12_ask 66 = .ok (.goto 11, 3) := by decide +kernel
theorem dX12_ask_69 : decode cX12_ask 69 = .ok (.iload 6, 2) := by decide +kernel
theorem dX12_ask_71 : decode cX12_ask 71 = .ok (.istore 4, 2) := by decide +kernel
theorem dX12_ask_73 : decode cX12_ask 73 = .ok (.iload 7, 2) := by decide +kernel
theorem dX12_ask_75 : decode cX12_ask 75 = .ok (.istore 5, 2) := by decide +kernel
theorem dX12_ask_77 : decode cX12_ask 77 = .ok (.iinc 6 1, 3) := by decide +kernel
theorem dX12_ask_80 : decode cX12_ask 80 = .ok (.goto (-46), 3) := by decide +kernel
theorem dX12_ask_83 : decode cX12_ask 83 = .ok (.iload 4, 2) := by decide +kernel
theorem dX12_ask_85 : decode cX12_ask 85 = .ok (.ireturn, 1) := by decide +kernel
theorem bX12_ask_0 {d : Nat} {P : Int → q_Mem → Prop} {M : q_Mem} (x1 : Int) (h : (∀ M1 : q_Mem, M1 = q_up M 178 0 0 → q_kI yX12_noWeighed mX12_noWeighed d [qR 178, qI x1] M1 (fun v3 M2 => ((v3 = 0) → q_kI yX12_warmthsOf mX12_warmthsOf d [qR 178, qI x1] M2 (fun v5 M4 => q_v mX12_ask d (qPI P) M4 34 [some (qR 178), none, none, some (qI v5), some (qI (-1)), some (qI 1073741824), some (qI 0), none] [])) ∧ ((¬ (v3 = 0)) → P v3 M2)))) : q_v mX12_ask d (qPI P) M 0 [some (qR 178), some (qI x1), none, none, none, none, none, none] [] := by
  refine qr_aload_n 0 1 rfl (x := 178) rfl dX12_ask_0 ?_
  refine qr_iconst 1 2 rfl (q_l32 _ rfl) dX12_ask_1 ?_
  refine qp_i 2 5 rfl ck12 0 (kk := 0) (by decide) (by decide +kernel) (by decide) rfl rfl wm_1326 rfl dX12_ask_2 (fun M1 e_M1 => ?_)
  have h := h M1 e_M1
  refine qr_aload_n 5 6 rfl (x := 178) rfl dX12_ask_5 ?_
  refine qr_iload_n 6 7 rfl (x := x1) rfl dX12_ask_6 ?_
  refine qw_I 7 10 rfl (av := [qI x1]) ca_X12_noWeighed wm_1973 wp_147 wm_1971 ck12 (by decide +kernel) rfl rfl (Nat.le_of_ble_eq_true rfl) dX12_ask_7 h (fun v3 M2 h => ?_)
  refine qr_istore_n 10 11 rfl (by decide) rfl rfl dX12_ask_10 ?_
  refine qr_iload_n 11 12 rfl (x := v3) rfl dX12_ask_11 ?_
  refine qr_if_eq 12 15 17 rfl (by decide) dX12_ask_12 (fun c12 => ?_) (fun c12 => ?_)
  · have h := h.1 c12
    refine qr_aload_n 17 18 rfl (x := 178) rfl dX12_ask_17 ?_
    refine qr_iload_n 18 19 rfl (x := x1) rfl dX12_ask_18 ?_
    refine qw_I 19 22 rfl (av := [qI x1]) ca_X12_warmthsOf wm_1978 wp_148 wm_1976 ck12 (by decide +kernel) rfl rfl (Nat.le_of_ble_eq_true rfl) dX12_ask_19 h (fun v5 M4 h => ?_)
    refine qr_istore_n 22 23 rfl (by decide) rfl rfl dX12_ask_22 ?_
    refine qr_iconst 23 24 rfl (q_l32 _ rfl) dX12_ask_23 ?_
    refine qr_istore 24 26 rfl (by decide) rfl rfl dX12_ask_24 ?_
    refine qr_ldc_w 26 29 rfl (v := 1073741824) (q_l32 _ rfl) wm_1760 dX12_ask_26 ?_
    refine qr_istore 29 31 rfl (by decide) rfl rfl dX12_ask_29 ?_
    refine qr_iconst 31 32 rfl (q_l32 _ rfl) dX12_ask_31 ?_
    refine qr_istore 32 34 rfl (by decide) rfl rfl dX12_ask_32 ?_
    exact qr_cut 34 (ls' := [some (qR 178), none, none, some (qI v5), some (qI (-1)), some (qI 1073741824), some (qI 0), none]) (And.intro rfl (And.intro rfl (And.intro rfl (And.intro rfl (And.intro rfl trivial))))) h
  · have h := h.2 c12
    refine qr_iload_n 15 16 rfl (x := v3) rfl dX12_ask_15 ?_
    exact qe_i 16 rfl dX12_ask_16 h
theorem bX12_ask_34 {d : Nat} {P : Int → q_Mem → Prop} {M : q_Mem} (x3 x4 x5 x6 : Int) (h : ((((M 179 52) ≤ x6) → P x4 M) ∧ ((¬ ((M 179 52) ≤ x6)) → ((x3 = 0) → P x4 M) ∧ ((¬ (x3 = 0)) → q_kI yX12_mostAlike mX12_mostAlike d [qR 178, qI x3, qI x6] M (fun v2 M1 => ((v2 < x5) → q_v mX12_ask d (qPI P) M1 34 [some (qR 178), none, none, some (qI x3), some (qI x6), some (qI v2), some (qI (q_add x6 1)), none] []) ∧ ((¬ (v2 < x5)) → q_v mX12_ask d (qPI P) M1 34 [some (qR 178), none, none, some (qI x3), some (qI x4), some (qI x5), some (qI (q_add x6 1)), none] [])))))) : q_v mX12_ask d (qPI P) M 34 [some (qR 178), none, none, some (qI x3), some (qI x4), some (qI x5), some (qI x6), none] [] := by
  refine qr_iload 34 36 rfl (x := x6) rfl dX12_ask_34 ?_
  refine qr_aload_n 36 37 rfl (x := 178) rfl dX12_ask_36 ?_
  refine qr_getF 37 40 rfl ck12 1 (by decide) (b := 179) (by decide +kernel) rfl (by decide +kernel) (by decide +kernel) wm_1327 rfl dX12_ask_37 ?_
  refine qr_bipush 40 42 rfl (q_l32 _ rfl) (by decide) dX12_ask_40 ?_
  refine qi_ld 42 43 rfl (N := 4512) (by decide +kernel) (by decide +kernel) (by decide) (by decide) dX12_ask_42 ?_
  refine qr_icmp_ge 43 46 83 rfl (by decide) dX12_ask_43 (fun c43 => ?_) (fun c43 => ?_)
  · have h := h.1 c43
    refine qr_iload 83 85 rfl (x := x4) rfl dX12_ask_83 ?_
    exact qe_i 85 rfl dX12_ask_85 h
  · have h := h.2 c43
    refine qr_iload_n 46 47 rfl (x := x3) rfl dX12_ask_46 ?_
    refine qr_if_eq 47 50 83 rfl (by decide) dX12_ask_47 (fun c47 => ?_) (fun c47 => ?_)
    · have h := h.1 c47
      refine qr_iload 83 85 rfl (x := x4) rfl dX12_ask_83 ?_
      exact qe_i 85 rfl dX12_ask_85 h
    · have h := h.2 c47
      refine qr_aload_n 50 51 rfl (x := 178) rfl dX12_ask_50 ?_
      refine qr_iload_n 51 52 rfl (x := x3) rfl dX12_ask_51 ?_
      refine qr_iload 52 54 rfl (x := x6) rfl dX12_ask_52 ?_
      refine qw_I 54 57 rfl (av := [qI x3, qI x6]) ca_X12_mostAlike wm_1986 wp_149 wm_1984 ck12 (by decide +kernel) rfl rfl (Nat.le_of_ble_eq_true rfl) dX12_ask_54 h (fun v2 M1 h => ?_)
      refine qr_istore 57 59 rfl (by decide) rfl rfl dX12_ask_57 ?_
      refine qr_iload 59 61 rfl (x := v2) rfl dX12_ask_59 ?_
      refine qr_iload 61 63 rfl (x := x5) rfl dX12_ask_61 ?_
      refine qr_icmp_lt 63 66 69 rfl (by decide) dX12_ask_63 (fun c63 => ?_) (fun c63 => ?_)
      · have h := h.1 c63
        refine qr_iload 69 71 rfl (x := x6) rfl dX12_ask_69 ?_
        refine qr_istore 71 73 rfl (by decide) rfl rfl dX12_ask_71 ?_
        refine qr_iload 73 75 rfl (x := v2) rfl dX12_ask_73 ?_
        refine qr_istore 75 77 rfl (by decide) rfl rfl dX12_ask_75 ?_
        refine qr_iinc 77 80 rfl (by decide) (x := x6) rfl rfl rfl dX12_ask_77 ?_
        refine qr_goto 80 34 (by decide) dX12_ask_80 ?_
        exact qr_cut 34 (ls' := [some (qR 178), none, none, some (qI x3), some (qI x6), some (qI v2), some (qI (q_add x6 1)), none]) (And.intro rfl (And.intro rfl (And.intro rfl (And.intro rfl (And.intro rfl trivial))))) h
      · have h := h.2 c63
        refine qr_goto 66 77 (by decide) dX12_ask_66 ?_
        refine qr_iinc 77 80 rfl (by decide) (x := x6) rfl rfl rfl dX12_ask_77 ?_
        refine qr_goto 80 34 (by decide) dX12_ask_80 ?_
        exact qr_cut 34 (ls' := [some (qR 178), none, none, some (qI x3), some (qI x4), some (qI x5), some (qI (q_add x6 1)), none]) (And.intro rfl (And.intro rfl (And.intro rfl (And.intro rfl (And.intro rfl trivial))))) h
theorem dX12_laysLots_0 : decode cX12_laysLots 0 = .ok (.aload_n 0, 1) := by decide +kernel
theorem dX12_laysLots_1 : decode cX12_laysLots 1 = .ok (.invokevirtual 459, 3) := by decide +kernel
theorem dX12_laysLots_4 : decode cX12_laysLots 4 = .ok (.iconst 0, 1) := by decide +kernel
theorem dX12_laysLots_5 : decode cX12_laysLots 5 = .ok (.istore_n 2, 1) := by decide +kernel
theorem dX12_laysLots_6 : decode cX12_laysLots 6 = .ok (.iload_n 2, 1) := by decide +kernel
theorem dX12_laysLots_7 : decode cX12_laysLots 7 = .ok (.aload_n 0, 1) := by decide +kernel
theorem dX12_laysLots_8 : decode cX12_laysLots 8 = .ok (.getfield 450, 3) := by decide +kernel
theorem dX12_laysLots_11 : decode cX12_laysLots 11 = .ok (.if_icmp .ge 30, 3) := by decide +kernel
theorem dX12_laysLots_14 : decode cX12_laysLots 14 = .ok (.aload_n 0, 1) := by decide +kernel
theorem dX12_laysLots_15 : decode cX12_laysLots 15 = .ok (.getfield 91, 3) := by decide +kernel
theorem dX12_laysLots_18 : decode cX12_laysLots 18 = .ok (.iload_n 2, 1) := by decide +kernel
theorem dX12_laysLots_19 : decode cX12_laysLots 19 = .ok (.iload_n 2, 1) := by decide +kernel
theorem dX12_laysLots_20 : decode cX12_laysLots 20 = .ok (.aload_n 0, 1) := by decide +kernel
theorem dX12_laysLots_21 : decode cX12_laysLots 21 = .ok (.getfield 13, 3) := by decide +kernel
theorem dX12_laysLots_24 : decode cX12_laysLots 24 = .ok (.iconst 2, 1) := by decide +kernel
theorem dX12_laysLots_25 : decode cX12_laysLots 25 = .ok (.iaload, 1) := by decide +kernel
theorem dX12_laysLots_26 : decode cX12_laysLots 26 = .ok (.if_icmp .ne 7, 3) := by decide +kernel
theorem dX12_laysLots_29 : decode cX12_laysLots 29 = .ok (.lconst 1, 1) := by decide +kernel
theorem dX12_laysLots_30 : decode cX12_laysLots 30 = .ok (.goto 4, 3) := by decide +kernel
theorem dX12_laysLots_33 : decode cX12_laysLots 33 = .ok (.lconst 0, 1) := by decide +kernel
theorem dX12_laysLots_34 : decode cX12_laysLots 34 = .ok (.lastore, 1) := by decide +kernel
theorem dX12_laysLots_35 : decode cX12_laysLots 35 = .ok (.iinc 2 1, 3) := by decide +kernel
theorem dX12_laysLots_38 : decode cX12_laysLots 38 = .ok (.goto (-32), 3) := by decide +kernel
theorem dX12_laysLots_41 : decode cX12_laysLots 41 = .ok (.iconst 0, 1) := by decide +kernel
theorem dX12_laysLots_42 : decode cX12_laysLots 42 = .ok (.istore_n 2, 1) := by decide +kernel
theorem dX12_laysLots_43 : decode cX12_laysLots 43 = .ok (.iload_n 2, 1) := by decide +kernel
theorem dX12_laysLots_44 : decode cX12_laysLots 44 = .ok (.iload_n 1, 1) := by decide +kernel
theorem dX12_laysLots_45 : decode cX12_laysLots 45 = .ok (.if_icmp .ge 118, 3) := by decide +kernel
theorem dX12_laysLots_48 : decode cX12_laysLots 48 = .ok (.iconst 0, 1) := by decide +kernel
theorem dX12_laysLots_49 : decode cX12_laysLots 49 = .ok (.istore_n 3, 1) := by decide +kernel
theorem dX12_laysLots_50 : decode cX12_laysLots 50 = .ok (.iload_n 3, 1) := by decide +kernel
theorem dX12_laysLots_51 : decode cX12_laysLots 51 = .ok (.aload_n 0, 1) := by decide +kernel
theorem dX12_laysLots_52 : decode cX12_laysLots 52 = .ok (.getfield 450, 3) := by decide +kernel
theorem dX12_laysLots_55 : decode cX12_laysLots 55 = .ok (.if_icmp .ge 74, 3) := by decide +kernel
theorem dX12_laysLots_58 : decode cX12_laysLots 58 = .ok (.aload_n 0, 1) := by decide +kernel
theorem dX12_laysLots_59 : decode cX12_laysLots 59 = .ok (.getfield 95, 3) := by decide +kernel
theorem dX12_laysLots_62 : decode cX12_laysLots 62 = .ok (.iload_n 3, 1) := by decide +kernel
theorem dX12_laysLots_63 : decode cX12_laysLots 63 = .ok (.aload_n 0, 1) := by decide +kernel
theorem dX12_laysLots_64 : decode cX12_laysLots 64 = .ok (.getfield 91, 3) := by decide +kernel
theorem dX12_laysLots_67 : decode cX12_laysLots 67 = .ok (.iload_n 3, 1) := by decide +kernel
theorem dX12_laysLots_68 : decode cX12_laysLots 68 = .ok (.laload, 1) := by decide +kernel
theorem dX12_laysLots_69 : decode cX12_laysLots 69 = .ok (.bipush 10, 2) := by decide +kernel
theorem dX12_laysLots_71 : decode cX12_laysLots 71 = .ok (.aload_n 0, 1) := by decide +kernel
theorem dX12_laysLots_72 : decode cX12_laysLots 72 = .ok (.getfield 13, 3) := by decide +kernel
theorem dX12_laysLots_75 : decode cX12_laysLots 75 = .ok (.bipush 51, 2) := by decide +kernel
theorem dX12_laysLots_77 : decode cX12_laysLots 77 = .ok (.iaload, 1) := by decide +kernel
theorem dX12_laysLots_78 : decode cX12_laysLots 78 = .ok (.isub, 1) := by decide +kernel
theorem dX12_laysLots_79 : decode cX12_laysLots 79 = .ok (.i2l, 1) := by decide +kernel
theorem dX12_laysLots_80 : decode cX12_laysLots 80 = .ok (.lmul, 1) := by decide +kernel
theorem dX12_laysLots_81 : decode cX12_laysLots 81 = .ok (.lastore, 1) := by decide +kernel
theorem dX12_laysLots_82 : decode cX12_laysLots 82 = .ok (.iconst 0, 1) := by decide +kernel
theorem dX12_laysLots_83 : decode cX12_laysLots 83 = .ok (.istore 4, 2) := by decide +kernel
theorem dX12_laysLots_85 : decode cX12_laysLots 85 = .ok (.iload 4, 2) := by decide +kernel
theorem dX12_laysLots_87 : decode cX12_laysLots 87 = .ok (.aload_n 0, 1) := by decide +kernel
theorem dX12_laysLots_88 : decode cX12_laysLots 88 = .ok (.getfield 13, 3) := by decide +kernel
theorem dX12_laysLots_91 : decode cX12_laysLots 91 = .ok (.bipush 51, 2) := by decide +kernel
theorem dX12_laysLots_93 : decode cX12_laysLots 93 = .ok (.iaload, 1) := by decide +kernel
theorem dX12_laysLots_94 : decode cX12_laysLots 94 = .ok (.if_icmp .ge 29, 3) := by decide +kernel
theorem dX12_laysLots_97 : decode cX12_laysLots 97 = .ok (.aload_n 0, 1) := by decide +kernel
theorem dX12_laysLots_98 : decode cX12_laysLots 98 = .ok (.getfield 95, 3) := by decide +kernel
theorem dX12_laysLots_101 : decode cX12_laysLots 101 = .ok (.iload_n 3, 1) := by decide +kernel
theorem dX12_laysLots_102 : decode cX12_laysLots 102 = .ok (.dup2, 1) := by decide +kernel
theorem dX12_laysLots_103 : decode cX12_laysLots 103 = .ok (.laload, 1) := by decide +kernel
theorem dX12_laysLots_104 : decode cX12_laysLots 104 = .ok (.aload_n 0, 1) := by decide +kernel
theorem dX12_laysLots_105 : decode cX12_laysLots 105 = .ok (.getfield 91, 3) := by decide +kernel
theorem dX12_laysLots_108 : decode cX12_laysLots 108 = .ok (.iload_n 3, 1) := by decide +kernel
theorem dX12_laysLots_109 : decode cX12_laysLots 109 = .ok (.iconst 1, 1) := by decide +kernel
theorem dX12_laysLots_110 : decode cX12_laysLots 110 = .ok (.iload 4, 2) := by decide +kernel
theorem dX12_laysLots_112 : decode cX12_laysLots 112 = .ok (.ishl, 1) := by decide +kernel
theorem dX12_laysLots_113 : decode cX12_laysLots 113 = .ok (.ixor, 1) := by decide +kernel
theorem dX12_laysLots_114 : decode cX12_laysLots 114 = .ok (.laload, 1) := by decide +kernel
theorem dX12_laysLots_115 : decode cX12_laysLots 115 = .ok (.ladd, 1) := by decide +kernel
theorem dX12_laysLots_116 : decode cX12_laysLots 116 = .ok (.lastore, 1) := by decide +kernel
theorem dX12_laysLots_117 : decode cX12_laysLots 117 = .ok (.iinc 4 1, 3) := by decide +kernel
theorem dX12_laysLots_120 : decode cX12_laysLots 120 = .ok (.goto (-35), 3) := by decide +kernel
theorem dX12_laysLots_123 : decode cX12_laysLots 123 = .ok (.iinc 3 1, 3) := by decide +kernel
theorem dX12_laysLots_126 : decode cX12_laysLots 126 = .ok (.goto (-76), 3) := by decide +kernel
theorem dX12_laysLots_129 : decode cX12_laysLots 129 = .ok (.iconst 0, 1) := by decide +kernel
theorem dX12_laysLots_130 : decode cX12_laysLots 130 = .ok (.istore_n 3, 1) := by decide +kernel
theorem dX12_laysLots_131 : decode cX12_laysLots 131 = .ok (.iload_n 3, 1) := by decide +kernel
theorem dX12_laysLots_132 : decode cX12_laysLots 132 = .ok (.aload_n 0, 1) := by decide +kernel
theorem dX12_laysLots_133 : decode cX12_laysLots 133 = .ok (.getfield 450, 3) := by decide +kernel
theorem dX12_laysLots_136 : decode cX12_laysLots 136 = .ok (.if_icmp .ge 21, 3) := by decide +kernel
theorem dX12_laysLots_139 : decode cX12_laysLots 139 = .ok (.aload_n 0, 1) := by decide +kernel
theorem dX12_laysLots_140 : decode cX12_laysLots 140 = .ok (.getfield 91, 3) := by decide +kernel
theorem dX12_laysLots_143 : decode cX12_laysLots 143 = .ok (.iload_n 3, 1) := by decide +kernel
theorem dX12_laysLots_144 : decode cX12_laysLots 144 = .ok (.aload_n 0, 1) := by decide +kernel
theorem dX12_laysLots_145 : decode cX12_laysLots 145 = .ok (.getfield 95, 3) := by decide +kernel
theorem dX12_laysLots_148 : decode cX12_laysLots 148 = .ok (.iload_n 3, 1) := by decide +kernel
theorem dX12_laysLots_149 : decode cX12_laysLots 149 = .ok (.laload, 1) := by decide +kernel
theorem dX12_laysLots_150 : decode cX12_laysLots 150 = .ok (.lastore, 1) := by decide +kernel
theorem dX12_laysLots_151 : decode cX12_laysLots 151 = .ok (.iinc 3 1, 3) := by decide +kernel
theorem dX12_laysLots_154 : decode cX12_laysLots 154 = .ok (.goto (-23), 3) := by decide +kernel
theorem dX12_laysLots_157 : decode cX12_laysLots 157 = .ok (.iinc 2 1, 3) := by decide +kernel
theorem dX12_laysLots_160 : decode cX12_laysLots 160 = .ok (.goto (-117), 3) := by decide +kernel
theorem dX12_laysLots_163 : decode cX12_laysLots 163 = .ok (.return_, 1) := by decide +kernel
theorem bX12_laysLots_0 {d : Nat} {P : q_Mem → Prop} {M : q_Mem} (x1 : Int) (h : q_kU yX12_laysWorths mX12_laysWorths d [qR 178] M (fun M1 => q_v mX12_laysLots d (qPU P) M1 6 [some (qR 178), some (qI x1), some (qI 0), none, none] [])) : q_v mX12_laysLots d (qPU P) M 0 [some (qR 178), some (qI x1), none, none, none] [] := by
  refine qr_aload_n 0 1 rfl (x := 178) rfl dX12_laysLots_0 ?_
  refine qw_U 1 4 rfl (av := []) ca_X12_laysWorths wm_1937 wp_144 wm_1935 ck12 (by decide +kernel) rfl rfl (Nat.le_of_ble_eq_true rfl) dX12_laysLots_1 h (fun M1 h => ?_)
  refine qr_iconst 4 5 rfl (q_l32 _ rfl) dX12_laysLots_4 ?_
  refine qr_istore_n 5 6 rfl (by decide) rfl rfl dX12_laysLots_5 ?_
  exact h
theorem bX12_laysLots_6 {d : Nat} {P : q_Mem → Prop} {M : q_Mem} (x1 x2 : Int) (h : (((M 178 39) ≤ x2) → q_v mX12_laysLots d (qPU P) M 43 [some (qR 178), some (qI x1), some (qI 0), none, none] []) ∧ ((¬ ((M 178 39) ≤ x2)) → (((¬ x2 = (M 179 2)) → (0 ≤ x2 ∧ x2 < (1024 : Int)) ∧ (∀ M2 : q_Mem, M2 = q_up M 203 x2 0 → q_v mX12_laysLots d (qPU P) M2 6 [some (qR 178), some (qI x1), some (qI (q_add x2 1)), none, none] [])) ∧ ((x2 = (M 179 2)) → (0 ≤ x2 ∧ x2 < (1024 : Int)) ∧ (∀ M4 : q_Mem, M4 = q_up M 203 x2 1 → q_v mX12_laysLots d (qPU P) M4 6 [some (qR 178), some (qI x1), some (qI (q_add x2 1)), none, none] []))))) : q_v mX12_laysLots d (qPU P) M 6 [some (qR 178), some (qI x1), some (qI x2), none, none] [] := by
  refine qr_iload_n 6 7 rfl (x := x2) rfl dX12_laysLots_6 ?_
  refine qr_aload_n 7 8 rfl (x := 178) rfl dX12_laysLots_7 ?_
  refine qg_i 8 11 rfl ck12 39 (kk := 39) (by decide) (by decide +kernel) (by decide +kernel) rfl wm_1365 rfl dX12_laysLots_8 ?_
  refine qr_icmp_ge 11 14 41 rfl (by decide) dX12_laysLots_11 (fun c11 => ?_) (fun c11 => ?_)
  · have h := h.1 c11
    refine qr_iconst 41 42 rfl (q_l32 _ rfl) dX12_laysLots_41 ?_
    refine qr_istore_n 42 43 rfl (by decide) rfl rfl dX12_laysLots_42 ?_
    exact h
  · have h := h.2 c11
    refine qr_aload_n 14 15 rfl (x := 178) rfl dX12_laysLots_14 ?_
    refine qr_getF 15 18 rfl ck12 43 (by decide) (b := 203) (by decide +kernel) rfl (by decide +kernel) (by decide +kernel) wm_1369 rfl dX12_laysLots_15 ?_
    refine qr_iload_n 18 19 rfl (x := x2) rfl dX12_laysLots_18 ?_
    refine qr_iload_n 19 20 rfl (x := x2) rfl dX12_laysLots_19 ?_
    refine qr_aload_n 20 21 rfl (x := 178) rfl dX12_laysLots_20 ?_
    refine qr_getF 21 24 rfl ck12 1 (by decide) (b := 179) (by decide +kernel) rfl (by decide +kernel) (by decide +kernel) wm_1327 rfl dX12_laysLots_21 ?_
    refine qr_iconst 24 25 rfl (q_l32 _ rfl) dX12_laysLots_24 ?_
    refine qi_ld 25 26 rfl (N := 4512) (by decide +kernel) (by decide +kernel) (by decide) (by decide) dX12_laysLots_25 ?_
    refine qr_icmp_ne 26 29 33 rfl (by decide) dX12_laysLots_26 (fun c26 => ?_) (fun c26 => ?_)
    · have h := h.1 c26
      refine qr_lconst 33 34 rfl (w := 0) (q_l64 _ rfl) (by decide) dX12_laysLots_33 ?_
      have hb1 := h.1
      have h := h.2
      refine ql_st 34 35 rfl (N := 1024) (by decide +kernel) (by decide +kernel) hb1.1 hb1.2 dX12_laysLots_34 (fun M2 e_M2 => ?_)
      have h := h M2 e_M2
      refine qr_iinc 35 38 rfl (by decide) (x := x2) rfl rfl rfl dX12_laysLots_35 ?_
      refine qr_goto 38 6 (by decide) dX12_laysLots_38 ?_
      exact h
    · have h := h.2 c26
      refine qr_lconst 29 30 rfl (w := 1) (q_l64 _ rfl) (by decide) dX12_laysLots_29 ?_
      refine qr_goto 30 34 (by decide) dX12_laysLots_30 ?_
      have hb3 := h.1
      have h := h.2
      refine ql_st 34 35 rfl (N := 1024) (by decide +kernel) (by decide +kernel) hb3.1 hb3.2 dX12_laysLots_34 (fun M4 e_M4 => ?_)
      have h := h M4 e_M4
      refine qr_iinc 35 38 rfl (by decide) (x := x2) rfl rfl rfl dX12_laysLots_35 ?_
      refine qr_goto 38 6 (by decide) dX12_laysLots_38 ?_
      exact h
theorem bX12_laysLots_43 {d : Nat} {P : q_Mem → Prop} {M : q_Mem} (x1 x2 : Int) (h : ((x1 ≤ x2) → P M) ∧ ((¬ (x1 ≤ x2)) → q_v mX12_laysLots d (qPU P) M 50 [some (qR 178), some (qI x1), some (qI x2), some (qI 0), none] [])) : q_v mX12_laysLots d (qPU P) M 43 [some (qR 178), some (qI x1), some (qI x2), none, none] [] := by
  refine qr_iload_n 43 44 rfl (x := x2) rfl dX12_laysLots_43 ?_
  refine qr_iload_n 44 45 rfl (x := x1) rfl dX12_laysLots_44 ?_
  refine qr_icmp_ge 45 48 163 rfl (by decide) dX12_laysLots_45 (fun c45 => ?_) (fun c45 => ?_)
  · have h := h.1 c45
    exact qe_u 163 rfl dX12_laysLots_163 h
  · have h := h.2 c45
    refine qr_iconst 48 49 rfl (q_l32 _ rfl) dX12_laysLots_48 ?_
    refine qr_istore_n 49 50 rfl (by decide) rfl rfl dX12_laysLots_49 ?_
    exact h
theorem bX12_laysLots_50 {d : Nat} {P : q_Mem → Prop} {M : q_Mem} (x1 x2 x3 : Int) (h : (((M 178 39) ≤ x3) → q_v mX12_laysLots d (qPU P) M 131 [some (qR 178), some (qI x1), some (qI x2), some (qI 0), none] []) ∧ ((¬ ((M 178 39) ≤ x3)) → (0 ≤ x3 ∧ x3 < (1024 : Int)) ∧ (((0 ≤ x3 ∧ x3 < (1024 : Int)) ∧ (∀ M3 : q_Mem, M3 = q_up M 204 x3 (q_lmul (M 203 x3) (q_sub 10 (M 179 51))) → q_v mX12_laysLots d (qPU P) M3 85 [some (qR 178), some (qI x1), some (qI x2), some (qI x3), some (qI 0)] []))))) : q_v mX12_laysLots d (qPU P) M 50 [some (qR 178), some (qI x1), some (qI x2), some (qI x3), none] [] := by
  refine qr_iload_n 50 51 rfl (x := x3) rfl dX12_laysLots_50 ?_
  refine qr_aload_n 51 52 rfl (x := 178) rfl dX12_laysLots_51 ?_
  refine qg_i 52 55 rfl ck12 39 (kk := 39) (by decide) (by decide +kernel) (by decide +kernel) rfl wm_1365 rfl dX12_laysLots_52 ?_
  refine qr_icmp_ge 55 58 129 rfl (by decide) dX12_laysLots_55 (fun c55 => ?_) (fun c55 => ?_)
  · have h := h.1 c55
    refine qr_iconst 129 130 rfl (q_l32 _ rfl) dX12_laysLots_129 ?_
    refine qr_istore_n 130 131 rfl (by decide) rfl rfl dX12_laysLots_130 ?_
    exact h
  · have h := h.2 c55
    refine qr_aload_n 58 59 rfl (x := 178) rfl dX12_laysLots_58 ?_
    refine qr_getF 59 62 rfl ck12 44 (by decide) (b := 204) (by decide +kernel) rfl (by decide +kernel) (by decide +kernel) wm_1370 rfl dX12_laysLots_59 ?_
    refine qr_iload_n 62 63 rfl (x := x3) rfl dX12_laysLots_62 ?_
    refine qr_aload_n 63 64 rfl (x := 178) rfl dX12_laysLots_63 ?_
    refine qr_getF 64 67 rfl ck12 43 (by decide) (b := 203) (by decide +kernel) rfl (by decide +kernel) (by decide +kernel) wm_1369 rfl dX12_laysLots_64 ?_
    refine qr_iload_n 67 68 rfl (x := x3) rfl dX12_laysLots_67 ?_
    have hb1 := h.1
    have h := h.2
    refine ql_ld 68 69 rfl (N := 1024) (by decide +kernel) (by decide +kernel) hb1.1 hb1.2 dX12_laysLots_68 ?_
    refine qr_bipush 69 71 rfl (q_l32 _ rfl) (by decide) dX12_laysLots_69 ?_
    refine qr_aload_n 71 72 rfl (x := 178) rfl dX12_laysLots_71 ?_
    refine qr_getF 72 75 rfl ck12 1 (by decide) (b := 179) (by decide +kernel) rfl (by decide +kernel) (by decide +kernel) wm_1327 rfl dX12_laysLots_72 ?_
    refine qr_bipush 75 77 rfl (q_l32 _ rfl) (by decide) dX12_laysLots_75 ?_
    refine qi_ld 77 78 rfl (N := 4512) (by decide +kernel) (by decide +kernel) (by decide) (by decide) dX12_laysLots_77 ?_
    refine qr_isub 78 79 rfl dX12_laysLots_78 ?_
    refine qr_i2l 79 80 rfl dX12_laysLots_79 ?_
    refine qr_lmul 80 81 rfl dX12_laysLots_80 ?_
    have hb2 := h.1
    have h := h.2
    refine ql_st 81 82 rfl (N := 1024) (by decide +kernel) (by decide +kernel) hb2.1 hb2.2 dX12_laysLots_81 (fun M3 e_M3 => ?_)
    have h := h M3 e_M3
    refine qr_iconst 82 83 rfl (q_l32 _ rfl) dX12_laysLots_82 ?_
    refine qr_istore 83 85 rfl (by decide) rfl rfl dX12_laysLots_83 ?_
    exact h
theorem bX12_laysLots_85 {d : Nat} {P : q_Mem → Prop} {M : q_Mem} (x1 x2 x3 x4 : Int) (h : ((((M 179 51) ≤ x4) → q_v mX12_laysLots d (qPU P) M 50 [some (qR 178), some (qI x1), some (qI x2), some (qI (q_add x3 1)), none] []) ∧ ((¬ ((M 179 51) ≤ x4)) → (0 ≤ x3 ∧ x3 < (1024 : Int)) ∧ ((0 ≤ (q_xor x3 (q_shl 1 x4)) ∧ (q_xor x3 (q_shl 1 x4)) < (1024 : Int)) ∧ ((0 ≤ x3 ∧ x3 < (1024 : Int)) ∧ (∀ M4 : q_Mem, M4 = q_up M 204 x3 (q_ladd (M 204 x3) (M 203 (q_xor x3 (q_shl 1 x4)))) → q_v mX12_laysLots d (qPU P) M4 85 [some (qR 178), some (qI x1), some (qI x2), some (qI x3), some (qI (q_add x4 1))] [])))))) : q_v mX12_laysLots d (qPU P) M 85 [some (qR 178), some (qI x1), some (qI x2), some (qI x3), some (qI x4)] [] := by
  refine qr_iload 85 87 rfl (x := x4) rfl dX12_laysLots_85 ?_
  refine qr_aload_n 87 88 rfl (x := 178) rfl dX12_laysLots_87 ?_
  refine qr_getF 88 91 rfl ck12 1 (by decide) (b := 179) (by decide +kernel) rfl (by decide +kernel) (by decide +kernel) wm_1327 rfl dX12_laysLots_88 ?_
  refine qr_bipush 91 93 rfl (q_l32 _ rfl) (by decide) dX12_laysLots_91 ?_
  refine qi_ld 93 94 rfl (N := 4512) (by decide +kernel) (by decide +kernel) (by decide) (by decide) dX12_laysLots_93 ?_
  refine qr_icmp_ge 94 97 123 rfl (by decide) dX12_laysLots_94 (fun c94 => ?_) (fun c94 => ?_)
  · have h := h.1 c94
    refine qr_iinc 123 126 rfl (by decide) (x := x3) rfl rfl rfl dX12_laysLots_123 ?_
    refine qr_goto 126 50 (by decide) dX12_laysLots_126 ?_
    exact qr_cut 50 (ls' := [some (qR 178), some (qI x1), some (qI x2), some (qI (q_add x3 1)), none]) (And.intro rfl (And.intro rfl (And.intro rfl (And.intro rfl trivial)))) h
  · have h := h.2 c94
    refine qr_aload_n 97 98 rfl (x := 178) rfl dX12_laysLots_97 ?_
    refine qr_getF 98 101 rfl ck12 44 (by decide) (b := 204) (by decide +kernel) rfl (by decide +kernel) (by decide +kernel) wm_1370 rfl dX12_laysLots_98 ?_
    refine qr_iload_n 101 102 rfl (x := x3) rfl dX12_laysLots_101 ?_
    refine qr_dup2 102 103 rfl rfl rfl dX12_laysLots_102 ?_
    have hb1 := h.1
    have h := h.2
    refine ql_ld 103 104 rfl (N := 1024) (by decide +kernel) (by decide +kernel) hb1.1 hb1.2 dX12_laysLots_103 ?_
    refine qr_aload_n 104 105 rfl (x := 178) rfl dX12_laysLots_104 ?_
    refine qr_getF 105 108 rfl ck12 43 (by decide) (b := 203) (by decide +kernel) rfl (by decide +kernel) (by decide +kernel) wm_1369 rfl dX12_laysLots_105 ?_
    refine qr_iload_n 108 109 rfl (x := x3) rfl dX12_laysLots_108 ?_
    refine qr_iconst 109 110 rfl (q_l32 _ rfl) dX12_laysLots_109 ?_
    refine qr_iload 110 112 rfl (x := x4) rfl dX12_laysLots_110 ?_
    refine qr_ishl 112 113 rfl dX12_laysLots_112 ?_
    refine qr_ixor 113 114 rfl dX12_laysLots_113 ?_
    have hb2 := h.1
    have h := h.2
    refine ql_ld 114 115 rfl (N := 1024) (by decide +kernel) (by decide +kernel) hb2.1 hb2.2 dX12_laysLots_114 ?_
    refine qr_ladd 115 116 rfl dX12_laysLots_115 ?_
    have hb3 := h.1
    have h := h.2
    refine ql_st 116 117 rfl (N := 1024) (by decide +kernel) (by decide +kernel) hb3.1 hb3.2 dX12_laysLots_116 (fun M4 e_M4 => ?_)
    have h := h M4 e_M4
    refine qr_iinc 117 120 rfl (by decide) (x := x4) rfl rfl rfl dX12_laysLots_117 ?_
    refine qr_goto 120 85 (by decide) dX12_laysLots_120 ?_
    exact h
theorem bX12_laysLots_131 {d : Nat} {P : q_Mem → Prop} {M : q_Mem} (x1 x2 x3 : Int) (h : (((M 178 39) ≤ x3) → q_v mX12_laysLots d (qPU P) M 43 [some (qR 178), some (qI x1), some (qI (q_add x2 1)), none, none] []) ∧ ((¬ ((M 178 39) ≤ x3)) → (0 ≤ x3 ∧ x3 < (1024 : Int)) ∧ ((0 ≤ x3 ∧ x3 < (1024 : Int)) ∧ (∀ M3 : q_Mem, M3 = q_up M 203 x3 (M 204 x3) → q_v mX12_laysLots d (qPU P) M3 131 [some (qR 178), some (qI x1), some (qI x2), some (qI (q_add x3 1)), none] [])))) : q_v mX12_laysLots d (qPU P) M 131 [some (qR 178), some (qI x1), some (qI x2), some (qI x3), none] [] := by
  refine qr_iload_n 131 132 rfl (x := x3) rfl dX12_laysLots_131 ?_
  refine qr_aload_n 132 133 rfl (x := 178) rfl dX12_laysLots_132 ?_
  refine qg_i 133 136 rfl ck12 39 (kk := 39) (by decide) (by decide +kernel) (by decide +kernel) rfl wm_1365 rfl dX12_laysLots_133 ?_
  refine qr_icmp_ge 136 139 157 rfl (by decide) dX12_laysLots_136 (fun c136 => ?_) (fun c136 => ?_)
  · have h := h.1 c136
    refine qr_iinc 157 160 rfl (by decide) (x := x2) rfl rfl rfl dX12_laysLots_157 ?_
    refine qr_goto 160 43 (by decide) dX12_laysLots_160 ?_
    exact qr_cut 43 (ls' := [some (qR 178), some (qI x1), some (qI (q_add x2 1)), none, none]) (And.intro rfl (And.intro rfl (And.intro rfl trivial))) h
  · have h := h.2 c136
    refine qr_aload_n 139 140 rfl (x := 178) rfl dX12_laysLots_139 ?_
    refine qr_getF 140 143 rfl ck12 43 (by decide) (b := 203) (by decide +kernel) rfl (by decide +kernel) (by decide +kernel) wm_1369 rfl dX12_laysLots_140 ?_
    refine qr_iload_n 143 144 rfl (x := x3) rfl dX12_laysLots_143 ?_
    refine qr_aload_n 144 145 rfl (x := 178) rfl dX12_laysLots_144 ?_
    refine qr_getF 145 148 rfl ck12 44 (by decide) (b := 204) (by decide +kernel) rfl (by decide +kernel) (by decide +kernel) wm_1370 rfl dX12_laysLots_145 ?_
    refine qr_iload_n 148 149 rfl (x := x3) rfl dX12_laysLots_148 ?_
    have hb1 := h.1
    have h := h.2
    refine ql_ld 149 150 rfl (N := 1024) (by decide +kernel) (by decide +kernel) hb1.1 hb1.2 dX12_laysLots_149 ?_
    have hb2 := h.1
    have h := h.2
    refine ql_st 150 151 rfl (N := 1024) (by decide +kernel) (by decide +kernel) hb2.1 hb2.2 dX12_laysLots_150 (fun M3 e_M3 => ?_)
    have h := h M3 e_M3
    refine qr_iinc 151 154 rfl (by decide) (x := x3) rfl rfl rfl dX12_laysLots_151 ?_
    refine qr_goto 154 131 (by decide) dX12_laysLots_154 ?_
    exact h
theorem dX12_wholeOf_0 : decode cX12_wholeOf 0 = .ok (.lconst 1, 1) := by decide +kernel
theorem dX12_wholeOf_1 : decode cX12_wholeOf 1 = .ok (.lstore_n 1, 1) := by decide +kernel
theorem dX12_wholeOf_2 : decode cX12_wholeOf 2 = .ok (.iconst 0, 1) := by decide +kernel
theorem dX12_wholeOf_3 : decode cX12_wholeOf 3 = .ok (.istore_n 3, 1) := by decide +kernel
theorem dX12_wholeOf_4 : decode cX12_wholeOf 4 = .ok (.iload_n 3, 1) := by decide +kernel
theorem dX12_wholeOf_5 : decode cX12_wholeOf 5 = .ok (.iload_n 0, 1) := by decide +kernel
theorem dX12_wholeOf_6 : decode cX12_wholeOf 6 = .ok (.if_icmp .ge 15, 3) := by decide +kernel
theorem dX12_wholeOf_9 : decode cX12_wholeOf 9 = .ok (.lload_n 1, 1) := by decide +kernel
theorem dX12_wholeOf_10 : decode cX12_wholeOf 10 = .ok (.ldc2_w 347, 3) := by decide +kernel
theorem dX12_wholeOf_13 : decode cX12_wholeOf 13 = .ok (.lmul, 1) := by decide +kernel
theorem dX12_wholeOf_14 : decode cX12_wholeOf 14 = .ok (.lstore_n 1, 1) := by decide +kernel
theorem dX12_wholeOf_15 : decode cX12_wholeOf 15 = .ok (.iinc 3 1, 3) := by decide +kernel
theorem dX12_wholeOf_18 : decode cX12_wholeOf 18 = .ok (.goto (-14), 3) := by decide +kernel
theorem dX12_wholeOf_21 : decode cX12_wholeOf 21 = .ok (.lload_n 1, 1) := by decide +kernel
theorem dX12_wholeOf_22 : decode cX12_wholeOf 22 = .ok (.lreturn, 1) := by decide +kernel
theorem bX12_wholeOf_0 {d : Nat} {P : Int → q_Mem → Prop} {M : q_Mem} (x0 : Int) (h : q_v mX12_wholeOf d (qPL P) M 4 [some (qI x0), some (qL 1), none, some (qI 0)] []) : q_v mX12_wholeOf d (qPL P) M 0 [some (qI x0), none, none, none] [] := by
  refine qr_lconst 0 1 rfl (w := 1) (q_l64 _ rfl) (by decide) dX12_wholeOf_0 ?_
  refine qr_lstore_n 1 2 rfl (by decide) rfl rfl dX12_wholeOf_1 ?_
  refine qr_iconst 2 3 rfl (q_l32 _ rfl) dX12_wholeOf_2 ?_
  refine qr_istore_n 3 4 rfl (by decide) rfl rfl dX12_wholeOf_3 ?_
  exact h
theorem bX12_wholeOf_4 {d : Nat} {P : Int → q_Mem → Prop} {M : q_Mem} (x0 x1 x3 : Int) (h : ((x0 ≤ x3) → P x1 M) ∧ ((¬ (x0 ≤ x3)) → ∀ x1_1 : Int, x1_1 = (q_lmul x1 10) → q_v mX12_wholeOf d (qPL P) M 4 [some (qI x0), some (qL x1_1), none, some (qI (q_add x3 1))] [])) : q_v mX12_wholeOf d (qPL P) M 4 [some (qI x0), some (qL x1), none, some (qI x3)] [] := by
  refine qr_iload_n 4 5 rfl (x := x3) rfl dX12_wholeOf_4 ?_
  refine qr_iload_n 5 6 rfl (x := x0) rfl dX12_wholeOf_5 ?_
  refine qr_icmp_ge 6 9 21 rfl (by decide) dX12_wholeOf_6 (fun c6 => ?_) (fun c6 => ?_)
  · have h := h.1 c6
    refine qr_lload_n 21 22 rfl (x := x1) rfl dX12_wholeOf_21 ?_
    exact qe_l 22 rfl dX12_wholeOf_22 h
  · have h := h.2 c6
    refine qr_lload_n 9 10 rfl (x := x1) rfl dX12_wholeOf_9 ?_
    refine qr_ldc2 10 13 rfl (v := 10) (q_l64 _ rfl) wm_1796 dX12_wholeOf_10 ?_
    refine qr_lmul 13 14 rfl dX12_wholeOf_13 ?_
    refine qn_l 14 (fun x1_1 e_x1_1 => ?_)
    have h := h x1_1 e_x1_1
    refine qr_lstore_n 14 15 rfl (by decide) rfl rfl dX12_wholeOf_14 ?_
    refine qr_iinc 15 18 rfl (by decide) (x := x3) rfl rfl rfl dX12_wholeOf_15 ?_
    refine qr_goto 18 4 (by decide) dX12_wholeOf_18 ?_
    exact h
theorem dX12_common_0 : decode cX12_common 0 = .ok (.lload_n 2, 1) := by decide +kernel
theorem dX12_common_1 : decode cX12_common 1 = .ok (.lconst 0, 1) := by decide +kernel
theorem dX12_common_2 : decode cX12_common 2 = .ok (.lcmp, 1) := by decide +kernel
theorem dX12_common_3 : decode cX12_common 3 = .ok (.ifCond .ne 7, 3) := by decide +kernel
theorem dX12_common_6 : decode cX12_common 6 = .ok (.lload_n 0, 1) := by decide +kernel
theorem dX12_common_7 : decode cX12_common 7 = .ok (.goto 10, 3) := by decide +kernel
theorem dX12_common_10 : decode cX12_common 10 = .ok (.lload_n 2, 1) := by decide +kernel
theorem dX12_common_11 : decode cX12_common 11 = .ok (.lload_n 0, 1) := by decide +kernel
theorem dX12_common_12 : decode cX12_common 12 = .ok (.lload_n 2, 1) := by decide +kernel
theorem dX12_common_13 : decode cX12_common 13 = .ok (.lrem, 1) := by decide +kernel
theorem dX12_common_14 : decode cX12_common 14 = .ok (.invokestatic 480, 3) := by decide +kernel
theorem dX12_common_17 : decode cX12_common 17 = .ok (.lreturn, 1) := by decide +kernel
theorem bX12_common_0 {d : Nat} {P : Int → q_Mem → Prop} {M : q_Mem} (x0 x2 : Int) (h : ((¬ (q_lcmp x2 0) = 0) → x2 ≠ 0 ∧ (q_kL yX12_common mX12_common d [qL x2, qL (q_lrem x0 x2)] M (fun v2 M1 => P v2 M1))) ∧ (((q_lcmp x2 0) = 0) → P x0 M)) : q_v mX12_common d (qPL P) M 0 [some (qL x0), none, some (qL x2), none] [] := by
  refine qr_lload_n 0 1 rfl (x := x2) rfl dX12_common_0 ?_
  refine qr_lconst 1 2 rfl (w := 0) (q_l64 _ rfl) (by decide) dX12_common_1 ?_
  refine qr_lcmp 2 3 rfl dX12_common_2 ?_
  refine qr_if_ne 3 6 10 rfl (by decide) dX12_common_3 (fun c3 => ?_) (fun c3 => ?_)
  · have h := h.1 c3
    refine qr_lload_n 10 11 rfl (x := x2) rfl dX12_common_10 ?_
    refine qr_lload_n 11 12 rfl (x := x0) rfl dX12_common_11 ?_
    refine qr_lload_n 12 13 rfl (x := x2) rfl dX12_common_12 ?_
    refine qr_lrem 13 14 rfl h.1 dX12_common_13 ?_
    have h := h.2
    refine qs_L 14 17 rfl (av := [qL x2, qL (q_lrem x0 x2)]) ca_X12_common wm_2006 wm_2005 rfl rfl (Nat.le_of_ble_eq_true rfl) dX12_common_14 h (fun v2 M1 h => ?_)
    exact qe_l 17 rfl dX12_common_17 h
  · have h := h.2 c3
    refine qr_lload_n 6 7 rfl (x := x0) rfl dX12_common_6 ?_
    refine qr_goto 7 17 (by decide) dX12_common_7 ?_
    exact qe_l 17 rfl dX12_common_17 h
theorem dX12_part_0 : decode cX12_part 0 = .ok (.iload_n 3, 1) := by decide +kernel
theorem dX12_part_1 : decode cX12_part 1 = .ok (.ifCond .ne 7, 3) := by decide +kernel
theorem dX12_part_4 : decode cX12_part 4 = .ok (.lload_n 0, 1) := by decide +kernel
theorem dX12_part_5 : decode cX12_part 5 = .ok (.goto 7, 3) := by decide +kernel
theorem dX12_part_8 : decode cX12_part 8 = .ok (.iload_n 2, 1) := by decide +kernel
theorem dX12_part_9 : decode cX12_part 9 = .ok (.invokestatic 484, 3) := by decide +kernel
theorem dX12_part_12 : decode cX12_part 12 = .ok (.lload_n 0, 1) := by decide +kernel
theorem dX12_part_13 : decode cX12_part 13 = .ok (.lconst 0, 1) := by decide +kernel
theorem dX12_part_14 : decode cX12_part 14 = .ok (.lcmp, 1) := by decide +kernel
theorem dX12_part_15 : decode cX12_part 15 = .ok (.ifCond .ge 8, 3) := by decide +kernel
theorem dX12_part_18 : decode cX12_part 18 = .ok (.lload_n 0, 1) := by decide +kernel
theorem dX12_part_19 : decode cX12_part 19 = .ok (.lneg, 1) := by decide +kernel
theorem dX12_part_20 : decode cX12_part 20 = .ok (.goto 4, 3) := by decide +kernel
theorem dX12_part_23 : decode cX12_part 23 = .ok (.lload_n 0, 1) := by decide +kernel
theorem dX12_part_24 : decode cX12_part 24 = .ok (.iload_n 2, 1) := by decide +kernel
theorem dX12_part_25 : decode cX12_part 25 = .ok (.invokestatic 484, 3) := by decide +kernel
theorem dX12_part_28 : decode cX12_part 28 = .ok (.invokestatic 480, 3) := by decide +kernel
theorem dX12_part_31 : decode cX12_part 31 = .ok (.ldiv, 1) := by decide +kernel
theorem dX12_part_32 : decode cX12_part 32 = .ok (.l2i, 1) := by decide +kernel
theorem dX12_part_33 : decode cX12_part 33 = .ok (.ireturn, 1) := by decide +kernel
theorem bX12_part_0 {d : Nat} {P : Int → q_Mem → Prop} {M : q_Mem} (x0 x2 x3 : Int) (h : ((¬ x3 = 0) → q_kL yX12_wholeOf mX12_wholeOf d [qI x2] M (fun v2 M1 => q_v mX12_part d (qPI P) M1 12 [some (qL x0), none, some (qI x2), none] [qL v2])) ∧ ((x3 = 0) → q_v mX12_part d (qPI P) M 12 [some (qL x0), none, some (qI x2), none] [qL x0])) : q_v mX12_part d (qPI P) M 0 [some (qL x0), none, some (qI x2), some (qI x3)] [] := by
  refine qr_iload_n 0 1 rfl (x := x3) rfl dX12_part_0 ?_
  refine qr_if_ne 1 4 8 rfl (by decide) dX12_part_1 (fun c1 => ?_) (fun c1 => ?_)
  · have h := h.1 c1
    refine qr_iload_n 8 9 rfl (x := x2) rfl dX12_part_8 ?_
    refine qs_L 9 12 rfl (av := [qI x2]) ca_X12_wholeOf wm_2003 wm_2002 rfl rfl (Nat.le_of_ble_eq_true rfl) dX12_part_9 h (fun v2 M1 h => ?_)
    exact qr_cut 12 (ls' := [some (qL x0), none, some (qI x2), none]) (And.intro rfl (And.intro rfl trivial)) h
  · have h := h.2 c1
    refine qr_lload_n 4 5 rfl (x := x0) rfl dX12_part_4 ?_
    refine qr_goto 5 12 (by decide) dX12_part_5 ?_
    exact qr_cut 12 (ls' := [some (qL x0), none, some (qI x2), none]) (And.intro rfl (And.intro rfl trivial)) h
theorem bX12_part_12 {d : Nat} {P : Int → q_Mem → Prop} {M : q_Mem} (x0 x2 y0 : Int) (h : ((0 ≤ (q_lcmp x0 0)) → q_v mX12_part d (qPI P) M 24 [none, none, some (qI x2), none] [qL x0, qL y0]) ∧ ((¬ (0 ≤ (q_lcmp x0 0))) → q_v mX12_part d (qPI P) M 24 [none, none, some (qI x2), none] [qL (q_lneg x0), qL y0])) : q_v mX12_part d (qPI P) M 12 [some (qL x0), none, some (qI x2), none] [qL y0] := by
  refine qr_lload_n 12 13 rfl (x := x0) rfl dX12_part_12 ?_
  refine qr_lconst 13 14 rfl (w := 0) (q_l64 _ rfl) (by decide) dX12_part_13 ?_
  refine qr_lcmp 14 15 rfl dX12_part_14 ?_
  refine qr_if_ge 15 18 23 rfl (by decide) dX12_part_15 (fun c15 => ?_) (fun c15 => ?_)
  · have h := h.1 c15
    refine qr_lload_n 23 24 rfl (x := x0) rfl dX12_part_23 ?_
    exact qr_cut 24 (ls' := [none, none, some (qI x2), none]) (And.intro rfl trivial) h
  · have h := h.2 c15
    refine qr_lload_n 18 19 rfl (x := x0) rfl dX12_part_18 ?_
    refine qr_lneg 19 20 rfl dX12_part_19 ?_
    refine qr_goto 20 24 (by decide) dX12_part_20 ?_
    exact qr_cut 24 (ls' := [none, none, some (qI x2), none]) (And.intro rfl trivial) h
theorem bX12_part_24 {d : Nat} {P : Int → q_Mem → Prop} {M : q_Mem} (x2 y0 y1 : Int) (h : q_kL yX12_wholeOf mX12_wholeOf d [qI x2] M (fun v2 M1 => q_kL yX12_common mX12_common d [qL y1, qL v2] M1 (fun v4 M3 => v4 ≠ 0 ∧ (P (q_l2i (q_ldiv y0 v4)) M3)))) : q_v mX12_part d (qPI P) M 24 [none, none, some (qI x2), none] [qL y1, qL y0] := by
  refine qr_iload_n 24 25 rfl (x := x2) rfl dX12_part_24 ?_
  refine qs_L 25 28 rfl (av := [qI x2]) ca_X12_wholeOf wm_2003 wm_2002 rfl rfl (Nat.le_of_ble_eq_true rfl) dX12_part_25 h (fun v2 M1 h => ?_)
  refine qs_L 28 31 rfl (av := [qL y1, qL v2]) ca_X12_common wm_2006 wm_2005 rfl rfl (Nat.le_of_ble_eq_true rfl) dX12_part_28 h (fun v4 M3 h => ?_)
  refine qr_ldiv 31 32 rfl h.1 dX12_part_31 ?_
  have h := h.2
  refine qr_l2i 32 33 rfl dX12_part_32 ?_
  exact qe_i 33 rfl dX12_part_33 h
theorem dX12_chance_0 : decode cX12_chance 0 = .ok (.aload_n 0, 1) := by decide +kernel
theorem dX12_chance_1 : decode cX12_chance 1 = .ok (.iconst 0, 1) := by decide +kernel
theorem dX12_chance_2 : decode cX12_chance 2 = .ok (.putfield 1, 3) := by decide +kernel
theorem dX12_chance_5 : decode cX12_chance 5 = .ok (.iload_n 3, 1) := by decide +kernel
theorem dX12_chance_6 : decode cX12_chance 6 = .ok (.i2l, 1) := by decide +kernel
theorem dX12_chance_7 : decode cX12_chance 7 = .ok (.lconst 0, 1) := by decide +kernel
theorem dX12_chance_8 : decode cX12_chance 8 = .ok (.lconst 1, 1) := by decide +kernel
theorem dX12_chance_9 : decode cX12_chance 9 = .ok (.invokestatic 176, 3) := by decide +kernel
theorem dX12_chance_12 : decode cX12_chance 12 = .ok (.ifCond .ne 6, 3) := by decide +kernel
theorem dX12_chance_15 : decode cX12_chance 15 = .ok (.bipush (-2), 2) := by decide +kernel
theorem dX12_chance_17 : decode cX12_chance 17 = .ok (.ireturn, 1) := by decide +kernel
theorem dX12_chance_18 : decode cX12_chance 18 = .ok (.iload_n 1, 1) := by decide +kernel
theorem dX12_chance_19 : decode cX12_chance 19 = .ok (.i2l, 1) := by decide +kernel
theorem dX12_chance_20 : decode cX12_chance 20 = .ok (.ldc2_w 488, 3) := by decide +kernel
theorem dX12_chance_23 : decode cX12_chance 23 = .ok (.ldc2_w 490, 3) := by decide +kernel
theorem dX12_chance_26 : decode cX12_chance 26 = .ok (.invokestatic 176, 3) := by decide +kernel
theorem dX12_chance_29 : decode cX12_chance 29 = .ok (.ifCond .eq 15, 3) := by decide +kernel
theorem dX12_chance_32 : decode cX12_chance 32 = .ok (.iload_n 2, 1) := by decide +kernel
theorem dX12_chance_33 : decode cX12_chance 33 = .ok (.i2l, 1) := by decide +kernel
theorem dX12_chance_34 : decode cX12_chance 34 = .ok (.lconst 0, 1) := by decide +kernel
theorem dX12_chance_35 : decode cX12_chance 35 = .ok (.ldc2_w 492, 3) := by decide +kernel
theorem dX12_chance_38 : decode cX12_chance 38 = .ok (.invokestatic 176, 3) := by decide +kernel
theorem dX12_chance_41 : decode cX12_chance 41 = .ok (.ifCond .ne 6, 3) := by decide +kernel
theorem dX12_chance_44 : decode cX12_chance 44 = .ok (.bipush (-3), 2) := by decide +kernel
theorem dX12_chance_46 : decode cX12_chance 46 = .ok (.ireturn, 1) := by decide +kernel
theorem dX12_chance_47 : decode cX12_chance 47 = .ok (.aload_n 0, 1) := by decide +kernel
theorem dX12_chance_48 : decode cX12_chance 48 = .ok (.iload_n 2, 1) := by decide +kernel
theorem dX12_chance_49 : decode cX12_chance 49 = .ok (.invokevirtual 494, 3) := by decide +kernel
theorem dX12_chance_52 : decode cX12_chance 52 = .ok (.lconst 0, 1) := by decide +kernel
theorem dX12_chance_53 : decode cX12_chance 53 = .ok (.lstore 4, 2) := by decide +kernel
theorem dX12_chance_55 : decode cX12_chance 55 = .ok (.iconst 0, 1) := by decide +kernel
theorem dX12_chance_56 : decode cX12_chance 56 = .ok (.istore 6, 2) := by decide +kernel
theorem dX12_chance_58 : decode cX12_chance 58 = .ok (.iload 6, 2) := by decide +kernel
theorem dX12_chance_60 : decode cX12_chance 60 = .ok (.aload_n 0, 1) := by decide +kernel
theorem dX12_chance_61 : decode cX12_chance 61 = .ok (.getfield 450, 3) := by decide +kernel
theorem dX12_chance_64 : decode cX12_chance 64 = .ok (.if_icmp .ge 36, 3) := by decide +kernel
theorem dX12_chance_67 : decode cX12_chance 67 = .ok (.lload 4, 2) := by decide +kernel
theorem dX12_chance_69 : decode cX12_chance 69 = .ok (.aload_n 0, 1) := by decide +kernel
theorem dX12_chance_70 : decode cX12_chance 70 = .ok (.getfield 79, 3) := by decide +kernel
theorem dX12_chance_73 : decode cX12_chance 73 = .ok (.iload 6, 2) := by decide +kernel
theorem dX12_chance_75 : decode cX12_chance 75 = .ok (.iaload, 1) := by decide +kernel
theorem dX12_chance_76 : decode cX12_chance 76 = .ok (.iload_n 1, 1) := by decide +kernel
theorem dX12_chance_77 : decode cX12_chance 77 = .ok (.if_icmp .lt 13, 3) := by decide +kernel
theorem dX12_chance_80 : decode cX12_chance 80 = .ok (.aload_n 0, 1) := by decide +kernel
theorem dX12_chance_81 : decode cX12_chance 81 = .ok (.getfield 91, 3) := by decide +kernel
theorem dX12_chance_84 : decode cX12_chance 84 = .ok (.iload 6, 2) := by decide +kernel
theorem dX12_chance_86 : decode cX12_chance 86 = .ok (.laload, 1) := by decide +kernel
theorem dX12_chance_87 : decode cX12_chance 87 = .ok (.goto 4, 3) := by decide +kernel
theorem dX12_chance_90 : decode cX12_chance 90 = .ok (.lconst 0, 1) := by decide +kernel
theorem dX12_chance_91 : decode cX12_chance 91 = .ok (.ladd, 1) := by decide +kernel
theorem dX12_chance_92 : decode cX12_chance 92 = .ok (.lstore 4, 2) := by decide +kernel
theorem dX12_chance_94 : decode cX12_chance 94 = .ok (.iinc 6 1, 3) := by decide +kernel
theorem dX12_chance_97 : decode cX12_chance 97 = .ok (.goto (-39), 3) := by decide +kernel
theorem dX12_chance_100 : decode cX12_chance 100 = .ok (.lload 4, 2) := by decide +kernel
theorem dX12_chance_102 : decode cX12_chance 102 = .ok (.iload_n 2, 1) := by decide +kernel
theorem dX12_chance_103 : decode cX12_chance 103 = .ok (.iload_n 3, 1) := by decide +kernel
theorem dX12_chance_104 : decode cX12_chance 104 = .ok (.invokestatic 497, 3) := by decide +kernel
theorem dX12_chance_107 : decode cX12_chance 107 = .ok (.ireturn, 1) := by decide +kernel
theorem bX12_chance_0 {d : Nat} {P : Int → q_Mem → Prop} {M : q_Mem} (x1 x2 x3 : Int) (h : (∀ M1 : q_Mem, M1 = q_up M 178 0 0 → q_kI yX12_within mX12_within d [qL x3, qL 0, qL 1] M1 (fun v3 M2 => ((¬ v3 = 0) → q_kI yX12_within mX12_within d [qL x1, qL (-9999), qL 9999] M2 (fun v5 M4 => ((v5 = 0) → P (-3) M4) ∧ ((¬ (v5 = 0)) → q_kI yX12_within mX12_within d [qL x2, qL 0, qL 4] M4 (fun v7 M6 => ((¬ v7 = 0) → q_kU yX12_laysLots mX12_laysLots d [qR 178, qI x2] M6 (fun M8 => q_v mX12_chance d (qPI P) M8 58 [some (qR 178), some (qI x1), some (qI x2), some (qI x3), some (qL 0), none, some (qI 0)] [])) ∧ ((v7 = 0) → P (-3) M6))))) ∧ ((v3 = 0) → P (-2) M2)))) : q_v mX12_chance d (qPI P) M 0 [some (qR 178), some (qI x1), some (qI x2), some (qI x3), none, none, none] [] := by
  refine qr_aload_n 0 1 rfl (x := 178) rfl dX12_chance_0 ?_
  refine qr_iconst 1 2 rfl (q_l32 _ rfl) dX12_chance_1 ?_
  refine qp_i 2 5 rfl ck12 0 (kk := 0) (by decide) (by decide +kernel) (by decide) rfl rfl wm_1326 rfl dX12_chance_2 (fun M1 e_M1 => ?_)
  have h := h M1 e_M1
  refine qr_iload_n 5 6 rfl (x := x3) rfl dX12_chance_5 ?_
  refine qr_i2l 6 7 rfl dX12_chance_6 ?_
  refine qr_lconst 7 8 rfl (w := 0) (q_l64 _ rfl) (by decide) dX12_chance_7 ?_
  refine qr_lconst 8 9 rfl (w := 1) (q_l64 _ rfl) (by decide) dX12_chance_8 ?_
  refine qs_I 9 12 rfl (av := [qL x3, qL 0, qL 1]) ca_X12_within wm_1481 wm_1480 rfl rfl (Nat.le_of_ble_eq_true rfl) dX12_chance_9 h (fun v3 M2 h => ?_)
  refine qr_if_ne 12 15 18 rfl (by decide) dX12_chance_12 (fun c12 => ?_) (fun c12 => ?_)
  · have h := h.1 c12
    refine qr_iload_n 18 19 rfl (x := x1) rfl dX12_chance_18 ?_
    refine qr_i2l 19 20 rfl dX12_chance_19 ?_
    refine qr_ldc2 20 23 rfl (v := (-9999)) (q_l64 _ rfl) wm_1992 dX12_chance_20 ?_
    refine qr_ldc2 23 26 rfl (v := 9999) (q_l64 _ rfl) wm_1993 dX12_chance_23 ?_
    refine qs_I 26 29 rfl (av := [qL x1, qL (-9999), qL 9999]) ca_X12_within wm_1481 wm_1480 rfl rfl (Nat.le_of_ble_eq_true rfl) dX12_chance_26 h (fun v5 M4 h => ?_)
    refine qr_if_eq 29 32 44 rfl (by decide) dX12_chance_29 (fun c29 => ?_) (fun c29 => ?_)
    · have h := h.1 c29
      refine qr_bipush 44 46 rfl (q_l32 _ rfl) (by decide) dX12_chance_44 ?_
      exact qe_i 46 rfl dX12_chance_46 h
    · have h := h.2 c29
      refine qr_iload_n 32 33 rfl (x := x2) rfl dX12_chance_32 ?_
      refine qr_i2l 33 34 rfl dX12_chance_33 ?_
      refine qr_lconst 34 35 rfl (w := 0) (q_l64 _ rfl) (by decide) dX12_chance_34 ?_
      refine qr_ldc2 35 38 rfl (v := 4) (q_l64 _ rfl) wm_1994 dX12_chance_35 ?_
      refine qs_I 38 41 rfl (av := [qL x2, qL 0, qL 4]) ca_X12_within wm_1481 wm_1480 rfl rfl (Nat.le_of_ble_eq_true rfl) dX12_chance_38 h (fun v7 M6 h => ?_)
      refine qr_if_ne 41 44 47 rfl (by decide) dX12_chance_41 (fun c41 => ?_) (fun c41 => ?_)
      · have h := h.1 c41
        refine qr_aload_n 47 48 rfl (x := 178) rfl dX12_chance_47 ?_
        refine qr_iload_n 48 49 rfl (x := x2) rfl dX12_chance_48 ?_
        refine qw_U 49 52 rfl (av := [qI x2]) ca_X12_laysLots wm_1997 wp_150 wm_1995 ck12 (by decide +kernel) rfl rfl (Nat.le_of_ble_eq_true rfl) dX12_chance_49 h (fun M8 h => ?_)
        refine qr_lconst 52 53 rfl (w := 0) (q_l64 _ rfl) (by decide) dX12_chance_52 ?_
        refine qr_lstore 53 55 rfl (by decide) rfl rfl dX12_chance_53 ?_
        refine qr_iconst 55 56 rfl (q_l32 _ rfl) dX12_chance_55 ?_
        refine qr_istore 56 58 rfl (by decide) rfl rfl dX12_chance_56 ?_
        exact h
      · have h := h.2 c41
        refine qr_bipush 44 46 rfl (q_l32 _ rfl) (by decide) dX12_chance_44 ?_
        exact qe_i 46 rfl dX12_chance_46 h
  · have h := h.2 c12
    refine qr_bipush 15 17 rfl (q_l32 _ rfl) (by decide) dX12_chance_15 ?_
    exact qe_i 17 rfl dX12_chance_17 h
theorem bX12_chance_58 {d : Nat} {P : Int → q_Mem → Prop} {M : q_Mem} (x1 x2 x3 x4 x6 : Int) (h : (((M 178 39) ≤ x6) → q_kI yX12_part mX12_part d [qL x4, qI x2, qI x3] M (fun v2 M1 => P v2 M1)) ∧ ((¬ ((M 178 39) ≤ x6)) → (0 ≤ x6 ∧ x6 < (1024 : Int)) ∧ ((((M 199 x6) < x1) → ∀ x4_4 : Int, x4_4 = (q_ladd x4 0) → q_v mX12_chance d (qPI P) M 58 [some (qR 178), some (qI x1), some (qI x2), some (qI x3), some (qL x4_4), none, some (qI (q_add x6 1))] []) ∧ ((¬ ((M 199 x6) < x1)) → (0 ≤ x6 ∧ x6 < (1024 : Int)) ∧ (∀ x4_6 : Int, x4_6 = (q_ladd x4 (M 203 x6)) → q_v mX12_chance d (qPI P) M 58 [some (qR 178), some (qI x1), some (qI x2), some (qI x3), some (qL x4_6), none, some (qI (q_add x6 1))] []))))) : q_v mX12_chance d (qPI P) M 58 [some (qR 178), some (qI x1), some (qI x2), some (qI x3), some (qL x4), none, some (qI x6)] [] := by
  refine qr_iload 58 60 rfl (x := x6) rfl dX12_chance_58 ?_
  refine qr_aload_n 60 61 rfl (x := 178) rfl dX12_chance_60 ?_
  refine qg_i 61 64 rfl ck12 39 (kk := 39) (by decide) (by decide +kernel) (by decide +kernel) rfl wm_1365 rfl dX12_chance_61 ?_
  refine qr_icmp_ge 64 67 100 rfl (by decide) dX12_chance_64 (fun c64 => ?_) (fun c64 => ?_)
  · have h := h.1 c64
    refine qr_lload 100 102 rfl (x := x4) rfl dX12_chance_100 ?_
    refine qr_iload_n 102 103 rfl (x := x2) rfl dX12_chance_102 ?_
    refine qr_iload_n 103 104 rfl (x := x3) rfl dX12_chance_103 ?_
    refine qs_I 104 107 rfl (av := [qL x4, qI x2, qI x3]) ca_X12_part wm_2000 wm_1999 rfl rfl (Nat.le_of_ble_eq_true rfl) dX12_chance_104 h (fun v2 M1 h => ?_)
    exact qe_i 107 rfl dX12_chance_107 h
  · have h := h.2 c64
    refine qr_lload 67 69 rfl (x := x4) rfl dX12_chance_67 ?_
    refine qr_aload_n 69 70 rfl (x := 178) rfl dX12_chance_69 ?_
    refine qr_getF 70 73 rfl ck12 36 (by decide) (b := 199) (by decide +kernel) rfl (by decide +kernel) (by decide +kernel) wm_1362 rfl dX12_chance_70 ?_
    refine qr_iload 73 75 rfl (x := x6) rfl dX12_chance_73 ?_
    have hb3 := h.1
    have h := h.2
    refine qi_ld 75 76 rfl (N := 1024) (by decide +kernel) (by decide +kernel) hb3.1 hb3.2 dX12_chance_75 ?_
    refine qr_iload_n 76 77 rfl (x := x1) rfl dX12_chance_76 ?_
    refine qr_icmp_lt 77 80 90 rfl (by decide) dX12_chance_77 (fun c77 => ?_) (fun c77 => ?_)
    · have h := h.1 c77
      refine qr_lconst 90 91 rfl (w := 0) (q_l64 _ rfl) (by decide) dX12_chance_90 ?_
      refine qr_ladd 91 92 rfl dX12_chance_91 ?_
      refine qn_l 92 (fun x4_4 e_x4_4 => ?_)
      have h := h x4_4 e_x4_4
      refine qr_lstore 92 94 rfl (by decide) rfl rfl dX12_chance_92 ?_
      refine qr_iinc 94 97 rfl (by decide) (x := x6) rfl rfl rfl dX12_chance_94 ?_
      refine qr_goto 97 58 (by decide) dX12_chance_97 ?_
      exact h
    · have h := h.2 c77
      refine qr_aload_n 80 81 rfl (x := 178) rfl dX12_chance_80 ?_
      refine qr_getF 81 84 rfl ck12 43 (by decide) (b := 203) (by decide +kernel) rfl (by decide +kernel) (by decide +kernel) wm_1369 rfl dX12_chance_81 ?_
      refine qr_iload 84 86 rfl (x := x6) rfl dX12_chance_84 ?_
      have hb5 := h.1
      have h := h.2
      refine ql_ld 86 87 rfl (N := 1024) (by decide +kernel) (by decide +kernel) hb5.1 hb5.2 dX12_chance_86 ?_
      refine qr_goto 87 91 (by decide) dX12_chance_87 ?_
      refine qr_ladd 91 92 rfl dX12_chance_91 ?_
      refine qn_l 92 (fun x4_6 e_x4_6 => ?_)
      have h := h x4_6 e_x4_6
      refine qr_lstore 92 94 rfl (by decide) rfl rfl dX12_chance_92 ?_
      refine qr_iinc 94 97 rfl (by decide) (x := x6) rfl rfl rfl dX12_chance_94 ?_
      refine qr_goto 97 58 (by decide) dX12_chance_97 ?_
      exact h
theorem dX12_mean_0 : decode cX12_mean 0 = .ok (.aload_n 0, 1) := by decide +kernel
theorem dX12_mean_1 : decode cX12_mean 1 = .ok (.iconst 0, 1) := by decide +kernel
theorem dX12_mean_2 : decode cX12_mean 2 = .ok (.putfield 1, 3) := by decide +kernel
theorem dX12_mean_5 : decode cX12_mean 5 = .ok (.iload_n 2, 1) := by decide +kernel
theorem dX12_mean_6 : decode cX12_mean 6 = .ok (.i2l, 1) := by decide +kernel
theorem dX12_mean_7 : decode cX12_mean 7 = .ok (.lconst 0, 1) := by decide +kernel
theorem dX12_mean_8 : decode cX12_mean 8 = .ok (.lconst 1, 1) := by decide +kernel
theorem dX12_mean_9 : decode cX12_mean 9 = .ok (.invokestatic 176, 3) := by decide +kernel
theorem dX12_mean_12 : decode cX12_mean 12 = .ok (.ifCond .ne 7, 3) := by decide +kernel
theorem dX12_mean_15 : decode cX12_mean 15 = .ok (.ldc_w 302, 3) := by decide +kernel
theorem dX12_mean_18 : decode cX12_mean 18 = .ok (.ireturn, 1) := by decide +kernel
theorem dX12_mean_19 : decode cX12_mean 19 = .ok (.iload_n 1, 1) := by decide +kernel
theorem dX12_mean_20 : decode cX12_mean 20 = .ok (.i2l, 1) := by decide +kernel
theorem dX12_mean_21 : decode cX12_mean 21 = .ok (.lconst 0, 1) := by decide +kernel
theorem dX12_mean_22 : decode cX12_mean 22 = .ok (.ldc2_w 492, 3) := by decide +kernel
theorem dX12_mean_25 : decode cX12_mean 25 = .ok (.invokestatic 176, 3) := by decide +kernel
theorem dX12_mean_28 : decode cX12_mean 28 = .ok (.ifCond .ne 7, 3) := by decide +kernel
theorem dX12_mean_31 : decode cX12_mean 31 = .ok (.ldc_w 501, 3) := by decide +kernel
theorem dX12_mean_34 : decode cX12_mean 34 = .ok (.ireturn, 1) := by decide +kernel
theorem dX12_mean_35 : decode cX12_mean 35 = .ok (.aload_n 0, 1) := by decide +kernel
theorem dX12_mean_36 : decode cX12_mean 36 = .ok (.iload_n 1, 1) := by decide +kernel
theorem dX12_mean_37 : decode cX12_mean 37 = .ok (.invokevirtual 494, 3) := by decide +kernel
theorem dX12_mean_40 : decode cX12_mean 40 = .ok (.lconst 0, 1) := by decide +kernel
theorem dX12_mean_41 : decode cX12_mean 41 = .ok (.lstore_n 3, 1) := by decide +kernel
theorem dX12_mean_42 : decode cX12_mean 42 = .ok (.iconst 0, 1) := by decide +kernel
theorem dX12_mean_43 : decode cX12_mean 43 = .ok (.istore 5, 2) := by decide +kernel
theorem dX12_mean_45 : decode cX12_mean 45 = .ok (.iload 5, 2) := by decide +kernel
theorem dX12_mean_47 : decode cX12_mean 47 = .ok (.aload_n 0, 1) := by decide +kernel
theorem dX12_mean_48 : decode cX12_mean 48 = .ok (.getfield 450, 3) := by decide +kernel
theorem dX12_mean_51 : decode cX12_mean 51 = .ok (.if_icmp .ge 28, 3) := by decide +kernel
theorem dX12_mean_54 : decode cX12_mean 54 = .ok (.lload_n 3, 1) := by decide +kernel
theorem dX12_mean_55 : decode cX12_mean 55 = .ok (.aload_n 0, 1) := by decide +kernel
theorem dX12_mean_56 : decode cX12_mean 56 = .ok (.getfield 79, 3) := by decide +kernel
theorem dX12_mean_59 : decode cX12_mean 59 = .ok (.iload 5, 2) := by decide +kernel
theorem dX12_mean_61 : decode cX12_mean 61 = .ok (.iaload, 1) := by decide +kernel
theorem dX12_mean_62 : decode cX12_mean 62 = .ok (.i2l, 1) := by decide +kernel
theorem dX12_mean_63 : decode cX12_mean 63 = .ok (.aload_n 0, 1) := by decide +kernel
theorem dX12_mean_64 : decode cX12_mean 64 = .ok (.getfield 91, 3) := by decide +kernel
theorem dX12_mean_67 : decode cX12_mean 67 = .ok (.iload 5, 2) := by decide +kernel
theorem dX12_mean_69 : decode cX12_mean 69 = .ok (.laload, 1) := by decide +kernel
theorem dX12_mean_70 : decode cX12_mean 70 = .ok (.lmul, 1) := by decide +kernel
theorem dX12_mean_71 : decode cX12_mean 71 = .ok (.ladd, 1) := by decide +kernel
theorem dX12_mean_72 : decode cX12_mean 72 = .ok (.lstore_n 3, 1) := by decide +kernel
theorem dX12_mean_73 : decode cX12_mean 73 = .ok (.iinc 5 1, 3) := by decide +kernel
theorem dX12_mean_76 : decode cX12_mean 76 = .ok (.goto (-31), 3) := by decide +kernel
theorem dX12_mean_79 : decode cX12_mean 79 = .ok (.lload_n 3, 1) := by decide +kernel
theorem dX12_mean_80 : decode cX12_mean 80 = .ok (.iload_n 1, 1) := by decide +kernel
theorem dX12_mean_81 : decode cX12_mean 81 = .ok (.iload_n 2, 1) := by decide +kernel
theorem dX12_mean_82 : decode cX12_mean 82 = .ok (.invokestatic 497, 3) := by decide +kernel
theorem dX12_mean_85 : decode cX12_mean 85 = .ok (.ireturn, 1) := by decide +kernel
theorem bX12_mean_0 {d : Nat} {P : Int → q_Mem → Prop} {M : q_Mem} (x1 x2 : Int) (h : (∀ M1 : q_Mem, M1 = q_up M 178 0 0 → q_kI yX12_within mX12_within d [qL x2, qL 0, qL 1] M1 (fun v3 M2 => ((¬ v3 = 0) → q_kI yX12_within mX12_within d [qL x1, qL 0, qL 4] M2 (fun v5 M4 => ((¬ v5 = 0) → q_kU yX12_laysLots mX12_laysLots d [qR 178, qI x1] M4 (fun M6 => q_v mX12_mean d (qPI P) M6 45 [some (qR 178), some (qI x1), some (qI x2), some (qL 0), none, some (qI 0)] [])) ∧ ((v5 = 0) → P (-99000003) M4))) ∧ ((v3 = 0) → P (-99000002) M2)))) : q_v mX12_mean d (qPI P) M 0 [some (qR 178), some (qI x1), some (qI x2), none, none, none] [] := by
  refine qr_aload_n 0 1 rfl (x := 178) rfl dX12_mean_0 ?_
  refine qr_iconst 1 2 rfl (q_l32 _ rfl) dX12_mean_1 ?_
  refine qp_i 2 5 rfl ck12 0 (kk := 0) (by decide) (by decide +kernel) (by decide) rfl rfl wm_1326 rfl dX12_mean_2 (fun M1 e_M1 => ?_)
  have h := h M1 e_M1
  refine qr_iload_n 5 6 rfl (x := x2) rfl dX12_mean_5 ?_
  refine qr_i2l 6 7 rfl dX12_mean_6 ?_
  refine qr_lconst 7 8 rfl (w := 0) (q_l64 _ rfl) (by decide) dX12_mean_7 ?_
  refine qr_lconst 8 9 rfl (w := 1) (q_l64 _ rfl) (by decide) dX12_mean_8 ?_
  refine qs_I 9 12 rfl (av := [qL x2, qL 0, qL 1]) ca_X12_within wm_1481 wm_1480 rfl rfl (Nat.le_of_ble_eq_true rfl) dX12_mean_9 h (fun v3 M2 h => ?_)
  refine qr_if_ne 12 15 19 rfl (by decide) dX12_mean_12 (fun c12 => ?_) (fun c12 => ?_)
  · have h := h.1 c12
    refine qr_iload_n 19 20 rfl (x := x1) rfl dX12_mean_19 ?_
    refine qr_i2l 20 21 rfl dX12_mean_20 ?_
    refine qr_lconst 21 22 rfl (w := 0) (q_l64 _ rfl) (by decide) dX12_mean_21 ?_
    refine qr_ldc2 22 25 rfl (v := 4) (q_l64 _ rfl) wm_1994 dX12_mean_22 ?_
    refine qs_I 25 28 rfl (av := [qL x1, qL 0, qL 4]) ca_X12_within wm_1481 wm_1480 rfl rfl (Nat.le_of_ble_eq_true rfl) dX12_mean_25 h (fun v5 M4 h => ?_)
    refine qr_if_ne 28 31 35 rfl (by decide) dX12_mean_28 (fun c28 => ?_) (fun c28 => ?_)
    · have h := h.1 c28
      refine qr_aload_n 35 36 rfl (x := 178) rfl dX12_mean_35 ?_
      refine qr_iload_n 36 37 rfl (x := x1) rfl dX12_mean_36 ?_
      refine qw_U 37 40 rfl (av := [qI x1]) ca_X12_laysLots wm_1997 wp_150 wm_1995 ck12 (by decide +kernel) rfl rfl (Nat.le_of_ble_eq_true rfl) dX12_mean_37 h (fun M6 h => ?_)
      refine qr_lconst 40 41 rfl (w := 0) (q_l64 _ rfl) (by decide) dX12_mean_40 ?_
      refine qr_lstore_n 41 42 rfl (by decide) rfl rfl dX12_mean_41 ?_
      refine qr_iconst 42 43 rfl (q_l32 _ rfl) dX12_mean_42 ?_
      refine qr_istore 43 45 rfl (by decide) rfl rfl dX12_mean_43 ?_
      exact h
    · have h := h.2 c28
      refine qr_ldc_w 31 34 rfl (v := (-99000003)) (q_l32 _ rfl) wm_2012 dX12_mean_31 ?_
      exact qe_i 34 rfl dX12_mean_34 h
  · have h := h.2 c12
    refine qr_ldc_w 15 18 rfl (v := (-99000002)) (q_l32 _ rfl) wm_1649 dX12_mean_15 ?_
    exact qe_i 18 rfl dX12_mean_18 h
theorem bX12_mean_45 {d : Nat} {P : Int → q_Mem → Prop} {M : q_Mem} (x1 x2 x3 x5 : Int) (h : (((M 178 39) ≤ x5) → q_kI yX12_part mX12_part d [qL x3, qI x1, qI x2] M (fun v2 M1 => P v2 M1)) ∧ ((¬ ((M 178 39) ≤ x5)) → (0 ≤ x5 ∧ x5 < (1024 : Int)) ∧ ((0 ≤ x5 ∧ x5 < (1024 : Int)) ∧ (∀ x3_5 : Int, x3_5 = (q_ladd x3 (q_lmul (M 199 x5) (M 203 x5))) → q_v mX12_mean d (qPI P) M 45 [some (qR 178), some (qI x1), some (qI x2), some (qL x3_5), none, some (qI (q_add x5 1))] [])))) : q_v mX12_mean d (qPI P) M 45 [some (qR 178), some (qI x1), some (qI x2), some (qL x3), none, some (qI x5)] [] := by
  refine qr_iload 45 47 rfl (x := x5) rfl dX12_mean_45 ?_
  refine qr_aload_n 47 48 rfl (x := 178) rfl dX12_mean_47 ?_
  refine qg_i 48 51 rfl ck12 39 (kk := 39) (by decide) (by decide +kernel) (by decide +kernel) rfl wm_1365 rfl dX12_mean_48 ?_
  refine qr_icmp_ge 51 54 79 rfl (by decide) dX12_mean_51 (fun c51 => ?_) (fun c51 => ?_)
  · have h := h.1 c51
    refine qr_lload_n 79 80 rfl (x := x3) rfl dX12_mean_79 ?_
    refine qr_iload_n 80 81 rfl (x := x1) rfl dX12_mean_80 ?_
    refine qr_iload_n 81 82 rfl (x := x2) rfl dX12_mean_81 ?_
    refine qs_I 82 85 rfl (av := [qL x3, qI x1, qI x2]) ca_X12_part wm_2000 wm_1999 rfl rfl (Nat.le_of_ble_eq_true rfl) dX12_mean_82 h (fun v2 M1 h => ?_)
    exact qe_i 85 rfl dX12_mean_85 h
  · have h := h.2 c51
    refine qr_lload_n 54 55 rfl (x := x3) rfl dX12_mean_54 ?_
    refine qr_aload_n 55 56 rfl (x := 178) rfl dX12_mean_55 ?_
    refine qr_getF 56 59 rfl ck12 36 (by decide) (b := 199) (by decide +kernel) rfl (by decide +kernel) (by decide +kernel) wm_1362 rfl dX12_mean_56 ?_
    refine qr_iload 59 61 rfl (x := x5) rfl dX12_mean_59 ?_
    have hb3 := h.1
    have h := h.2
    refine qi_ld 61 62 rfl (N := 1024) (by decide +kernel) (by decide +kernel) hb3.1 hb3.2 dX12_mean_61 ?_
    refine qr_i2l 62 63 rfl dX12_mean_62 ?_
    refine qr_aload_n 63 64 rfl (x := 178) rfl dX12_mean_63 ?_
    refine qr_getF 64 67 rfl ck12 43 (by decide) (b := 203) (by decide +kernel) rfl (by decide +kernel) (by decide +kernel) wm_1369 rfl dX12_mean_64 ?_
    refine qr_iload 67 69 rfl (x := x5) rfl dX12_mean_67 ?_
    have hb4 := h.1
    have h := h.2
    refine ql_ld 69 70 rfl (N := 1024) (by decide +kernel) (by decide +kernel) hb4.1 hb4.2 dX12_mean_69 ?_
    refine qr_lmul 70 71 rfl dX12_mean_70 ?_
    refine qr_ladd 71 72 rfl dX12_mean_71 ?_
    refine qn_l 72 (fun x3_5 e_x3_5 => ?_)
    have h := h x3_5 e_x3_5
    refine qr_lstore_n 72 73 rfl (by decide) rfl rfl dX12_mean_72 ?_
    refine qr_iinc 73 76 rfl (by decide) (x := x5) rfl rfl rfl dX12_mean_73 ?_
    refine qr_goto 76 45 (by decide) dX12_mean_76 ?_
    exact h
theorem dX12_cutTo_0 : decode cX12_cutTo 0 = .ok (.iload_n 2, 1) := by decide +kernel
theorem dX12_cutTo_1 : decode cX12_cutTo 1 = .ok (.ifCond .ne 10, 3) := by decide +kernel
theorem dX12_cutTo_4 : decode cX12_cutTo 4 = .ok (.lload_n 0, 1) := by decide +kernel
theorem dX12_cutTo_5 : decode cX12_cutTo 5 = .ok (.l2i, 1) := by decide +kernel
theorem dX12_cutTo_6 : decode cX12_cutTo 6 = .ok (.i2b, 1) := by decide +kernel
theorem dX12_cutTo_7 : decode cX12_cutTo 7 = .ok (.i2l, 1) := by decide +kernel
theorem dX12_cutTo_8 : decode cX12_cutTo 8 = .ok (.goto 27, 3) := by decide +kernel
theorem dX12_cutTo_11 : decode cX12_cutTo 11 = .ok (.iload_n 2, 1) := by decide +kernel
theorem dX12_cutTo_12 : decode cX12_cutTo 12 = .ok (.iconst 1, 1) := by decide +kernel
theorem dX12_cutTo_13 : decode cX12_cutTo 13 = .ok (.if_icmp .ne 10, 3) := by decide +kernel
theorem dX12_cutTo_16 : decode cX12_cutTo 16 = .ok (.lload_n 0, 1) := by decide +kernel
theorem dX12_cutTo_17 : decode cX12_cutTo 17 = .ok (.l2i, 1) := by decide +kernel
theorem dX12_cutTo_18 : decode cX12_cutTo 18 = .ok (.i2s, 1) := by decide +kernel
theorem dX12_cutTo_19 : decode cX12_cutTo 19 = .ok (.i2l, 1) := by decide +kernel
theorem dX12_cutTo_20 : decode cX12_cutTo 20 = .ok (.goto 15, 3) := by decide +kernel
theorem dX12_cutTo_23 : decode cX12_cutTo 23 = .ok (.iload_n 2, 1) := by decide +kernel
theorem dX12_cutTo_24 : decode cX12_cutTo 24 = .ok (.iconst 2, 1) := by decide +kernel
theorem dX12_cutTo_25 : decode cX12_cutTo 25 = .ok (.if_icmp .ne 9, 3) := by decide +kernel
theorem dX12_cutTo_28 : decode cX12_cutTo 28 = .ok (.lload_n 0, 1) := by decide +kernel
theorem dX12_cutTo_29 : decode cX12_cutTo 29 = .ok (.l2i, 1) := by decide +kernel
theorem dX12_cutTo_30 : decode cX12_cutTo 30 = .ok (.i2l, 1) := by decide +kernel
theorem dX12_cutTo_31 : decode cX12_cutTo 31 = .ok (.goto 4, 3) := by decide +kernel
theorem dX12_cutTo_34 : decode cX12_cutTo 34 = .ok (.lload_n 0, 1) := by decide +kernel
theorem dX12_cutTo_35 : decode cX12_cutTo 35 = .ok (.lreturn, 1) := by decide +kernel
theorem bX12_cutTo_0 {d : Nat} {P : Int → q_Mem → Prop} {M : q_Mem} (x0 x2 : Int) (h : ((¬ x2 = 0) → ((¬ x2 = (1 : Int)) → ((¬ x2 = (2 : Int)) → P x0 M) ∧ ((x2 = (2 : Int)) → P (q_l2i x0) M)) ∧ ((x2 = (1 : Int)) → P (q_i2s (q_l2i x0)) M)) ∧ ((x2 = 0) → P (q_i2b (q_l2i x0)) M)) : q_v mX12_cutTo d (qPL P) M 0 [some (qL x0), none, some (qI x2)] [] := by
  refine qr_iload_n 0 1 rfl (x := x2) rfl dX12_cutTo_0 ?_
  refine qr_if_ne 1 4 11 rfl (by decide) dX12_cutTo_1 (fun c1 => ?_) (fun c1 => ?_)
  · have h := h.1 c1
    refine qr_iload_n 11 12 rfl (x := x2) rfl dX12_cutTo_11 ?_
    refine qr_iconst 12 13 rfl (q_l32 _ rfl) dX12_cutTo_12 ?_
    refine qr_icmp_ne 13 16 23 rfl (by decide) dX12_cutTo_13 (fun c13 => ?_) (fun c13 => ?_)
    · have h := h.1 c13
      refine qr_iload_n 23 24 rfl (x := x2) rfl dX12_cutTo_23 ?_
      refine qr_iconst 24 25 rfl (q_l32 _ rfl) dX12_cutTo_24 ?_
      refine qr_icmp_ne 25 28 34 rfl (by decide) dX12_cutTo_25 (fun c25 => ?_) (fun c25 => ?_)
      · have h := h.1 c25
        refine qr_lload_n 34 35 rfl (x := x0) rfl dX12_cutTo_34 ?_
        exact qe_l 35 rfl dX12_cutTo_35 h
      · have h := h.2 c25
        refine qr_lload_n 28 29 rfl (x := x0) rfl dX12_cutTo_28 ?_
        refine qr_l2i 29 30 rfl dX12_cutTo_29 ?_
        refine qr_i2l 30 31 rfl dX12_cutTo_30 ?_
        refine qr_goto 31 35 (by decide) dX12_cutTo_31 ?_
        exact qe_l 35 rfl dX12_cutTo_35 h
    · have h := h.2 c13
      refine qr_lload_n 16 17 rfl (x := x0) rfl dX12_cutTo_16 ?_
      refine qr_l2i 17 18 rfl dX12_cutTo_17 ?_
      refine qr_i2s 18 19 rfl dX12_cutTo_18 ?_
      refine qr_i2l 19 20 rfl dX12_cutTo_19 ?_
      refine qr_goto 20 35 (by decide) dX12_cutTo_20 ?_
      exact qe_l 35 rfl dX12_cutTo_35 h
  · have h := h.2 c1
    refine qr_lload_n 4 5 rfl (x := x0) rfl dX12_cutTo_4 ?_
    refine qr_l2i 5 6 rfl dX12_cutTo_5 ?_
    refine qr_i2b 6 7 rfl dX12_cutTo_6 ?_
    refine qr_i2l 7 8 rfl dX12_cutTo_7 ?_
    refine qr_goto 8 35 (by decide) dX12_cutTo_8 ?_
    exact qe_l 35 rfl dX12_cutTo_35 h
theorem dX12_numbers_0 : decode cX12_numbers 0 = .ok (.aload_n 0, 1) := by decide +kernel
theorem dX12_numbers_1 : decode cX12_numbers 1 = .ok (.iconst 0, 1) := by decide +kernel
theorem dX12_numbers_2 : decode cX12_numbers 2 = .ok (.putfield 1, 3) := by decide +kernel
theorem dX12_numbers_5 : decode cX12_numbers 5 = .ok (.iload_n 1, 1) := by decide +kernel
theorem dX12_numbers_6 : decode cX12_numbers 6 = .ok (.i2l, 1) := by decide +kernel
theorem dX12_numbers_7 : decode cX12_numbers 7 = .ok (.lconst 0, 1) := by decide +kernel
theorem dX12_numbers_8 : decode cX12_numbers 8 = .ok (.ldc2_w 300, 3) := by decide +kernel
theorem dX12_numbers_11 : decode cX12_numbers 11 = .ok (.invokestatic 176, 3) := by decide +kernel
theorem dX12_numbers_14 : decode cX12_numbers 14 = .ok (.ifCond .eq 15, 3) := by decide +kernel
theorem dX12_numbers_17 : decode cX12_numbers 17 = .ok (.iload_n 2, 1) := by decide +kernel
theorem dX12_numbers_18 : decode cX12_numbers 18 = .ok (.i2l, 1) := by decide +kernel
theorem dX12_numbers_19 : decode cX12_numbers 19 = .ok (.lconst 0, 1) := by decide +kernel
theorem dX12_numbers_20 : decode cX12_numbers 20 = .ok (.ldc2_w 300, 3) := by decide +kernel
theorem dX12_numbers_23 : decode cX12_numbers 23 = .ok (.invokestatic 176, 3) := by decide +kernel
theorem dX12_numbers_26 : decode cX12_numbers 26 = .ok (.ifCond .ne 6, 3) := by decide +kernel
theorem dX12_numbers_29 : decode cX12_numbers 29 = .ok (.bipush (-2), 2) := by decide +kernel
theorem dX12_numbers_31 : decode cX12_numbers 31 = .ok (.ireturn, 1) := by decide +kernel
theorem dX12_numbers_32 : decode cX12_numbers 32 = .ok (.iload_n 3, 1) := by decide +kernel
theorem dX12_numbers_33 : decode cX12_numbers 33 = .ok (.i2l, 1) := by decide +kernel
theorem dX12_numbers_34 : decode cX12_numbers 34 = .ok (.lconst 0, 1) := by decide +kernel
theorem dX12_numbers_35 : decode cX12_numbers 35 = .ok (.ldc2_w 383, 3) := by decide +kernel
theorem dX12_numbers_38 : decode cX12_numbers 38 = .ok (.invokestatic 176, 3) := by decide +kernel
theorem dX12_numbers_41 : decode cX12_numbers 41 = .ok (.ifCond .ne 6, 3) := by decide +kernel
theorem dX12_numbers_44 : decode cX12_numbers 44 = .ok (.bipush (-3), 2) := by decide +kernel
theorem dX12_numbers_46 : decode cX12_numbers 46 = .ok (.ireturn, 1) := by decide +kernel
theorem dX12_numbers_47 : decode cX12_numbers 47 = .ok (.aload_n 0, 1) := by decide +kernel
theorem dX12_numbers_48 : decode cX12_numbers 48 = .ok (.getfield 98, 3) := by decide +kernel
theorem dX12_numbers_51 : decode cX12_numbers 51 = .ok (.iload_n 1, 1) := by decide +kernel
theorem dX12_numbers_52 : decode cX12_numbers 52 = .ok (.iload_n 2, 1) := by decide +kernel
theorem dX12_numbers_53 : decode cX12_numbers 53 = .ok (.iastore, 1) := by decide +kernel
theorem dX12_numbers_54 : decode cX12_numbers 54 = .ok (.aload_n 0, 1) := by decide +kernel
theorem dX12_numbers_55 : decode cX12_numbers 55 = .ok (.getfield 101, 3) := by decide +kernel
theorem dX12_numbers_58 : decode cX12_numbers 58 = .ok (.iload_n 1, 1) := by decide +kernel
theorem dX12_numbers_59 : decode cX12_numbers 59 = .ok (.iload_n 3, 1) := by decide +kernel
theorem dX12_numbers_60 : decode cX12_numbers 60 = .ok (.iastore, 1) := by decide +kernel
theorem dX12_numbers_61 : decode cX12_numbers 61 = .ok (.iconst 0, 1) := by decide +kernel
theorem dX12_numbers_62 : decode cX12_numbers 62 = .ok (.istore 4, 2) := by decide +kernel
theorem dX12_numbers_64 : decode cX12_numbers 64 = .ok (.iload 4, 2) := by decide +kernel
theorem dX12_numbers_66 : decode cX12_numbers 66 = .ok (.iload_n 3, 1) := by decide +kernel
theorem dX12_numbers_67 : decode cX12_numbers 67 = .ok (.if_icmp .ge 22, 3) := by decide +kernel
theorem dX12_numbers_70 : decode cX12_numbers 70 = .ok (.aload_n 0, 1) := by decide +kernel
theorem dX12_numbers_71 : decode cX12_numbers 71 = .ok (.getfield 104, 3) := by decide +kernel
theorem dX12_numbers_74 : decode cX12_numbers 74 = .ok (.bipush 40, 2) := by decide +kernel
theorem dX12_numbers_76 : decode cX12_numbers 76 = .ok (.iload_n 1, 1) := by decide +kernel
theorem dX12_numbers_77 : decode cX12_numbers 77 = .ok (.imul, 1) := by decide +kernel
theorem dX12_numbers_78 : decode cX12_numbers 78 = .ok (.iload 4, 2) := by decide +kernel
theorem dX12_numbers_80 : decode cX12_numbers 80 = .ok (.iadd, 1) := by decide +kernel
theorem dX12_numbers_81 : decode cX12_numbers 81 = .ok (.lconst 0, 1) := by decide +kernel
theorem dX12_numbers_82 : decode cX12_numbers 82 = .ok (.lastore, 1) := by decide +kernel
theorem dX12_numbers_83 : decode cX12_numbers 83 = .ok (.iinc 4 1, 3) := by decide +kernel
theorem dX12_numbers_86 : decode cX12_numbers 86 = .ok (.goto (-22), 3) := by decide +kernel
theorem dX12_numbers_89 : decode cX12_numbers 89 = .ok (.iconst 0, 1) := by decide +kernel
theorem dX12_numbers_90 : decode cX12_numbers 90 = .ok (.ireturn, 1) := by decide +kernel
theorem bX12_numbers_0 {d : Nat} {P : Int → q_Mem → Prop} {M : q_Mem} (x1 x2 x3 : Int) (h : (∀ M1 : q_Mem, M1 = q_up M 178 0 0 → q_kI yX12_within mX12_within d [qL x1, qL 0, qL 3] M1 (fun v3 M2 => ((v3 = 0) → P (-2) M2) ∧ ((¬ (v3 = 0)) → q_kI yX12_within mX12_within d [qL x2, qL 0, qL 3] M2 (fun v5 M4 => ((¬ v5 = 0) → q_kI yX12_within mX12_within d [qL x3, qL 0, qL 40] M4 (fun v7 M6 => ((¬ v7 = 0) → (0 ≤ x1 ∧ x1 < (4 : Int)) ∧ (∀ M9 : q_Mem, M9 = q_up M6 205 x1 x2 → (0 ≤ x1 ∧ x1 < (4 : Int)) ∧ (∀ M11 : q_Mem, M11 = q_up M9 206 x1 x3 → q_v mX12_numbers d (qPI P) M11 64 [some (qR 178), some (qI x1), none, some (qI x3), some (qI 0)] []))) ∧ ((v7 = 0) → P (-3) M6))) ∧ ((v5 = 0) → P (-2) M4)))))) : q_v mX12_numbers d (qPI P) M 0 [some (qR 178), some (qI x1), some (qI x2), some (qI x3), none] [] := by
  refine qr_aload_n 0 1 rfl (x := 178) rfl dX12_numbers_0 ?_
  refine qr_iconst 1 2 rfl (q_l32 _ rfl) dX12_numbers_1 ?_
  refine qp_i 2 5 rfl ck12 0 (kk := 0) (by decide) (by decide +kernel) (by decide) rfl rfl wm_1326 rfl dX12_numbers_2 (fun M1 e_M1 => ?_)
  have h := h M1 e_M1
  refine qr_iload_n 5 6 rfl (x := x1) rfl dX12_numbers_5 ?_
  refine qr_i2l 6 7 rfl dX12_numbers_6 ?_
  refine qr_lconst 7 8 rfl (w := 0) (q_l64 _ rfl) (by decide) dX12_numbers_7 ?_
  refine qr_ldc2 8 11 rfl (v := 3) (q_l64 _ rfl) wm_1612 dX12_numbers_8 ?_
  refine qs_I 11 14 rfl (av := [qL x1, qL 0, qL 3]) ca_X12_within wm_1481 wm_1480 rfl rfl (Nat.le_of_ble_eq_true rfl) dX12_numbers_11 h (fun v3 M2 h => ?_)
  refine qr_if_eq 14 17 29 rfl (by decide) dX12_numbers_14 (fun c14 => ?_) (fun c14 => ?_)
  · have h := h.1 c14
    refine qr_bipush 29 31 rfl (q_l32 _ rfl) (by decide) dX12_numbers_29 ?_
    exact qe_i 31 rfl dX12_numbers_31 h
  · have h := h.2 c14
    refine qr_iload_n 17 18 rfl (x := x2) rfl dX12_numbers_17 ?_
    refine qr_i2l 18 19 rfl dX12_numbers_18 ?_
    refine qr_lconst 19 20 rfl (w := 0) (q_l64 _ rfl) (by decide) dX12_numbers_19 ?_
    refine qr_ldc2 20 23 rfl (v := 3) (q_l64 _ rfl) wm_1612 dX12_numbers_20 ?_
    refine qs_I 23 26 rfl (av := [qL x2, qL 0, qL 3]) ca_X12_within wm_1481 wm_1480 rfl rfl (Nat.le_of_ble_eq_true rfl) dX12_numbers_23 h (fun v5 M4 h => ?_)
    refine qr_if_ne 26 29 32 rfl (by decide) dX12_numbers_26 (fun c26 => ?_) (fun c26 => ?_)
    · have h := h.1 c26
      refine qr_iload_n 32 33 rfl (x := x3) rfl dX12_numbers_32 ?_
      refine qr_i2l 33 34 rfl dX12_numbers_33 ?_
      refine qr_lconst 34 35 rfl (w := 0) (q_l64 _ rfl) (by decide) dX12_numbers_34 ?_
      refine qr_ldc2 35 38 rfl (v := 40) (q_l64 _ rfl) wm_1835 dX12_numbers_35 ?_
      refine qs_I 38 41 rfl (av := [qL x3, qL 0, qL 40]) ca_X12_within wm_1481 wm_1480 rfl rfl (Nat.le_of_ble_eq_true rfl) dX12_numbers_38 h (fun v7 M6 h => ?_)
      refine qr_if_ne 41 44 47 rfl (by decide) dX12_numbers_41 (fun c41 => ?_) (fun c41 => ?_)
      · have h := h.1 c41
        refine qr_aload_n 47 48 rfl (x := 178) rfl dX12_numbers_47 ?_
        refine qr_getF 48 51 rfl ck12 45 (by decide) (b := 205) (by decide +kernel) rfl (by decide +kernel) (by decide +kernel) wm_1371 rfl dX12_numbers_48 ?_
        refine qr_iload_n 51 52 rfl (x := x1) rfl dX12_numbers_51 ?_
        refine qr_iload_n 52 53 rfl (x := x2) rfl dX12_numbers_52 ?_
        have hb8 := h.1
        have h := h.2
        refine qi_st 53 54 rfl (N := 4) (by decide +kernel) (by decide +kernel) hb8.1 hb8.2 dX12_numbers_53 (fun M9 e_M9 => ?_)
        have h := h M9 e_M9
        refine qr_aload_n 54 55 rfl (x := 178) rfl dX12_numbers_54 ?_
        refine qr_getF 55 58 rfl ck12 46 (by decide) (b := 206) (by decide +kernel) rfl (by decide +kernel) (by decide +kernel) wm_1372 rfl dX12_numbers_55 ?_
        refine qr_iload_n 58 59 rfl (x := x1) rfl dX12_numbers_58 ?_
        refine qr_iload_n 59 60 rfl (x := x3) rfl dX12_numbers_59 ?_
        have hb10 := h.1
        have h := h.2
        refine qi_st 60 61 rfl (N := 4) (by decide +kernel) (by decide +kernel) hb10.1 hb10.2 dX12_numbers_60 (fun M11 e_M11 => ?_)
        have h := h M11 e_M11
        refine qr_iconst 61 62 rfl (q_l32 _ rfl) dX12_numbers_61 ?_
        refine qr_istore 62 64 rfl (by decide) rfl rfl dX12_numbers_62 ?_
        exact qr_cut 64 (ls' := [some (qR 178), some (qI x1), none, some (qI x3), some (qI 0)]) (And.intro rfl (And.intro rfl (And.intro rfl (And.intro rfl trivial)))) h
      · have h := h.2 c41
        refine qr_bipush 44 46 rfl (q_l32 _ rfl) (by decide) dX12_numbers_44 ?_
        exact qe_i 46 rfl dX12_numbers_46 h
    · have h := h.2 c26
      refine qr_bipush 29 31 rfl (q_l32 _ rfl) (by decide) dX12_numbers_29 ?_
      exact qe_i 31 rfl dX12_numbers_31 h
theorem bX12_numbers_64 {d : Nat} {P : Int → q_Mem → Prop} {M : q_Mem} (x1 x3 x4 : Int) (h : ((x3 ≤ x4) → P 0 M) ∧ ((¬ (x3 ≤ x4)) → (0 ≤ (q_add (q_mul 40 x1) x4) ∧ (q_add (q_mul 40 x1) x4) < (160 : Int)) ∧ (∀ M2 : q_Mem, M2 = q_up M 207 (q_add (q_mul 40 x1) x4) 0 → q_v mX12_numbers d (qPI P) M2 64 [some (qR 178), some (qI x1), none, some (qI x3), some (qI (q_add x4 1))] []))) : q_v mX12_numbers d (qPI P) M 64 [some (qR 178), some (qI x1), none, some (qI x3), some (qI x4)] [] := by
  refine qr_iload 64 66 rfl (x := x4) rfl dX12_numbers_64 ?_
  refine qr_iload_n 66 67 rfl (x := x3) rfl dX12_numbers_66 ?_
  refine qr_icmp_ge 67 70 89 rfl (by decide) dX12_numbers_67 (fun c67 => ?_) (fun c67 => ?_)
  · have h := h.1 c67
    refine qr_iconst 89 90 rfl (q_l32 _ rfl) dX12_numbers_89 ?_
    exact qe_i 90 rfl dX12_numbers_90 h
  · have h := h.2 c67
    refine qr_aload_n 70 71 rfl (x := 178) rfl dX12_numbers_70 ?_
    refine qr_getF 71 74 rfl ck12 47 (by decide) (b := 207) (by decide +kernel) rfl (by decide +kernel) (by decide +kernel) wm_1373 rfl dX12_numbers_71 ?_
    refine qr_bipush 74 76 rfl (q_l32 _ rfl) (by decide) dX12_numbers_74 ?_
    refine qr_iload_n 76 77 rfl (x := x1) rfl dX12_numbers_76 ?_
    refine qr_imul 77 78 rfl dX12_numbers_77 ?_
    refine qr_iload 78 80 rfl (x := x4) rfl dX12_numbers_78 ?_
    refine qr_iadd 80 81 rfl dX12_numbers_80 ?_
    refine qr_lconst 81 82 rfl (w := 0) (q_l64 _ rfl) (by decide) dX12_numbers_81 ?_
    have hb1 := h.1
    have h := h.2
    refine ql_st 82 83 rfl (N := 160) (by decide +kernel) (by decide +kernel) hb1.1 hb1.2 dX12_numbers_82 (fun M2 e_M2 => ?_)
    have h := h M2 e_M2
    refine qr_iinc 83 86 rfl (by decide) (x := x4) rfl rfl rfl dX12_numbers_83 ?_
    refine qr_goto 86 64 (by decide) dX12_numbers_86 ?_
    exact h
theorem dX12_write_0 : decode cX12_write 0 = .ok (.aload_n 0, 1) := by decide +kernel
theorem dX12_write_1 : decode cX12_write 1 = .ok (.iconst 0, 1) := by decide +kernel
theorem dX12_write_2 : decode cX12_write 2 = .ok (.putfield 1, 3) := by decide +kernel
theorem dX12_write_5 : decode cX12_write 5 = .ok (.aload_n 0, 1) := by decide +kernel
theorem dX12_write_6 : decode cX12_write 6 = .ok (.iload_n 1, 1) := by decide +kernel
theorem dX12_write_7 : decode cX12_write 7 = .ok (.invokevirtual 367, 3) := by decide +kernel
theorem dX12_write_10 : decode cX12_write 10 = .ok (.istore 5, 2) := by decide +kernel
theorem dX12_write_12 : decode cX12_write 12 = .ok (.iload 5, 2) := by decide +kernel
theorem dX12_write_14 : decode cX12_write 14 = .ok (.ifCond .eq 7, 3) := by decide +kernel
theorem dX12_write_17 : decode cX12_write 17 = .ok (.iload 5, 2) := by decide +kernel
theorem dX12_write_19 : decode cX12_write 19 = .ok (.i2l, 1) := by decide +kernel
theorem dX12_write_20 : decode cX12_write 20 = .ok (.lreturn, 1) := by decide +kernel
theorem dX12_write_21 : decode cX12_write 21 = .ok (.iload_n 2, 1) := by decide +kernel
theorem dX12_write_22 : decode cX12_write 22 = .ok (.i2l, 1) := by decide +kernel
theorem dX12_write_23 : decode cX12_write 23 = .ok (.lconst 0, 1) := by decide +kernel
theorem dX12_write_24 : decode cX12_write 24 = .ok (.aload_n 0, 1) := by decide +kernel
theorem dX12_write_25 : decode cX12_write 25 = .ok (.getfield 101, 3) := by decide +kernel
theorem dX12_write_28 : decode cX12_write 28 = .ok (.iload_n 1, 1) := by decide +kernel
theorem dX12_write_29 : decode cX12_write 29 = .ok (.iaload, 1) := by decide +kernel
theorem dX12_write_30 : decode cX12_write 30 = .ok (.iconst 1, 1) := by decide +kernel
theorem dX12_write_31 : decode cX12_write 31 = .ok (.isub, 1) := by decide +kernel
theorem dX12_write_32 : decode cX12_write 32 = .ok (.i2l, 1) := by decide +kernel
theorem dX12_write_33 : decode cX12_write 33 = .ok (.invokestatic 176, 3) := by decide +kernel
theorem dX12_write_36 : decode cX12_write 36 = .ok (.ifCond .ne 7, 3) := by decide +kernel
theorem dX12_write_39 : decode cX12_write 39 = .ok (.ldc2_w 502, 3) := by decide +kernel
theorem dX12_write_42 : decode cX12_write 42 = .ok (.lreturn, 1) := by decide +kernel
theorem dX12_write_43 : decode cX12_write 43 = .ok (.aload_n 0, 1) := by decide +kernel
theorem dX12_write_44 : decode cX12_write 44 = .ok (.getfield 104, 3) := by decide +kernel
theorem dX12_write_47 : decode cX12_write 47 = .ok (.bipush 40, 2) := by decide +kernel
theorem dX12_write_49 : decode cX12_write 49 = .ok (.iload_n 1, 1) := by decide +kernel
theorem dX12_write_50 : decode cX12_write 50 = .ok (.imul, 1) := by decide +kernel
theorem dX12_write_51 : decode cX12_write 51 = .ok (.iload_n 2, 1) := by decide +kernel
theorem dX12_write_52 : decode cX12_write 52 = .ok (.iadd, 1) := by decide +kernel
theorem dX12_write_53 : decode cX12_write 53 = .ok (.lload_n 3, 1) := by decide +kernel
theorem dX12_write_54 : decode cX12_write 54 = .ok (.aload_n 0, 1) := by decide +kernel
theorem dX12_write_55 : decode cX12_write 55 = .ok (.getfield 98, 3) := by decide +kernel
theorem dX12_write_58 : decode cX12_write 58 = .ok (.iload_n 1, 1) := by decide +kernel
theorem dX12_write_59 : decode cX12_write 59 = .ok (.iaload, 1) := by decide +kernel
theorem dX12_write_60 : decode cX12_write 60 = .ok (.invokestatic 504, 3) := by decide +kernel
theorem dX12_write_63 : decode cX12_write 63 = .ok (.lastore, 1) := by decide +kernel
theorem dX12_write_64 : decode cX12_write 64 = .ok (.aload_n 0, 1) := by decide +kernel
theorem dX12_write_65 : decode cX12_write 65 = .ok (.getfield 104, 3) := by decide +kernel
theorem dX12_write_68 : decode cX12_write 68 = .ok (.bipush 40, 2) := by decide +kernel
theorem dX12_write_70 : decode cX12_write 70 = .ok (.iload_n 1, 1) := by decide +kernel
theorem dX12_write_71 : decode cX12_write 71 = .ok (.imul, 1) := by decide +kernel
theorem dX12_write_72 : decode cX12_write 72 = .ok (.iload_n 2, 1) := by decide +kernel
theorem dX12_write_73 : decode cX12_write 73 = .ok (.iadd, 1) := by decide +kernel
theorem dX12_write_74 : decode cX12_write 74 = .ok (.laload, 1) := by decide +kernel
theorem dX12_write_75 : decode cX12_write 75 = .ok (.lreturn, 1) := by decide +kernel
theorem bX12_write_0 {d : Nat} {P : Int → q_Mem → Prop} {M : q_Mem} (x1 x2 x3 : Int) (h : (∀ M1 : q_Mem, M1 = q_up M 178 0 0 → q_kI yX12_noTray mX12_noTray d [qR 178, qI x1] M1 (fun v3 M2 => ((v3 = 0) → (0 ≤ x1 ∧ x1 < (4 : Int)) ∧ (q_kI yX12_within mX12_within d [qL x2, qL 0, qL (q_sub (M2 206 x1) 1)] M2 (fun v6 M5 => ((¬ v6 = 0) → (0 ≤ x1 ∧ x1 < (4 : Int)) ∧ (q_kL yX12_cutTo mX12_cutTo d [qL x3, qI (M5 205 x1)] M5 (fun v9 M8 => (0 ≤ (q_add (q_mul 40 x1) x2) ∧ (q_add (q_mul 40 x1) x2) < (160 : Int)) ∧ (∀ M11 : q_Mem, M11 = q_up M8 207 (q_add (q_mul 40 x1) x2) v9 → (0 ≤ (q_add (q_mul 40 x1) x2) ∧ (q_add (q_mul 40 x1) x2) < (160 : Int)) ∧ (P (M11 207 (q_add (q_mul 40 x1) x2)) M11))))) ∧ ((v6 = 0) → P (-7) M5)))) ∧ ((¬ (v3 = 0)) → P v3 M2)))) : q_v mX12_write d (qPL P) M 0 [some (qR 178), some (qI x1), some (qI x2), some (qL x3), none, none] [] := by
  refine qr_aload_n 0 1 rfl (x := 178) rfl dX12_write_0 ?_
  refine qr_iconst 1 2 rfl (q_l32 _ rfl) dX12_write_1 ?_
  refine qp_i 2 5 rfl ck12 0 (kk := 0) (by decide) (by decide +kernel) (by decide) rfl rfl wm_1326 rfl dX12_write_2 (fun M1 e_M1 => ?_)
  have h := h M1 e_M1
  refine qr_aload_n 5 6 rfl (x := 178) rfl dX12_write_5 ?_
  refine qr_iload_n 6 7 rfl (x := x1) rfl dX12_write_6 ?_
  refine qw_I 7 10 rfl (av := [qI x1]) ca_X12_noTray wm_1803 wp_131 wm_1801 ck12 (by decide +kernel) rfl rfl (Nat.le_of_ble_eq_true rfl) dX12_write_7 h (fun v3 M2 h => ?_)
  refine qr_istore 10 12 rfl (by decide) rfl rfl dX12_write_10 ?_
  refine qr_iload 12 14 rfl (x := v3) rfl dX12_write_12 ?_
  refine qr_if_eq 14 17 21 rfl (by decide) dX12_write_14 (fun c14 => ?_) (fun c14 => ?_)
  · have h := h.1 c14
    refine qr_iload_n 21 22 rfl (x := x2) rfl dX12_write_21 ?_
    refine qr_i2l 22 23 rfl dX12_write_22 ?_
    refine qr_lconst 23 24 rfl (w := 0) (q_l64 _ rfl) (by decide) dX12_write_23 ?_
    refine qr_aload_n 24 25 rfl (x := 178) rfl dX12_write_24 ?_
    refine qr_getF 25 28 rfl ck12 46 (by decide) (b := 206) (by decide +kernel) rfl (by decide +kernel) (by decide +kernel) wm_1372 rfl dX12_write_25 ?_
    refine qr_iload_n 28 29 rfl (x := x1) rfl dX12_write_28 ?_
    have hb4 := h.1
    have h := h.2
    refine qi_ld 29 30 rfl (N := 4) (by decide +kernel) (by decide +kernel) hb4.1 hb4.2 dX12_write_29 ?_
    refine qr_iconst 30 31 rfl (q_l32 _ rfl) dX12_write_30 ?_
    refine qr_isub 31 32 rfl dX12_write_31 ?_
    refine qr_i2l 32 33 rfl dX12_write_32 ?_
    refine qs_I 33 36 rfl (av := [qL x2, qL 0, qL (q_sub (M2 206 x1) 1)]) ca_X12_within wm_1481 wm_1480 rfl rfl (Nat.le_of_ble_eq_true rfl) dX12_write_33 h (fun v6 M5 h => ?_)
    refine qr_if_ne 36 39 43 rfl (by decide) dX12_write_36 (fun c36 => ?_) (fun c36 => ?_)
    · have h := h.1 c36
      refine qr_aload_n 43 44 rfl (x := 178) rfl dX12_write_43 ?_
      refine qr_getF 44 47 rfl ck12 47 (by decide) (b := 207) (by decide +kernel) rfl (by decide +kernel) (by decide +kernel) wm_1373 rfl dX12_write_44 ?_
      refine qr_bipush 47 49 rfl (q_l32 _ rfl) (by decide) dX12_write_47 ?_
      refine qr_iload_n 49 50 rfl (x := x1) rfl dX12_write_49 ?_
      refine qr_imul 50 51 rfl dX12_write_50 ?_
      refine qr_iload_n 51 52 rfl (x := x2) rfl dX12_write_51 ?_
      refine qr_iadd 52 53 rfl dX12_write_52 ?_
      refine qr_lload_n 53 54 rfl (x := x3) rfl dX12_write_53 ?_
      refine qr_aload_n 54 55 rfl (x := 178) rfl dX12_write_54 ?_
      refine qr_getF 55 58 rfl ck12 45 (by decide) (b := 205) (by decide +kernel) rfl (by decide +kernel) (by decide +kernel) wm_1371 rfl dX12_write_55 ?_
      refine qr_iload_n 58 59 rfl (x := x1) rfl dX12_write_58 ?_
      have hb7 := h.1
      have h := h.2
      refine qi_ld 59 60 rfl (N := 4) (by decide +kernel) (by decide +kernel) hb7.1 hb7.2 dX12_write_59 ?_
      refine qs_L 60 63 rfl (av := [qL x3, qI (M5 205 x1)]) ca_X12_cutTo wm_2023 wm_2022 rfl rfl (Nat.le_of_ble_eq_true rfl) dX12_write_60 h (fun v9 M8 h => ?_)
      have hb10 := h.1
      have h := h.2
      refine ql_st 63 64 rfl (N := 160) (by decide +kernel) (by decide +kernel) hb10.1 hb10.2 dX12_write_63 (fun M11 e_M11 => ?_)
      have h := h M11 e_M11
      refine qr_aload_n 64 65 rfl (x := 178) rfl dX12_write_64 ?_
      refine qr_getF 65 68 rfl ck12 47 (by decide) (b := 207) (by decide +kernel) rfl (by decide +kernel) (by decide +kernel) wm_1373 rfl dX12_write_65 ?_
      refine qr_bipush 68 70 rfl (q_l32 _ rfl) (by decide) dX12_write_68 ?_
      refine qr_iload_n 70 71 rfl (x := x1) rfl dX12_write_70 ?_
      refine qr_imul 71 72 rfl dX12_write_71 ?_
      refine qr_iload_n 72 73 rfl (x := x2) rfl dX12_write_72 ?_
      refine qr_iadd 73 74 rfl dX12_write_73 ?_
      have hb12 := h.1
      have h := h.2
      refine ql_ld 74 75 rfl (N := 160) (by decide +kernel) (by decide +kernel) hb12.1 hb12.2 dX12_write_74 ?_
      exact qe_l 75 rfl dX12_write_75 h
    · have h := h.2 c36
      refine qr_ldc2 39 42 rfl (v := (-7)) (q_l64 _ rfl) wm_2021 dX12_write_39 ?_
      exact qe_l 42 rfl dX12_write_42 h
  · have h := h.2 c14
    refine qr_iload 17 19 rfl (x := v3) rfl dX12_write_17 ?_
    refine qr_i2l 19 20 rfl dX12_write_19 ?_
    exact qe_l 20 rfl dX12_write_20 h
theorem dX12_lists_0 : decode cX12_lists 0 = .ok (.aload_n 0, 1) := by decide +kernel
theorem dX12_lists_1 : decode cX12_lists 1 = .ok (.iconst 0, 1) := by decide +kernel
theorem dX12_lists_2 : decode cX12_lists 2 = .ok (.putfield 1, 3) := by decide +kernel
theorem dX12_lists_5 : decode cX12_lists 5 = .ok (.aload_n 0, 1) := by decide +kernel
theorem dX12_lists_6 : decode cX12_lists 6 = .ok (.invokevirtual 290, 3) := by decide +kernel
theorem dX12_lists_9 : decode cX12_lists 9 = .ok (.iload_n 1, 1) := by decide +kernel
theorem dX12_lists_10 : decode cX12_lists 10 = .ok (.i2l, 1) := by decide +kernel
theorem dX12_lists_11 : decode cX12_lists 11 = .ok (.lconst 0, 1) := by decide +kernel
theorem dX12_lists_12 : decode cX12_lists 12 = .ok (.ldc2_w 300, 3) := by decide +kernel
theorem dX12_lists_15 : decode cX12_lists 15 = .ok (.invokestatic 176, 3) := by decide +kernel
theorem dX12_lists_18 : decode cX12_lists 18 = .ok (.ifCond .eq 12, 3) := by decide +kernel
theorem dX12_lists_21 : decode cX12_lists 21 = .ok (.aload_n 0, 1) := by decide +kernel
theorem dX12_lists_22 : decode cX12_lists 22 = .ok (.iload_n 2, 1) := by decide +kernel
theorem dX12_lists_23 : decode cX12_lists 23 = .ok (.i2l, 1) := by decide +kernel
theorem dX12_lists_24 : decode cX12_lists 24 = .ok (.invokevirtual 388, 3) := by decide +kernel
theorem dX12_lists_27 : decode cX12_lists 27 = .ok (.ifCond .ne 6, 3) := by decide +kernel
theorem dX12_lists_30 : decode cX12_lists 30 = .ok (.bipush (-2), 2) := by decide +kernel
theorem dX12_lists_32 : decode cX12_lists 32 = .ok (.ireturn, 1) := by decide +kernel
theorem dX12_lists_33 : decode cX12_lists 33 = .ok (.aload_n 0, 1) := by decide +kernel
theorem dX12_lists_34 : decode cX12_lists 34 = .ok (.getfield 98, 3) := by decide +kernel
theorem dX12_lists_37 : decode cX12_lists 37 = .ok (.iload_n 1, 1) := by decide +kernel
theorem dX12_lists_38 : decode cX12_lists 38 = .ok (.iaload, 1) := by decide +kernel
theorem dX12_lists_39 : decode cX12_lists 39 = .ok (.iconst (-1), 1) := by decide +kernel
theorem dX12_lists_40 : decode cX12_lists 40 = .ok (.if_icmp .ne 6, 3) := by decide +kernel
theorem dX12_lists_43 : decode cX12_lists 43 = .ok (.bipush (-6), 2) := by decide +kernel
theorem dX12_lists_45 : decode cX12_lists 45 = .ok (.ireturn, 1) := by decide +kernel
theorem dX12_lists_46 : decode cX12_lists 46 = .ok (.aload_n 0, 1) := by decide +kernel
theorem dX12_lists_47 : decode cX12_lists 47 = .ok (.getfield 51, 3) := by decide +kernel
theorem dX12_lists_50 : decode cX12_lists 50 = .ok (.iload_n 2, 1) := by decide +kernel
theorem dX12_lists_51 : decode cX12_lists 51 = .ok (.iaload, 1) := by decide +kernel
theorem dX12_lists_52 : decode cX12_lists 52 = .ok (.aload_n 0, 1) := by decide +kernel
theorem dX12_lists_53 : decode cX12_lists 53 = .ok (.getfield 101, 3) := by decide +kernel
theorem dX12_lists_56 : decode cX12_lists 56 = .ok (.iload_n 1, 1) := by decide +kernel
theorem dX12_lists_57 : decode cX12_lists 57 = .ok (.iaload, 1) := by decide +kernel
theorem dX12_lists_58 : decode cX12_lists 58 = .ok (.if_icmp .ge 12, 3) := by decide +kernel
theorem dX12_lists_61 : decode cX12_lists 61 = .ok (.aload_n 0, 1) := by decide +kernel
theorem dX12_lists_62 : decode cX12_lists 62 = .ok (.getfield 51, 3) := by decide +kernel
theorem dX12_lists_65 : decode cX12_lists 65 = .ok (.iload_n 2, 1) := by decide +kernel
theorem dX12_lists_66 : decode cX12_lists 66 = .ok (.iaload, 1) := by decide +kernel
theorem dX12_lists_67 : decode cX12_lists 67 = .ok (.goto 9, 3) := by decide +kernel
theorem dX12_lists_70 : decode cX12_lists 70 = .ok (.aload_n 0, 1) := by decide +kernel
theorem dX12_lists_71 : decode cX12_lists 71 = .ok (.getfield 101, 3) := by decide +kernel
theorem dX12_lists_74 : decode cX12_lists 74 = .ok (.iload_n 1, 1) := by decide +kernel
theorem dX12_lists_75 : decode cX12_lists 75 = .ok (.iaload, 1) := by decide +kernel
theorem dX12_lists_76 : decode cX12_lists 76 = .ok (.istore_n 3, 1) := by decide +kernel
theorem dX12_lists_77 : decode cX12_lists 77 = .ok (.iconst 0, 1) := by decide +kernel
theorem dX12_lists_78 : decode cX12_lists 78 = .ok (.istore 4, 2) := by decide +kernel
theorem dX12_lists_80 : decode cX12_lists 80 = .ok (.iload 4, 2) := by decide +kernel
theorem dX12_lists_82 : decode cX12_lists 82 = .ok (.iload_n 3, 1) := by decide +kernel
theorem dX12_lists_83 : decode cX12_lists 83 = .ok (.if_icmp .ge 29, 3) := by decide +kernel
theorem dX12_lists_86 : decode cX12_lists 86 = .ok (.aload_n 0, 1) := by decide +kernel
theorem dX12_lists_87 : decode cX12_lists 87 = .ok (.getfield 104, 3) := by decide +kernel
theorem dX12_lists_90 : decode cX12_lists 90 = .ok (.bipush 40, 2) := by decide +kernel
theorem dX12_lists_92 : decode cX12_lists 92 = .ok (.iload_n 1, 1) := by decide +kernel
theorem dX12_lists_93 : decode cX12_lists 93 = .ok (.imul, 1) := by decide +kernel
theorem dX12_lists_94 : decode cX12_lists 94 = .ok (.iload 4, 2) := by decide +kernel
theorem dX12_lists_96 : decode cX12_lists 96 = .ok (.iadd, 1) := by decide +kernel
theorem dX12_lists_97 : decode cX12_lists 97 = .ok (.aload_n 0, 1) := by decide +kernel
theorem dX12_lists_98 : decode cX12_lists 98 = .ok (.iload_n 2, 1) := by decide +kernel
theorem dX12_lists_99 : decode cX12_lists 99 = .ok (.iload 4, 2) := by decide +kernel
theorem dX12_lists_101 : decode cX12_lists 101 = .ok (.invokevirtual 397, 3) := by decide +kernel
theorem dX12_lists_104 : decode cX12_lists 104 = .ok (.i2l, 1) := by decide +kernel
theorem dX12_lists_105 : decode cX12_lists 105 = .ok (.lastore, 1) := by decide +kernel
theorem dX12_lists_106 : decode cX12_lists 106 = .ok (.iinc 4 1, 3) := by decide +kernel
theorem dX12_lists_109 : decode cX12_lists 109 = .ok (.goto (-29), 3) := by decide +kernel
theorem dX12_lists_112 : decode cX12_lists 112 = .ok (.iload_n 3, 1) := by decide +kernel
theorem dX12_lists_113 : decode cX12_lists 113 = .ok (.ireturn, 1) := by decide +kernel
theorem bX12_lists_0 {d : Nat} {P : Int → q_Mem → Prop} {M : q_Mem} (x1 x2 : Int) (h : (∀ M1 : q_Mem, M1 = q_up M 178 0 0 → q_kU yX12_laysFaces mX12_laysFaces d [qR 178] M1 (fun M2 => q_kI yX12_within mX12_within d [qL x1, qL 0, qL 3] M2 (fun v4 M3 => ((v4 = 0) → P (-2) M3) ∧ ((¬ (v4 = 0)) → q_kI yX12_isFace mX12_isFace d [qR 178, qL x2] M3 (fun v6 M5 => ((¬ v6 = 0) → (0 ≤ x1 ∧ x1 < (4 : Int)) ∧ (((¬ (M5 205 x1) = ((-1) : Int)) → (0 ≤ x2 ∧ x2 < (16 : Int)) ∧ ((0 ≤ x1 ∧ x1 < (4 : Int)) ∧ ((((M5 206 x1) ≤ (M5 190 x2)) → (0 ≤ x1 ∧ x1 < (4 : Int)) ∧ (∀ x3_11 : Int, x3_11 = (M5 206 x1) → q_v mX12_lists d (qPI P) M5 80 [some (qR 178), some (qI x1), some (qI x2), some (qI x3_11), some (qI 0)] [])) ∧ ((¬ ((M5 206 x1) ≤ (M5 190 x2))) → (0 ≤ x2 ∧ x2 < (16 : Int)) ∧ (∀ x3_13 : Int, x3_13 = (M5 190 x2) → q_v mX12_lists d (qPI P) M5 80 [some (qR 178), some (qI x1), some (qI x2), some (qI x3_13), some (qI 0)] []))))) ∧ (((M5 205 x1) = ((-1) : Int)) → P (-6) M5))) ∧ ((v6 = 0) → P (-2) M5))))))) : q_v mX12_lists d (qPI P) M 0 [some (qR 178), some (qI x1), some (qI x2), none, none] [] := by
  refine qr_aload_n 0 1 rfl (x := 178) rfl dX12_lists_0 ?_
  refine qr_iconst 1 2 rfl (q_l32 _ rfl) dX12_lists_1 ?_
  refine qp_i 2 5 rfl ck12 0 (kk := 0) (by decide) (by decide +kernel) (by decide) rfl rfl wm_1326 rfl dX12_lists_2 (fun M1 e_M1 => ?_)
  have h := h M1 e_M1
  refine qr_aload_n 5 6 rfl (x := 178) rfl dX12_lists_5 ?_
  refine qw_U 6 9 rfl (av := []) ca_X12_laysFaces wm_1615 wp_102 wm_1613 ck12 (by decide +kernel) rfl rfl (Nat.le_of_ble_eq_true rfl) dX12_lists_6 h (fun M2 h => ?_)
  refine qr_iload_n 9 10 rfl (x := x1) rfl dX12_lists_9 ?_
  refine qr_i2l 10 11 rfl dX12_lists_10 ?_
  refine qr_lconst 11 12 rfl (w := 0) (q_l64 _ rfl) (by decide) dX12_lists_11 ?_
  refine qr_ldc2 12 15 rfl (v := 3) (q_l64 _ rfl) wm_1612 dX12_lists_12 ?_
  refine qs_I 15 18 rfl (av := [qL x1, qL 0, qL 3]) ca_X12_within wm_1481 wm_1480 rfl rfl (Nat.le_of_ble_eq_true rfl) dX12_lists_15 h (fun v4 M3 h => ?_)
  refine qr_if_eq 18 21 30 rfl (by decide) dX12_lists_18 (fun c18 => ?_) (fun c18 => ?_)
  · have h := h.1 c18
    refine qr_bipush 30 32 rfl (q_l32 _ rfl) (by decide) dX12_lists_30 ?_
    exact qe_i 32 rfl dX12_lists_32 h
  · have h := h.2 c18
    refine qr_aload_n 21 22 rfl (x := 178) rfl dX12_lists_21 ?_
    refine qr_iload_n 22 23 rfl (x := x2) rfl dX12_lists_22 ?_
    refine qr_i2l 23 24 rfl dX12_lists_23 ?_
    refine qw_I 24 27 rfl (av := [qL x2]) ca_X12_isFace wm_1855 wp_138 wm_1853 ck12 (by decide +kernel) rfl rfl (Nat.le_of_ble_eq_true rfl) dX12_lists_24 h (fun v6 M5 h => ?_)
    refine qr_if_ne 27 30 33 rfl (by decide) dX12_lists_27 (fun c27 => ?_) (fun c27 => ?_)
    · have h := h.1 c27
      refine qr_aload_n 33 34 rfl (x := 178) rfl dX12_lists_33 ?_
      refine qr_getF 34 37 rfl ck12 45 (by decide) (b := 205) (by decide +kernel) rfl (by decide +kernel) (by decide +kernel) wm_1371 rfl dX12_lists_34 ?_
      refine qr_iload_n 37 38 rfl (x := x1) rfl dX12_lists_37 ?_
      have hb7 := h.1
      have h := h.2
      refine qi_ld 38 39 rfl (N := 4) (by decide +kernel) (by decide +kernel) hb7.1 hb7.2 dX12_lists_38 ?_
      refine qr_iconst 39 40 rfl (q_l32 _ rfl) dX12_lists_39 ?_
      refine qr_icmp_ne 40 43 46 rfl (by decide) dX12_lists_40 (fun c40 => ?_) (fun c40 => ?_)
      · have h := h.1 c40
        refine qr_aload_n 46 47 rfl (x := 178) rfl dX12_lists_46 ?_
        refine qr_getF 47 50 rfl ck12 22 (by decide) (b := 190) (by decide +kernel) rfl (by decide +kernel) (by decide +kernel) wm_1348 rfl dX12_lists_47 ?_
        refine qr_iload_n 50 51 rfl (x := x2) rfl dX12_lists_50 ?_
        have hb8 := h.1
        have h := h.2
        refine qi_ld 51 52 rfl (N := 16) (by decide +kernel) (by decide +kernel) hb8.1 hb8.2 dX12_lists_51 ?_
        refine qr_aload_n 52 53 rfl (x := 178) rfl dX12_lists_52 ?_
        refine qr_getF 53 56 rfl ck12 46 (by decide) (b := 206) (by decide +kernel) rfl (by decide +kernel) (by decide +kernel) wm_1372 rfl dX12_lists_53 ?_
        refine qr_iload_n 56 57 rfl (x := x1) rfl dX12_lists_56 ?_
        have hb9 := h.1
        have h := h.2
        refine qi_ld 57 58 rfl (N := 4) (by decide +kernel) (by decide +kernel) hb9.1 hb9.2 dX12_lists_57 ?_
        refine qr_icmp_ge 58 61 70 rfl (by decide) dX12_lists_58 (fun c58 => ?_) (fun c58 => ?_)
        · have h := h.1 c58
          refine qr_aload_n 70 71 rfl (x := 178) rfl dX12_lists_70 ?_
          refine qr_getF 71 74 rfl ck12 46 (by decide) (b := 206) (by decide +kernel) rfl (by decide +kernel) (by decide +kernel) wm_1372 rfl dX12_lists_71 ?_
          refine qr_iload_n 74 75 rfl (x := x1) rfl dX12_lists_74 ?_
          have hb10 := h.1
          have h := h.2
          refine qi_ld 75 76 rfl (N := 4) (by decide +kernel) (by decide +kernel) hb10.1 hb10.2 dX12_lists_75 ?_
          refine qn_i 76 (fun x3_11 e_x3_11 => ?_)
          have h := h x3_11 e_x3_11
          refine qr_istore_n 76 77 rfl (by decide) rfl rfl dX12_lists_76 ?_
          refine qr_iconst 77 78 rfl (q_l32 _ rfl) dX12_lists_77 ?_
          refine qr_istore 78 80 rfl (by decide) rfl rfl dX12_lists_78 ?_
          exact h
        · have h := h.2 c58
          refine qr_aload_n 61 62 rfl (x := 178) rfl dX12_lists_61 ?_
          refine qr_getF 62 65 rfl ck12 22 (by decide) (b := 190) (by decide +kernel) rfl (by decide +kernel) (by decide +kernel) wm_1348 rfl dX12_lists_62 ?_
          refine qr_iload_n 65 66 rfl (x := x2) rfl dX12_lists_65 ?_
          have hb12 := h.1
          have h := h.2
          refine qi_ld 66 67 rfl (N := 16) (by decide +kernel) (by decide +kernel) hb12.1 hb12.2 dX12_lists_66 ?_
          refine qr_goto 67 76 (by decide) dX12_lists_67 ?_
          refine qn_i 76 (fun x3_13 e_x3_13 => ?_)
          have h := h x3_13 e_x3_13
          refine qr_istore_n 76 77 rfl (by decide) rfl rfl dX12_lists_76 ?_
          refine qr_iconst 77 78 rfl (q_l32 _ rfl) dX12_lists_77 ?_
          refine qr_istore 78 80 rfl (by decide) rfl rfl dX12_lists_78 ?_
          exact h
      · have h := h.2 c40
        refine qr_bipush 43 45 rfl (q_l32 _ rfl) (by decide) dX12_lists_43 ?_
        exact qe_i 45 rfl dX12_lists_45 h
    · have h := h.2 c27
      refine qr_bipush 30 32 rfl (q_l32 _ rfl) (by decide) dX12_lists_30 ?_
      exact qe_i 32 rfl dX12_lists_32 h
theorem bX12_lists_80 {d : Nat} {P : Int → q_Mem → Prop} {M : q_Mem} (x1 x2 x3 x4 : Int) (h : ((x3 ≤ x4) → P x3 M) ∧ ((¬ (x3 ≤ x4)) → q_kI yX12_dartAt mX12_dartAt d [qR 178, qI x2, qI x4] M (fun v2 M1 => (0 ≤ (q_add (q_mul 40 x1) x4) ∧ (q_add (q_mul 40 x1) x4) < (160 : Int)) ∧ (∀ M4 : q_Mem, M4 = q_up M1 207 (q_add (q_mul 40 x1) x4) v2 → q_v mX12_lists d (qPI P) M4 80 [some (qR 178), some (qI x1), some (qI x2), some (qI x3), some (qI (q_add x4 1))] [])))) : q_v mX12_lists d (qPI P) M 80 [some (qR 178), some (qI x1), some (qI x2), some (qI x3), some (qI x4)] [] := by
  refine qr_iload 80 82 rfl (x := x4) rfl dX12_lists_80 ?_
  refine qr_iload_n 82 83 rfl (x := x3) rfl dX12_lists_82 ?_
  refine qr_icmp_ge 83 86 112 rfl (by decide) dX12_lists_83 (fun c83 => ?_) (fun c83 => ?_)
  · have h := h.1 c83
    refine qr_iload_n 112 113 rfl (x := x3) rfl dX12_lists_112 ?_
    exact qe_i 113 rfl dX12_lists_113 h
  · have h := h.2 c83
    refine qr_aload_n 86 87 rfl (x := 178) rfl dX12_lists_86 ?_
    refine qr_getF 87 90 rfl ck12 47 (by decide) (b := 207) (by decide +kernel) rfl (by decide +kernel) (by decide +kernel) wm_1373 rfl dX12_lists_87 ?_
    refine qr_bipush 90 92 rfl (q_l32 _ rfl) (by decide) dX12_lists_90 ?_
    refine qr_iload_n 92 93 rfl (x := x1) rfl dX12_lists_92 ?_
    refine qr_imul 93 94 rfl dX12_lists_93 ?_
    refine qr_iload 94 96 rfl (x := x4) rfl dX12_lists_94 ?_
    refine qr_iadd 96 97 rfl dX12_lists_96 ?_
    refine qr_aload_n 97 98 rfl (x := 178) rfl dX12_lists_97 ?_
    refine qr_iload_n 98 99 rfl (x := x2) rfl dX12_lists_98 ?_
    refine qr_iload 99 101 rfl (x := x4) rfl dX12_lists_99 ?_
    refine qw_I 101 104 rfl (av := [qI x2, qI x4]) ca_X12_dartAt wm_1867 wp_140 wm_1865 ck12 (by decide +kernel) rfl rfl (Nat.le_of_ble_eq_true rfl) dX12_lists_101 h (fun v2 M1 h => ?_)
    refine qr_i2l 104 105 rfl dX12_lists_104 ?_
    have hb3 := h.1
    have h := h.2
    refine ql_st 105 106 rfl (N := 160) (by decide +kernel) (by decide +kernel) hb3.1 hb3.2 dX12_lists_105 (fun M4 e_M4 => ?_)
    have h := h M4 e_M4
    refine qr_iinc 106 109 rfl (by decide) (x := x4) rfl rfl rfl dX12_lists_106 ?_
    refine qr_goto 109 80 (by decide) dX12_lists_109 ?_
    exact h
theorem dX12_image_0 : decode cX12_image 0 = .ok (.aload_n 0, 1) := by decide +kernel
theorem dX12_image_1 : decode cX12_image 1 = .ok (.iconst 0, 1) := by decide +kernel
theorem dX12_image_2 : decode cX12_image 2 = .ok (.putfield 1, 3) := by decide +kernel
theorem dX12_image_5 : decode cX12_image 5 = .ok (.iload_n 1, 1) := by decide +kernel
theorem dX12_image_6 : decode cX12_image 6 = .ok (.i2l, 1) := by decide +kernel
theorem dX12_image_7 : decode cX12_image 7 = .ok (.lconst 0, 1) := by decide +kernel
theorem dX12_image_8 : decode cX12_image 8 = .ok (.lconst 1, 1) := by decide +kernel
theorem dX12_image_9 : decode cX12_image 9 = .ok (.invokestatic 176, 3) := by decide +kernel
theorem dX12_image_12 : decode cX12_image 12 = .ok (.ifCond .ne 6, 3) := by decide +kernel
theorem dX12_image_15 : decode cX12_image 15 = .ok (.bipush (-2), 2) := by decide +kernel
theorem dX12_image_17 : decode cX12_image 17 = .ok (.ireturn, 1) := by decide +kernel
theorem dX12_image_18 : decode cX12_image 18 = .ok (.iconst 0, 1) := by decide +kernel
theorem dX12_image_19 : decode cX12_image 19 = .ok (.istore_n 2, 1) := by decide +kernel
theorem dX12_image_20 : decode cX12_image 20 = .ok (.iload_n 2, 1) := by decide +kernel
theorem dX12_image_21 : decode cX12_image 21 = .ok (.sipush 1504, 3) := by decide +kernel
theorem dX12_image_24 : decode cX12_image 24 = .ok (.if_icmp .ge 29, 3) := by decide +kernel
theorem dX12_image_27 : decode cX12_image 27 = .ok (.aload_n 0, 1) := by decide +kernel
theorem dX12_image_28 : decode cX12_image 28 = .ok (.getfield 13, 3) := by decide +kernel
theorem dX12_image_31 : decode cX12_image 31 = .ok (.sipush 1504, 3) := by decide +kernel
theorem dX12_image_34 : decode cX12_image 34 = .ok (.iload_n 1, 1) := by decide +kernel
theorem dX12_image_35 : decode cX12_image 35 = .ok (.iconst 1, 1) := by decide +kernel
theorem dX12_image_36 : decode cX12_image 36 = .ok (.iadd, 1) := by decide +kernel
theorem dX12_image_37 : decode cX12_image 37 = .ok (.imul, 1) := by decide +kernel
theorem dX12_image_38 : decode cX12_image 38 = .ok (.iload_n 2, 1) := by decide +kernel
theorem dX12_image_39 : decode cX12_image 39 = .ok (.iadd, 1) := by decide +kernel
theorem dX12_image_40 : decode cX12_image 40 = .ok (.aload_n 0, 1) := by decide +kernel
theorem dX12_image_41 : decode cX12_image 41 = .ok (.getfield 13, 3) := by decide +kernel
theorem dX12_image_44 : decode cX12_image 44 = .ok (.iload_n 2, 1) := by decide +kernel
theorem dX12_image_45 : decode cX12_image 45 = .ok (.iaload, 1) := by decide +kernel
theorem dX12_image_46 : decode cX12_image 46 = .ok (.iastore, 1) := by decide +kernel
theorem dX12_image_47 : decode cX12_image 47 = .ok (.iinc 2 1, 3) := by decide +kernel
theorem dX12_image_50 : decode cX12_image 50 = .ok (.goto (-30), 3) := by decide +kernel
theorem dX12_image_53 : decode cX12_image 53 = .ok (.aload_n 0, 1) := by decide +kernel
theorem dX12_image_54 : decode cX12_image 54 = .ok (.getfield 17, 3) := by decide +kernel
theorem dX12_image_57 : decode cX12_image 57 = .ok (.iload_n 1, 1) := by decide +kernel
theorem dX12_image_58 : decode cX12_image 58 = .ok (.iconst 1, 1) := by decide +kernel
theorem dX12_image_59 : decode cX12_image 59 = .ok (.bastore, 1) := by decide +kernel
theorem dX12_image_60 : decode cX12_image 60 = .ok (.iconst 0, 1) := by decide +kernel
theorem dX12_image_61 : decode cX12_image 61 = .ok (.ireturn, 1) := by decide +kernel
theorem bX12_image_0 {d : Nat} {P : Int → q_Mem → Prop} {M : q_Mem} (x1 : Int) (h : (∀ M1 : q_Mem, M1 = q_up M 178 0 0 → q_kI yX12_within mX12_within d [qL x1, qL 0, qL 1] M1 (fun v3 M2 => ((¬ v3 = 0) → q_v mX12_image d (qPI P) M2 20 [some (qR 178), some (qI x1), some (qI 0)] []) ∧ ((v3 = 0) → P (-2) M2)))) : q_v mX12_image d (qPI P) M 0 [some (qR 178), some (qI x1), none] [] := by
  refine qr_aload_n 0 1 rfl (x := 178) rfl dX12_image_0 ?_
  refine qr_iconst 1 2 rfl (q_l32 _ rfl) dX12_image_1 ?_
  refine qp_i 2 5 rfl ck12 0 (kk := 0) (by decide) (by decide +kernel) (by decide) rfl rfl wm_1326 rfl dX12_image_2 (fun M1 e_M1 => ?_)
  have h := h M1 e_M1
  refine qr_iload_n 5 6 rfl (x := x1) rfl dX12_image_5 ?_
  refine qr_i2l 6 7 rfl dX12_image_6 ?_
  refine qr_lconst 7 8 rfl (w := 0) (q_l64 _ rfl) (by decide) dX12_image_7 ?_
  refine qr_lconst 8 9 rfl (w := 1) (q_l64 _ rfl) (by decide) dX12_image_8 ?_
  refine qs_I 9 12 rfl (av := [qL x1, qL 0, qL 1]) ca_X12_within wm_1481 wm_1480 rfl rfl (Nat.le_of_ble_eq_true rfl) dX12_image_9 h (fun v3 M2 h => ?_)
  refine qr_if_ne 12 15 18 rfl (by decide) dX12_image_12 (fun c12 => ?_) (fun c12 => ?_)
  · have h := h.1 c12
    refine qr_iconst 18 19 rfl (q_l32 _ rfl) dX12_image_18 ?_
    refine qr_istore_n 19 20 rfl (by decide) rfl rfl dX12_image_19 ?_
    exact h
  · have h := h.2 c12
    refine qr_bipush 15 17 rfl (q_l32 _ rfl) (by decide) dX12_image_15 ?_
    exact qe_i 17 rfl dX12_image_17 h
theorem bX12_image_20 {d : Nat} {P : Int → q_Mem → Prop} {M : q_Mem} (x1 x2 : Int) (h : (((1504 : Int) ≤ x2) → (0 ≤ x1 ∧ x1 < (2 : Int)) ∧ (∀ M2 : q_Mem, M2 = q_up M 180 x1 (q_nz 1) → P 0 M2)) ∧ ((¬ ((1504 : Int) ≤ x2)) → (0 ≤ x2 ∧ x2 < (4512 : Int)) ∧ ((0 ≤ (q_add (q_mul 1504 (q_add x1 1)) x2) ∧ (q_add (q_mul 1504 (q_add x1 1)) x2) < (4512 : Int)) ∧ (∀ M5 : q_Mem, M5 = q_up M 179 (q_add (q_mul 1504 (q_add x1 1)) x2) (M 179 x2) → q_v mX12_image d (qPI P) M5 20 [some (qR 178), some (qI x1), some (qI (q_add x2 1))] [])))) : q_v mX12_image d (qPI P) M 20 [some (qR 178), some (qI x1), some (qI x2)] [] := by
  refine qr_iload_n 20 21 rfl (x := x2) rfl dX12_image_20 ?_
  refine qr_sipush 21 24 rfl (q_l32 _ rfl) (by decide) dX12_image_21 ?_
  refine qr_icmp_ge 24 27 53 rfl (by decide) dX12_image_24 (fun c24 => ?_) (fun c24 => ?_)
  · have h := h.1 c24
    refine qr_aload_n 53 54 rfl (x := 178) rfl dX12_image_53 ?_
    refine qr_getF 54 57 rfl ck12 2 (by decide) (b := 180) (by decide +kernel) rfl (by decide +kernel) (by decide +kernel) wm_1328 rfl dX12_image_54 ?_
    refine qr_iload_n 57 58 rfl (x := x1) rfl dX12_image_57 ?_
    refine qr_iconst 58 59 rfl (q_l32 _ rfl) dX12_image_58 ?_
    have hb1 := h.1
    have h := h.2
    refine qz_st 59 60 rfl (N := 2) (by decide +kernel) (by decide +kernel) hb1.1 hb1.2 dX12_image_59 (fun M2 e_M2 => ?_)
    have h := h M2 e_M2
    refine qr_iconst 60 61 rfl (q_l32 _ rfl) dX12_image_60 ?_
    exact qe_i 61 rfl dX12_image_61 h
  · have h := h.2 c24
    refine qr_aload_n 27 28 rfl (x := 178) rfl dX12_image_27 ?_
    refine qr_getF 28 31 rfl ck12 1 (by decide) (b := 179) (by decide +kernel) rfl (by decide +kernel) (by decide +kernel) wm_1327 rfl dX12_image_28 ?_
    refine qr_sipush 31 34 rfl (q_l32 _ rfl) (by decide) dX12_image_31 ?_
    refine qr_iload_n 34 35 rfl (x := x1) rfl dX12_image_34 ?_
    refine qr_iconst 35 36 rfl (q_l32 _ rfl) dX12_image_35 ?_
    refine qr_iadd 36 37 rfl dX12_image_36 ?_
    refine qr_imul 37 38 rfl dX12_image_37 ?_
    refine qr_iload_n 38 39 rfl (x := x2) rfl dX12_image_38 ?_
    refine qr_iadd 39 40 rfl dX12_image_39 ?_
    refine qr_aload_n 40 41 rfl (x := 178) rfl dX12_image_40 ?_
    refine qr_getF 41 44 rfl ck12 1 (by decide) (b := 179) (by decide +kernel) rfl (by decide +kernel) (by decide +kernel) wm_1327 rfl dX12_image_41 ?_
    refine qr_iload_n 44 45 rfl (x := x2) rfl dX12_image_44 ?_
    have hb3 := h.1
    have h := h.2
    refine qi_ld 45 46 rfl (N := 4512) (by decide +kernel) (by decide +kernel) hb3.1 hb3.2 dX12_image_45 ?_
    have hb4 := h.1
    have h := h.2
    refine qi_st 46 47 rfl (N := 4512) (by decide +kernel) (by decide +kernel) hb4.1 hb4.2 dX12_image_46 (fun M5 e_M5 => ?_)
    have h := h M5 e_M5
    refine qr_iinc 47 50 rfl (by decide) (x := x2) rfl rfl rfl dX12_image_47 ?_
    refine qr_goto 50 20 (by decide) dX12_image_50 ?_
    exact h
theorem dX12_restore_0 : decode cX12_restore 0 = .ok (.aload_n 0, 1) := by decide +kernel
theorem dX12_restore_1 : decode cX12_restore 1 = .ok (.iconst 0, 1) := by decide +kernel
theorem dX12_restore_2 : decode cX12_restore 2 = .ok (.putfield 1, 3) := by decide +kernel
theorem dX12_restore_5 : decode cX12_restore 5 = .ok (.iload_n 1, 1) := by decide +kernel
theorem dX12_restore_6 : decode cX12_restore 6 = .ok (.i2l, 1) := by decide +kernel
theorem dX12_restore_7 : decode cX12_restore 7 = .ok (.lconst 0, 1) := by decide +kernel
theorem dX12_restore_8 : decode cX12_restore 8 = .ok (.lconst 1, 1) := by decide +kernel
theorem dX12_restore_9 : decode cX12_restore 9 = .ok (.invokestatic 176, 3) := by decide +kernel
theorem dX12_restore_12 : decode cX12_restore 12 = .ok (.ifCond .ne 6, 3) := by decide +kernel
theorem dX12_restore_15 : decode cX12_restore 15 = .ok (.bipush (-2), 2) := by decide +kernel
theorem dX12_restore_17 : decode cX12_restore 17 = .ok (.ireturn, 1) := by decide +kernel
theorem dX12_restore_18 : decode cX12_restore 18 = .ok (.aload_n 0, 1) := by decide +kernel
theorem dX12_restore_19 : decode cX12_restore 19 = .ok (.getfield 17, 3) := by decide +kernel
theorem dX12_restore_22 : decode cX12_restore 22 = .ok (.iload_n 1, 1) := by decide +kernel
theorem dX12_restore_23 : decode cX12_restore 23 = .ok (.baload, 1) := by decide +kernel
theorem dX12_restore_24 : decode cX12_restore 24 = .ok (.ifCond .ne 6, 3) := by decide +kernel
theorem dX12_restore_27 : decode cX12_restore 27 = .ok (.bipush (-5), 2) := by decide +kernel
theorem dX12_restore_29 : decode cX12_restore 29 = .ok (.ireturn, 1) := by decide +kernel
theorem dX12_restore_30 : decode cX12_restore 30 = .ok (.iconst 0, 1) := by decide +kernel
theorem dX12_restore_31 : decode cX12_restore 31 = .ok (.istore_n 2, 1) := by decide +kernel
theorem dX12_restore_32 : decode cX12_restore 32 = .ok (.iload_n 2, 1) := by decide +kernel
theorem dX12_restore_33 : decode cX12_restore 33 = .ok (.sipush 1504, 3) := by decide +kernel
theorem dX12_restore_36 : decode cX12_restore 36 = .ok (.if_icmp .ge 29, 3) := by decide +kernel
theorem dX12_restore_39 : decode cX12_restore 39 = .ok (.aload_n 0, 1) := by decide +kernel
theorem dX12_restore_40 : decode cX12_restore 40 = .ok (.getfield 13, 3) := by decide +kernel
theorem dX12_restore_43 : decode cX12_restore 43 = .ok (.iload_n 2, 1) := by decide +kernel
theorem dX12_restore_44 : decode cX12_restore 44 = .ok (.aload_n 0, 1) := by decide +kernel
theorem dX12_restore_45 : decode cX12_restore 45 = .ok (.getfield 13, 3) := by decide +kernel
theorem dX12_restore_48 : decode cX12_restore 48 = .ok (.sipush 1504, 3) := by decide +kernel
theorem dX12_restore_51 : decode cX12_restore 51 = .ok (.iload_n 1, 1) := by decide +kernel
theorem dX12_restore_52 : decode cX12_restore 52 = .ok (.iconst 1, 1) := by decide +kernel
theorem dX12_restore_53 : decode cX12_restore 53 = .ok (.iadd, 1) := by decide +kernel
theorem dX12_restore_54 : decode cX12_restore 54 = .ok (.imul, 1) := by decide +kernel
theorem dX12_restore_55 : decode cX12_restore 55 = .ok (.iload_n 2, 1) := by decide +kernel
theorem dX12_restore_56 : decode cX12_restore 56 = .ok (.iadd, 1) := by decide +kernel
theorem dX12_restore_57 : decode cX12_restore 57 = .ok (.iaload, 1) := by decide +kernel
theorem dX12_restore_58 : decode cX12_restore 58 = .ok (.iastore, 1) := by decide +kernel
theorem dX12_restore_59 : decode cX12_restore 59 = .ok (.iinc 2 1, 3) := by decide +kernel
theorem dX12_restore_62 : decode cX12_restore 62 = .ok (.goto (-30), 3) := by decide +kernel
theorem dX12_restore_65 : decode cX12_restore 65 = .ok (.aload_n 0, 1) := by decide +kernel
theorem dX12_restore_66 : decode cX12_restore 66 = .ok (.getfield 13, 3) := by decide +kernel
theorem dX12_restore_69 : decode cX12_restore 69 = .ok (.bipush 102, 2) := by decide +kernel
theorem dX12_restore_71 : decode cX12_restore 71 = .ok (.iconst 0, 1) := by decide +kernel
theorem dX12_restore_72 : decode cX12_restore 72 = .ok (.iastore, 1) := by decide +kernel
theorem dX12_restore_73 : decode cX12_restore 73 = .ok (.iconst 0, 1) := by decide +kernel
theorem dX12_restore_74 : decode cX12_restore 74 = .ok (.ireturn, 1) := by decide +kernel
theorem bX12_restore_0 {d : Nat} {P : Int → q_Mem → Prop} {M : q_Mem} (x1 : Int) (h : (∀ M1 : q_Mem, M1 = q_up M 178 0 0 → q_kI yX12_within mX12_within d [qL x1, qL 0, qL 1] M1 (fun v3 M2 => ((¬ v3 = 0) → (0 ≤ x1 ∧ x1 < (2 : Int)) ∧ (((¬ (M2 180 x1) = 0) → q_v mX12_restore d (qPI P) M2 32 [some (qR 178), some (qI x1), some (qI 0)] []) ∧ (((M2 180 x1) = 0) → P (-5) M2))) ∧ ((v3 = 0) → P (-2) M2)))) : q_v mX12_restore d (qPI P) M 0 [some (qR 178), some (qI x1), none] [] := by
  refine qr_aload_n 0 1 rfl (x := 178) rfl dX12_restore_0 ?_
  refine qr_iconst 1 2 rfl (q_l32 _ rfl) dX12_restore_1 ?_
  refine qp_i 2 5 rfl ck12 0 (kk := 0) (by decide) (by decide +kernel) (by decide) rfl rfl wm_1326 rfl dX12_restore_2 (fun M1 e_M1 => ?_)
  have h := h M1 e_M1
  refine qr_iload_n 5 6 rfl (x := x1) rfl dX12_restore_5 ?_
  refine qr_i2l 6 7 rfl dX12_restore_6 ?_
  refine qr_lconst 7 8 rfl (w := 0) (q_l64 _ rfl) (by decide) dX12_restore_7 ?_
  refine qr_lconst 8 9 rfl (w := 1) (q_l64 _ rfl) (by decide) dX12_restore_8 ?_
  refine qs_I 9 12 rfl (av := [qL x1, qL 0, qL 1]) ca_X12_within wm_1481 wm_1480 rfl rfl (Nat.le_of_ble_eq_true rfl) dX12_restore_9 h (fun v3 M2 h => ?_)
  refine qr_if_ne 12 15 18 rfl (by decide) dX12_restore_12 (fun c12 => ?_) (fun c12 => ?_)
  · have h := h.1 c12
    refine qr_aload_n 18 19 rfl (x := 178) rfl dX12_restore_18 ?_
    refine qr_getF 19 22 rfl ck12 2 (by decide) (b := 180) (by decide +kernel) rfl (by decide +kernel) (by decide +kernel) wm_1328 rfl dX12_restore_19 ?_
    refine qr_iload_n 22 23 rfl (x := x1) rfl dX12_restore_22 ?_
    have hb4 := h.1
    have h := h.2
    refine qz_ld 23 24 rfl (N := 2) (by decide +kernel) (by decide +kernel) hb4.1 hb4.2 dX12_restore_23 ?_
    refine qr_if_ne 24 27 30 rfl (by decide) dX12_restore_24 (fun c24 => ?_) (fun c24 => ?_)
    · have h := h.1 c24
      refine qr_iconst 30 31 rfl (q_l32 _ rfl) dX12_restore_30 ?_
      refine qr_istore_n 31 32 rfl (by decide) rfl rfl dX12_restore_31 ?_
      exact h
    · have h := h.2 c24
      refine qr_bipush 27 29 rfl (q_l32 _ rfl) (by decide) dX12_restore_27 ?_
      exact qe_i 29 rfl dX12_restore_29 h
  · have h := h.2 c12
    refine qr_bipush 15 17 rfl (q_l32 _ rfl) (by decide) dX12_restore_15 ?_
    exact qe_i 17 rfl dX12_restore_17 h
theorem bX12_restore_32 {d : Nat} {P : Int → q_Mem → Prop} {M : q_Mem} (x1 x2 : Int) (h : (((1504 : Int) ≤ x2) → (∀ M1 : q_Mem, M1 = q_up M 179 102 0 → P 0 M1)) ∧ ((¬ ((1504 : Int) ≤ x2)) → (0 ≤ (q_add (q_mul 1504 (q_add x1 1)) x2) ∧ (q_add (q_mul 1504 (q_add x1 1)) x2) < (4512 : Int)) ∧ ((0 ≤ x2 ∧ x2 < (4512 : Int)) ∧ (∀ M4 : q_Mem, M4 = q_up M 179 x2 (M 179 (q_add (q_mul 1504 (q_add x1 1)) x2)) → q_v mX12_restore d (qPI P) M4 32 [some (qR 178), some (qI x1), some (qI (q_add x2 1))] [])))) : q_v mX12_restore d (qPI P) M 32 [some (qR 178), some (qI x1), some (qI x2)] [] := by
  refine qr_iload_n 32 33 rfl (x := x2) rfl dX12_restore_32 ?_
  refine qr_sipush 33 36 rfl (q_l32 _ rfl) (by decide) dX12_restore_33 ?_
  refine qr_icmp_ge 36 39 65 rfl (by decide) dX12_restore_36 (fun c36 => ?_) (fun c36 => ?_)
  · have h := h.1 c36
    refine qr_aload_n 65 66 rfl (x := 178) rfl dX12_restore_65 ?_
    refine qr_getF 66 69 rfl ck12 1 (by decide) (b := 179) (by decide +kernel) rfl (by decide +kernel) (by decide +kernel) wm_1327 rfl dX12_restore_66 ?_
    refine qr_bipush 69 71 rfl (q_l32 _ rfl) (by decide) dX12_restore_69 ?_
    refine qr_iconst 71 72 rfl (q_l32 _ rfl) dX12_restore_71 ?_
    refine qi_st 72 73 rfl (N := 4512) (by decide +kernel) (by decide +kernel) (by decide) (by decide) dX12_restore_72 (fun M1 e_M1 => ?_)
    have h := h M1 e_M1
    refine qr_iconst 73 74 rfl (q_l32 _ rfl) dX12_restore_73 ?_
    exact qe_i 74 rfl dX12_restore_74 h
  · have h := h.2 c36
    refine qr_aload_n 39 40 rfl (x := 178) rfl dX12_restore_39 ?_
    refine qr_getF 40 43 rfl ck12 1 (by decide) (b := 179) (by decide +kernel) rfl (by decide +kernel) (by decide +kernel) wm_1327 rfl dX12_restore_40 ?_
    refine qr_iload_n 43 44 rfl (x := x2) rfl dX12_restore_43 ?_
    refine qr_aload_n 44 45 rfl (x := 178) rfl dX12_restore_44 ?_
    refine qr_getF 45 48 rfl ck12 1 (by decide) (b := 179) (by decide +kernel) rfl (by decide +kernel) (by decide +kernel) wm_1327 rfl dX12_restore_45 ?_
    refine qr_sipush 48 51 rfl (q_l32 _ rfl) (by decide) dX12_restore_48 ?_
    refine qr_iload_n 51 52 rfl (x := x1) rfl dX12_restore_51 ?_
    refine qr_iconst 52 53 rfl (q_l32 _ rfl) dX12_restore_52 ?_
    refine qr_iadd 53 54 rfl dX12_restore_53 ?_
    refine qr_imul 54 55 rfl dX12_restore_54 ?_
    refine qr_iload_n 55 56 rfl (x := x2) rfl dX12_restore_55 ?_
    refine qr_iadd 56 57 rfl dX12_restore_56 ?_
    have hb2 := h.1
    have h := h.2
    refine qi_ld 57 58 rfl (N := 4512) (by decide +kernel) (by decide +kernel) hb2.1 hb2.2 dX12_restore_57 ?_
    have hb3 := h.1
    have h := h.2
    refine qi_st 58 59 rfl (N := 4512) (by decide +kernel) (by decide +kernel) hb3.1 hb3.2 dX12_restore_58 (fun M4 e_M4 => ?_)
    have h := h M4 e_M4
    refine qr_iinc 59 62 rfl (by decide) (x := x2) rfl rfl rfl dX12_restore_59 ?_
    refine qr_goto 62 32 (by decide) dX12_restore_62 ?_
    exact h
theorem dX12_cutNow_0 : decode cX12_cutNow 0 = .ok (.iconst 0, 1) := by decide +kernel
theorem dX12_cutNow_1 : decode cX12_cutNow 1 = .ok (.istore_n 1, 1) := by decide +kernel
theorem dX12_cutNow_2 : decode cX12_cutNow 2 = .ok (.iconst 0, 1) := by decide +kernel
theorem dX12_cutNow_3 : decode cX12_cutNow 3 = .ok (.istore_n 2, 1) := by decide +kernel
theorem dX12_cutNow_4 : decode cX12_cutNow 4 = .ok (.iload_n 2, 1) := by decide +kernel
theorem dX12_cutNow_5 : decode cX12_cutNow 5 = .ok (.aload_n 0, 1) := by decide +kernel
theorem dX12_cutNow_6 : decode cX12_cutNow 6 = .ok (.getfield 13, 3) := by decide +kernel
theorem dX12_cutNow_9 : decode cX12_cutNow 9 = .ok (.bipush 52, 2) := by decide +kernel
theorem dX12_cutNow_11 : decode cX12_cutNow 11 = .ok (.iaload, 1) := by decide +kernel
theorem dX12_cutNow_12 : decode cX12_cutNow 12 = .ok (.if_icmp .ge 58, 3) := by decide +kernel
theorem dX12_cutNow_15 : decode cX12_cutNow 15 = .ok (.iload_n 1, 1) := by decide +kernel
theorem dX12_cutNow_16 : decode cX12_cutNow 16 = .ok (.aload_n 0, 1) := by decide +kernel
theorem dX12_cutNow_17 : decode cX12_cutNow 17 = .ok (.getfield 13, 3) := by decide +kernel
theorem dX12_cutNow_20 : decode cX12_cutNow 20 = .ok (.iconst 2, 1) := by decide +kernel
theorem dX12_cutNow_21 : decode cX12_cutNow 21 = .ok (.iaload, 1) := by decide +kernel
theorem dX12_cutNow_22 : decode cX12_cutNow 22 = .ok (.aload_n 0, 1) := by decide +kernel
theorem dX12_cutNow_23 : decode cX12_cutNow 23 = .ok (.getfield 13, 3) := by decide +kernel
theorem dX12_cutNow_26 : decode cX12_cutNow 26 = .ok (.bipush 53, 2) := by decide +kernel
theorem dX12_cutNow_28 : decode cX12_cutNow 28 = .ok (.iload_n 2, 1) := by decide +kernel
theorem dX12_cutNow_29 : decode cX12_cutNow 29 = .ok (.iadd, 1) := by decide +kernel
theorem dX12_cutNow_30 : decode cX12_cutNow 30 = .ok (.iaload, 1) := by decide +kernel
theorem dX12_cutNow_31 : decode cX12_cutNow 31 = .ok (.invokestatic 263, 3) := by decide +kernel
theorem dX12_cutNow_34 : decode cX12_cutNow 34 = .ok (.aload_n 0, 1) := by decide +kernel
theorem dX12_cutNow_35 : decode cX12_cutNow 35 = .ok (.getfield 13, 3) := by decide +kernel
theorem dX12_cutNow_38 : decode cX12_cutNow 38 = .ok (.iconst 2, 1) := by decide +kernel
theorem dX12_cutNow_39 : decode cX12_cutNow 39 = .ok (.iaload, 1) := by decide +kernel
theorem dX12_cutNow_40 : decode cX12_cutNow 40 = .ok (.aload_n 0, 1) := by decide +kernel
theorem dX12_cutNow_41 : decode cX12_cutNow 41 = .ok (.getfield 13, 3) := by decide +kernel
theorem dX12_cutNow_44 : decode cX12_cutNow 44 = .ok (.bipush 69, 2) := by decide +kernel
theorem dX12_cutNow_46 : decode cX12_cutNow 46 = .ok (.iload_n 2, 1) := by decide +kernel
theorem dX12_cutNow_47 : decode cX12_cutNow 47 = .ok (.iadd, 1) := by decide +kernel
theorem dX12_cutNow_48 : decode cX12_cutNow 48 = .ok (.iaload, 1) := by decide +kernel
theorem dX12_cutNow_49 : decode cX12_cutNow 49 = .ok (.invokestatic 263, 3) := by decide +kernel
theorem dX12_cutNow_52 : decode cX12_cutNow 52 = .ok (.if_icmp .eq 9, 3) := by decide +kernel
theorem dX12_cutNow_55 : decode cX12_cutNow 55 = .ok (.iconst 1, 1) := by decide +kernel
theorem dX12_cutNow_56 : decode cX12_cutNow 56 = .ok (.iload_n 2, 1) := by decide +kernel
theorem dX12_cutNow_57 : decode cX12_cutNow 57 = .ok (.ishl, 1) := by decide +kernel
theorem dX12_cutNow_58 : decode cX12_cutNow 58 = .ok (.goto 4, 3) := by decide +kernel
theorem dX12_cutNow_61 : decode cX12_cutNow 61 = .ok (.iconst 0, 1) := by decide +kernel
theorem dX12_cutNow_62 : decode cX12_cutNow 62 = .ok (.ior, 1) := by decide +kernel
theorem dX12_cutNow_63 : decode cX12_cutNow 63 = .ok (.istore_n 1, 1) := by decide +kernel
theorem dX12_cutNow_64 : decode cX12_cutNow 64 = .ok (.iinc 2 1, 3) := by decide +kernel
theorem dX12_cutNow_67 : decode cX12_cutNow 67 = .ok (.goto (-63), 3) := by decide +kernel
theorem dX12_cutNow_70 : decode cX12_cutNow 70 = .ok (.iload_n 1, 1) := by decide +kernel
theorem dX12_cutNow_71 : decode cX12_cutNow 71 = .ok (.ireturn, 1) := by decide +kernel
theorem bX12_cutNow_0 {d : Nat} {P : Int → q_Mem → Prop} {M : q_Mem} (h : q_v mX12_cutNow d (qPI P) M 4 [some (qR 178), some (qI 0), some (qI 0)] []) : q_v mX12_cutNow d (qPI P) M 0 [some (qR 178), none, none] [] := by
  refine qr_iconst 0 1 rfl (q_l32 _ rfl) dX12_cutNow_0 ?_
  refine qr_istore_n 1 2 rfl (by decide) rfl rfl dX12_cutNow_1 ?_
  refine qr_iconst 2 3 rfl (q_l32 _ rfl) dX12_cutNow_2 ?_
  refine qr_istore_n 3 4 rfl (by decide) rfl rfl dX12_cutNow_3 ?_
  exact h
theorem bX12_cutNow_4 {d : Nat} {P : Int → q_Mem → Prop} {M : q_Mem} (x1 x2 : Int) (h : ((((M 179 52) ≤ x2) → P x1 M) ∧ ((¬ ((M 179 52) ≤ x2)) → ((0 ≤ (q_add 53 x2) ∧ (q_add 53 x2) < (4512 : Int)) ∧ (q_kI yX12_isIn mX12_isIn d [qI (M 179 2), qI (M 179 (q_add 53 x2))] M (fun v3 M2 => ((0 ≤ (q_add 69 x2) ∧ (q_add 69 x2) < (4512 : Int)) ∧ (q_kI yX12_isIn mX12_isIn d [qI (M2 179 2), qI (M2 179 (q_add 69 x2))] M2 (fun v6 M5 => ((v3 = v6) → ∀ x1_7 : Int, x1_7 = (q_or x1 0) → q_v mX12_cutNow d (qPI P) M5 4 [some (qR 178), some (qI x1_7), some (qI (q_add x2 1))] []) ∧ ((¬ (v3 = v6)) → ∀ x1_8 : Int, x1_8 = (q_or x1 (q_shl 1 x2)) → q_v mX12_cutNow d (qPI P) M5 4 [some (qR 178), some (qI x1_8), some (qI (q_add x2 1))] [])))))))))) : q_v mX12_cutNow d (qPI P) M 4 [some (qR 178), some (qI x1), some (qI x2)] [] := by
  refine qr_iload_n 4 5 rfl (x := x2) rfl dX12_cutNow_4 ?_
  refine qr_aload_n 5 6 rfl (x := 178) rfl dX12_cutNow_5 ?_
  refine qr_getF 6 9 rfl ck12 1 (by decide) (b := 179) (by decide +kernel) rfl (by decide +kernel) (by decide +kernel) wm_1327 rfl dX12_cutNow_6 ?_
  refine qr_bipush 9 11 rfl (q_l32 _ rfl) (by decide) dX12_cutNow_9 ?_
  refine qi_ld 11 12 rfl (N := 4512) (by decide +kernel) (by decide +kernel) (by decide) (by decide) dX12_cutNow_11 ?_
  refine qr_icmp_ge 12 15 70 rfl (by decide) dX12_cutNow_12 (fun c12 => ?_) (fun c12 => ?_)
  · have h := h.1 c12
    refine qr_iload_n 70 71 rfl (x := x1) rfl dX12_cutNow_70 ?_
    exact qe_i 71 rfl dX12_cutNow_71 h
  · have h := h.2 c12
    refine qr_iload_n 15 16 rfl (x := x1) rfl dX12_cutNow_15 ?_
    refine qr_aload_n 16 17 rfl (x := 178) rfl dX12_cutNow_16 ?_
    refine qr_getF 17 20 rfl ck12 1 (by decide) (b := 179) (by decide +kernel) rfl (by decide +kernel) (by decide +kernel) wm_1327 rfl dX12_cutNow_17 ?_
    refine qr_iconst 20 21 rfl (q_l32 _ rfl) dX12_cutNow_20 ?_
    refine qi_ld 21 22 rfl (N := 4512) (by decide +kernel) (by decide +kernel) (by decide) (by decide) dX12_cutNow_21 ?_
    refine qr_aload_n 22 23 rfl (x := 178) rfl dX12_cutNow_22 ?_
    refine qr_getF 23 26 rfl ck12 1 (by decide) (b := 179) (by decide +kernel) rfl (by decide +kernel) (by decide +kernel) wm_1327 rfl dX12_cutNow_23 ?_
    refine qr_bipush 26 28 rfl (q_l32 _ rfl) (by decide) dX12_cutNow_26 ?_
    refine qr_iload_n 28 29 rfl (x := x2) rfl dX12_cutNow_28 ?_
    refine qr_iadd 29 30 rfl dX12_cutNow_29 ?_
    have hb1 := h.1
    have h := h.2
    refine qi_ld 30 31 rfl (N := 4512) (by decide +kernel) (by decide +kernel) hb1.1 hb1.2 dX12_cutNow_30 ?_
    refine qs_I 31 34 rfl (av := [qI (M 179 2), qI (M 179 (q_add 53 x2))]) ca_X12_isIn wm_1694 wm_1693 rfl rfl (Nat.le_of_ble_eq_true rfl) dX12_cutNow_31 h (fun v3 M2 h => ?_)
    refine qr_aload_n 34 35 rfl (x := 178) rfl dX12_cutNow_34 ?_
    refine qr_getF 35 38 rfl ck12 1 (by decide) (b := 179) (by decide +kernel) rfl (by decide +kernel) (by decide +kernel) wm_1327 rfl dX12_cutNow_35 ?_
    refine qr_iconst 38 39 rfl (q_l32 _ rfl) dX12_cutNow_38 ?_
    refine qi_ld 39 40 rfl (N := 4512) (by decide +kernel) (by decide +kernel) (by decide) (by decide) dX12_cutNow_39 ?_
    refine qr_aload_n 40 41 rfl (x := 178) rfl dX12_cutNow_40 ?_
    refine qr_getF 41 44 rfl ck12 1 (by decide) (b := 179) (by decide +kernel) rfl (by decide +kernel) (by decide +kernel) wm_1327 rfl dX12_cutNow_41 ?_
    refine qr_bipush 44 46 rfl (q_l32 _ rfl) (by decide) dX12_cutNow_44 ?_
    refine qr_iload_n 46 47 rfl (x := x2) rfl dX12_cutNow_46 ?_
    refine qr_iadd 47 48 rfl dX12_cutNow_47 ?_
    have hb4 := h.1
    have h := h.2
    refine qi_ld 48 49 rfl (N := 4512) (by decide +kernel) (by decide +kernel) hb4.1 hb4.2 dX12_cutNow_48 ?_
    refine qs_I 49 52 rfl (av := [qI (M2 179 2), qI (M2 179 (q_add 69 x2))]) ca_X12_isIn wm_1694 wm_1693 rfl rfl (Nat.le_of_ble_eq_true rfl) dX12_cutNow_49 h (fun v6 M5 h => ?_)
    refine qr_icmp_eq 52 55 61 rfl (by decide) dX12_cutNow_52 (fun c52 => ?_) (fun c52 => ?_)
    · have h := h.1 c52
      refine qr_iconst 61 62 rfl (q_l32 _ rfl) dX12_cutNow_61 ?_
      refine qr_ior 62 63 rfl dX12_cutNow_62 ?_
      refine qn_i 63 (fun x1_7 e_x1_7 => ?_)
      have h := h x1_7 e_x1_7
      refine qr_istore_n 63 64 rfl (by decide) rfl rfl dX12_cutNow_63 ?_
      refine qr_iinc 64 67 rfl (by decide) (x := x2) rfl rfl rfl dX12_cutNow_64 ?_
      refine qr_goto 67 4 (by decide) dX12_cutNow_67 ?_
      exact h
    · have h := h.2 c52
      refine qr_iconst 55 56 rfl (q_l32 _ rfl) dX12_cutNow_55 ?_
      refine qr_iload_n 56 57 rfl (x := x2) rfl dX12_cutNow_56 ?_
      refine qr_ishl 57 58 rfl dX12_cutNow_57 ?_
      refine qr_goto 58 62 (by decide) dX12_cutNow_58 ?_
      refine qr_ior 62 63 rfl dX12_cutNow_62 ?_
      refine qn_i 63 (fun x1_8 e_x1_8 => ?_)
      have h := h x1_8 e_x1_8
      refine qr_istore_n 63 64 rfl (by decide) rfl rfl dX12_cutNow_63 ?_
      refine qr_iinc 64 67 rfl (by decide) (x := x2) rfl rfl rfl dX12_cutNow_64 ?_
      refine qr_goto 67 4 (by decide) dX12_cutNow_67 ?_
      exact h
theorem dX12_count_0 : decode cX12_count 0 = .ok (.aload_n 0, 1) := by decide +kernel
theorem dX12_count_1 : decode cX12_count 1 = .ok (.iconst 0, 1) := by decide +kernel
theorem dX12_count_2 : decode cX12_count 2 = .ok (.putfield 1, 3) := by decide +kernel
theorem dX12_count_5 : decode cX12_count 5 = .ok (.aload_n 0, 1) := by decide +kernel
theorem dX12_count_6 : decode cX12_count 6 = .ok (.invokevirtual 266, 3) := by decide +kernel
theorem dX12_count_9 : decode cX12_count 9 = .ok (.iload_n 1, 1) := by decide +kernel
theorem dX12_count_10 : decode cX12_count 10 = .ok (.tableswitch 111 0 8 #[50, 58, 66, 73, 80, 86, 91, 99, 104], 50) := by decide +kernel
theorem dX12_count_60 : decode cX12_count 60 = .ok (.aload_n 0, 1) := by decide +kernel
theorem dX12_count_61 : decode cX12_count 61 = .ok (.getfield 13, 3) := by decide +kernel
theorem dX12_count_64 : decode cX12_count 64 = .ok (.bipush 51, 2) := by decide +kernel
theorem dX12_count_66 : decode cX12_count 66 = .ok (.iaload, 1) := by decide +kernel
theorem dX12_count_67 : decode cX12_count 67 = .ok (.ireturn, 1) := by decide +kernel
theorem dX12_count_68 : decode cX12_count 68 = .ok (.aload_n 0, 1) := by decide +kernel
theorem dX12_count_69 : decode cX12_count 69 = .ok (.getfield 13, 3) := by decide +kernel
theorem dX12_count_72 : decode cX12_count 72 = .ok (.bipush 52, 2) := by decide +kernel
theorem dX12_count_74 : decode cX12_count 74 = .ok (.iaload, 1) := by decide +kernel
theorem dX12_count_75 : decode cX12_count 75 = .ok (.ireturn, 1) := by decide +kernel
theorem dX12_count_76 : decode cX12_count 76 = .ok (.aload_n 0, 1) := by decide +kernel
theorem dX12_count_77 : decode cX12_count 77 = .ok (.getfield 13, 3) := by decide +kernel
theorem dX12_count_80 : decode cX12_count 80 = .ok (.iconst 1, 1) := by decide +kernel
theorem dX12_count_81 : decode cX12_count 81 = .ok (.iaload, 1) := by decide +kernel
theorem dX12_count_82 : decode cX12_count 82 = .ok (.ireturn, 1) := by decide +kernel
theorem dX12_count_83 : decode cX12_count 83 = .ok (.aload_n 0, 1) := by decide +kernel
theorem dX12_count_84 : decode cX12_count 84 = .ok (.getfield 13, 3) := by decide +kernel
theorem dX12_count_87 : decode cX12_count 87 = .ok (.iconst 2, 1) := by decide +kernel
theorem dX12_count_88 : decode cX12_count 88 = .ok (.iaload, 1) := by decide +kernel
theorem dX12_count_89 : decode cX12_count 89 = .ok (.ireturn, 1) := by decide +kernel
theorem dX12_count_90 : decode cX12_count 90 = .ok (.aload_n 0, 1) := by decide +kernel
theorem dX12_count_91 : decode cX12_count 91 = .ok (.iconst 1, 1) := by decide +kernel
theorem dX12_count_92 : decode cX12_count 92 = .ok (.invokevirtual 438, 3) := by decide +kernel
theorem dX12_count_95 : decode cX12_count 95 = .ok (.ireturn, 1) := by decide +kernel
theorem dX12_count_96 : decode cX12_count 96 = .ok (.aload_n 0, 1) := by decide +kernel
theorem dX12_count_97 : decode cX12_count 97 = .ok (.invokevirtual 508, 3) := by decide +kernel
theorem dX12_count_100 : decode cX12_count 100 = .ok (.ireturn, 1) := by decide +kernel
theorem dX12_count_101 : decode cX12_count 101 = .ok (.aload_n 0, 1) := by decide +kernel
theorem dX12_count_102 : decode cX12_count 102 = .ok (.getfield 13, 3) := by decide +kernel
theorem dX12_count_105 : decode cX12_count 105 = .ok (.bipush 102, 2) := by decide +kernel
theorem dX12_count_107 : decode cX12_count 107 = .ok (.iaload, 1) := by decide +kernel
theorem dX12_count_108 : decode cX12_count 108 = .ok (.ireturn, 1) := by decide +kernel
theorem dX12_count_109 : decode cX12_count 109 = .ok (.aload_n 0, 1) := by decide +kernel
theorem dX12_count_110 : decode cX12_count 110 = .ok (.getfield 111, 3) := by decide +kernel
theorem dX12_count_113 : decode cX12_count 113 = .ok (.ireturn, 1) := by decide +kernel
theorem dX12_count_114 : decode cX12_count 114 = .ok (.aload_n 0, 1) := by decide +kernel
theorem dX12_count_115 : decode cX12_count 115 = .ok (.getfield 13, 3) := by decide +kernel
theorem dX12_count_118 : decode cX12_count 118 = .ok (.iconst 0, 1) := by decide +kernel
theorem dX12_count_119 : decode cX12_count 119 = .ok (.iaload, 1) := by decide +kernel
theorem dX12_count_120 : decode cX12_count 120 = .ok (.ireturn, 1) := by decide +kernel
theorem dX12_count_121 : decode cX12_count 121 = .ok (.iconst (-1), 1) := by decide +kernel
theorem dX12_count_122 : decode cX12_count 122 = .ok (.ireturn, 1) := by decide +kernel
theorem txX12_count_10 (x : Int) (h : ¬ (x < 0 ∨ 8 < x)) (h0 : ¬ x = 0) (h1 : ¬ x = 1) (h2 : ¬ x = 2) (h3 : ¬ x = 3) (h4 : ¬ x = 4) (h5 : ¬ x = 5) (h6 : ¬ x = 6) (h7 : ¬ x = 7) (h8 : ¬ x = 8) : False := by omega
theorem bX12_count_0 {d : Nat} {P : Int → q_Mem → Prop} {M : q_Mem} (x1 : Int) (h : (∀ M1 : q_Mem, M1 = q_up M 178 0 0 → q_kU yX12_laysWeights mX12_laysWeights d [qR 178] M1 (fun M2 => (((x1 < 0 ∨ 8 < x1) → P (-1) M2) ∧ (((x1 = 0) → (P (M2 179 51) M2)) ∧ (((x1 = 1) → (P (M2 179 52) M2)) ∧ (((x1 = 2) → (P (M2 179 1) M2)) ∧ (((x1 = 3) → (P (M2 179 2) M2)) ∧ (((x1 = 4) → q_kI yX12_goodLinks mX12_goodLinks d [qR 178, qI 1] M2 (fun v4 M3 => P v4 M3)) ∧ (((x1 = 5) → q_kI yX12_cutNow mX12_cutNow d [qR 178] M2 (fun v6 M5 => P v6 M5)) ∧ (((x1 = 6) → (P (M2 179 102) M2)) ∧ (((x1 = 7) → P (M2 178 7) M2) ∧ (((x1 = 8) → (P (M2 179 0) M2))))))))))))))) : q_v mX12_count d (qPI P) M 0 [some (qR 178), some (qI x1)] [] := by
  refine qr_aload_n 0 1 rfl (x := 178) rfl dX12_count_0 ?_
  refine qr_iconst 1 2 rfl (q_l32 _ rfl) dX12_count_1 ?_
  refine qp_i 2 5 rfl ck12 0 (kk := 0) (by decide) (by decide +kernel) (by decide) rfl rfl wm_1326 rfl dX12_count_2 (fun M1 e_M1 => ?_)
  have h := h M1 e_M1
  refine qr_aload_n 5 6 rfl (x := 178) rfl dX12_count_5 ?_
  refine qw_U 6 9 rfl (av := []) ca_X12_laysWeights wm_1687 wp_112 wm_1685 ck12 (by decide +kernel) rfl rfl (Nat.le_of_ble_eq_true rfl) dX12_count_6 h (fun M2 h => ?_)
  refine qr_iload_n 9 10 rfl (x := x1) rfl dX12_count_9 ?_
  by_cases c10 : x1 < 0 ∨ 8 < x1
  · have h := h.1 c10
    refine qr_tabOut 10 121 c10 (by decide) dX12_count_10 ?_
    refine qr_iconst 121 122 rfl (q_l32 _ rfl) dX12_count_121 ?_
    exact qe_i 122 rfl dX12_count_122 h
  have h := h.2
  by_cases e10_0 : x1 = 0
  · have h := h.1 e10_0
    refine qr_tabIn 10 60 0 (e10_0.trans (by decide)) (by decide) rfl (by decide) dX12_count_10 ?_
    refine qr_aload_n 60 61 rfl (x := 178) rfl dX12_count_60 ?_
    refine qr_getF 61 64 rfl ck12 1 (by decide) (b := 179) (by decide +kernel) rfl (by decide +kernel) (by decide +kernel) wm_1327 rfl dX12_count_61 ?_
    refine qr_bipush 64 66 rfl (q_l32 _ rfl) (by decide) dX12_count_64 ?_
    refine qi_ld 66 67 rfl (N := 4512) (by decide +kernel) (by decide +kernel) (by decide) (by decide) dX12_count_66 ?_
    exact qe_i 67 rfl dX12_count_67 h
  have h := h.2
  by_cases e10_1 : x1 = 1
  · have h := h.1 e10_1
    refine qr_tabIn 10 68 1 (e10_1.trans (by decide)) (by decide) rfl (by decide) dX12_count_10 ?_
    refine qr_aload_n 68 69 rfl (x := 178) rfl dX12_count_68 ?_
    refine qr_getF 69 72 rfl ck12 1 (by decide) (b := 179) (by decide +kernel) rfl (by decide +kernel) (by decide +kernel) wm_1327 rfl dX12_count_69 ?_
    refine qr_bipush 72 74 rfl (q_l32 _ rfl) (by decide) dX12_count_72 ?_
    refine qi_ld 74 75 rfl (N := 4512) (by decide +kernel) (by decide +kernel) (by decide) (by decide) dX12_count_74 ?_
    exact qe_i 75 rfl dX12_count_75 h
  have h := h.2
  by_cases e10_2 : x1 = 2
  · have h := h.1 e10_2
    refine qr_tabIn 10 76 2 (e10_2.trans (by decide)) (by decide) rfl (by decide) dX12_count_10 ?_
    refine qr_aload_n 76 77 rfl (x := 178) rfl dX12_count_76 ?_
    refine qr_getF 77 80 rfl ck12 1 (by decide) (b := 179) (by decide +kernel) rfl (by decide +kernel) (by decide +kernel) wm_1327 rfl dX12_count_77 ?_
    refine qr_iconst 80 81 rfl (q_l32 _ rfl) dX12_count_80 ?_
    refine qi_ld 81 82 rfl (N := 4512) (by decide +kernel) (by decide +kernel) (by decide) (by decide) dX12_count_81 ?_
    exact qe_i 82 rfl dX12_count_82 h
  have h := h.2
  by_cases e10_3 : x1 = 3
  · have h := h.1 e10_3
    refine qr_tabIn 10 83 3 (e10_3.trans (by decide)) (by decide) rfl (by decide) dX12_count_10 ?_
    refine qr_aload_n 83 84 rfl (x := 178) rfl dX12_count_83 ?_
    refine qr_getF 84 87 rfl ck12 1 (by decide) (b := 179) (by decide +kernel) rfl (by decide +kernel) (by decide +kernel) wm_1327 rfl dX12_count_84 ?_
    refine qr_iconst 87 88 rfl (q_l32 _ rfl) dX12_count_87 ?_
    refine qi_ld 88 89 rfl (N := 4512) (by decide +kernel) (by decide +kernel) (by decide) (by decide) dX12_count_88 ?_
    exact qe_i 89 rfl dX12_count_89 h
  have h := h.2
  by_cases e10_4 : x1 = 4
  · have h := h.1 e10_4
    refine qr_tabIn 10 90 4 (e10_4.trans (by decide)) (by decide) rfl (by decide) dX12_count_10 ?_
    refine qr_aload_n 90 91 rfl (x := 178) rfl dX12_count_90 ?_
    refine qr_iconst 91 92 rfl (q_l32 _ rfl) dX12_count_91 ?_
    refine qw_I 92 95 rfl (av := [qI 1]) ca_X12_goodLinks wm_1783 wp_129 wm_1781 ck12 (by decide +kernel) rfl rfl (Nat.le_of_ble_eq_true rfl) dX12_count_92 h (fun v4 M3 h => ?_)
    exact qe_i 95 rfl dX12_count_95 h
  have h := h.2
  by_cases e10_5 : x1 = 5
  · have h := h.1 e10_5
    refine qr_tabIn 10 96 5 (e10_5.trans (by decide)) (by decide) rfl (by decide) dX12_count_10 ?_
    refine qr_aload_n 96 97 rfl (x := 178) rfl dX12_count_96 ?_
    refine qw_I 97 100 rfl (av := []) ca_X12_cutNow wm_2043 wp_151 wm_2041 ck12 (by decide +kernel) rfl rfl (Nat.le_of_ble_eq_true rfl) dX12_count_97 h (fun v6 M5 h => ?_)
    exact qe_i 100 rfl dX12_count_100 h
  have h := h.2
  by_cases e10_6 : x1 = 6
  · have h := h.1 e10_6
    refine qr_tabIn 10 101 6 (e10_6.trans (by decide)) (by decide) rfl (by decide) dX12_count_10 ?_
    refine qr_aload_n 101 102 rfl (x := 178) rfl dX12_count_101 ?_
    refine qr_getF 102 105 rfl ck12 1 (by decide) (b := 179) (by decide +kernel) rfl (by decide +kernel) (by decide +kernel) wm_1327 rfl dX12_count_102 ?_
    refine qr_bipush 105 107 rfl (q_l32 _ rfl) (by decide) dX12_count_105 ?_
    refine qi_ld 107 108 rfl (N := 4512) (by decide +kernel) (by decide +kernel) (by decide) (by decide) dX12_count_107 ?_
    exact qe_i 108 rfl dX12_count_108 h
  have h := h.2
  by_cases e10_7 : x1 = 7
  · have h := h.1 e10_7
    refine qr_tabIn 10 109 7 (e10_7.trans (by decide)) (by decide) rfl (by decide) dX12_count_10 ?_
    refine qr_aload_n 109 110 rfl (x := 178) rfl dX12_count_109 ?_
    refine qg_i 110 113 rfl ck12 7 (kk := 7) (by decide) (by decide +kernel) (by decide +kernel) rfl wm_1333 rfl dX12_count_110 ?_
    exact qe_i 113 rfl dX12_count_113 h
  have h := h.2
  by_cases e10_8 : x1 = 8
  · have h := h e10_8
    refine qr_tabIn 10 114 8 (e10_8.trans (by decide)) (by decide) rfl (by decide) dX12_count_10 ?_
    refine qr_aload_n 114 115 rfl (x := 178) rfl dX12_count_114 ?_
    refine qr_getF 115 118 rfl ck12 1 (by decide) (b := 179) (by decide +kernel) rfl (by decide +kernel) (by decide +kernel) wm_1327 rfl dX12_count_115 ?_
    refine qr_iconst 118 119 rfl (q_l32 _ rfl) dX12_count_118 ?_
    refine qi_ld 119 120 rfl (N := 4512) (by decide +kernel) (by decide +kernel) (by decide) (by decide) dX12_count_119 ?_
    exact qe_i 120 rfl dX12_count_120 h
  exact (txX12_count_10 x1 c10 e10_0 e10_1 e10_2 e10_3 e10_4 e10_5 e10_6 e10_7 e10_8).elim
