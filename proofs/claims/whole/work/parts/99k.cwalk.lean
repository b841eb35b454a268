-- the constructors walked (by program)
theorem dX2_init_0 : decode cX2_init 0 = .ok (.aload_n 0, 1) := by decide +kernel
theorem dX2_init_1 : decode cX2_init 1 = .ok (.invokespecial 3, 3) := by decide +kernel
theorem dX2_init_4 : decode cX2_init 4 = .ok (.aload_n 0, 1) := by decide +kernel
theorem dX2_init_5 : decode cX2_init 5 = .ok (.sipush 900, 3) := by decide +kernel
theorem dX2_init_8 : decode cX2_init 8 = .ok (.newarray .int, 2) := by decide +kernel
theorem dX2_init_10 : decode cX2_init 10 = .ok (.putfield 9, 3) := by decide +kernel
theorem dX2_init_13 : decode cX2_init 13 = .ok (.aload_n 0, 1) := by decide +kernel
theorem dX2_init_14 : decode cX2_init 14 = .ok (.bipush 64, 2) := by decide +kernel
theorem dX2_init_16 : decode cX2_init 16 = .ok (.newarray .int, 2) := by decide +kernel
theorem dX2_init_18 : decode cX2_init 18 = .ok (.putfield 15, 3) := by decide +kernel
theorem dX2_init_21 : decode cX2_init 21 = .ok (.aload_n 0, 1) := by decide +kernel
theorem dX2_init_22 : decode cX2_init 22 = .ok (.iconst 5, 1) := by decide +kernel
theorem dX2_init_23 : decode cX2_init 23 = .ok (.newarray .int, 2) := by decide +kernel
theorem dX2_init_25 : decode cX2_init 25 = .ok (.putfield 18, 3) := by decide +kernel
theorem dX2_init_28 : decode cX2_init 28 = .ok (.return_, 1) := by decide +kernel
theorem dX4_init_0 : decode cX4_init 0 = .ok (.aload_n 0, 1) := by decide +kernel
theorem dX4_init_1 : decode cX4_init 1 = .ok (.invokespecial 3, 3) := by decide +kernel
theorem dX4_init_4 : decode cX4_init 4 = .ok (.aload_n 0, 1) := by decide +kernel
theorem dX4_init_5 : decode cX4_init 5 = .ok (.bipush 16, 2) := by decide +kernel
theorem dX4_init_7 : decode cX4_init 7 = .ok (.newarray .int, 2) := by decide +kernel
theorem dX4_init_9 : decode cX4_init 9 = .ok (.putfield 9, 3) := by decide +kernel
theorem dX4_init_12 : decode cX4_init 12 = .ok (.aload_n 0, 1) := by decide +kernel
theorem dX4_init_13 : decode cX4_init 13 = .ok (.bipush 16, 2) := by decide +kernel
theorem dX4_init_15 : decode cX4_init 15 = .ok (.newarray .int, 2) := by decide +kernel
theorem dX4_init_17 : decode cX4_init 17 = .ok (.putfield 15, 3) := by decide +kernel
theorem dX4_init_20 : decode cX4_init 20 = .ok (.aload_n 0, 1) := by decide +kernel
theorem dX4_init_21 : decode cX4_init 21 = .ok (.bipush 16, 2) := by decide +kernel
theorem dX4_init_23 : decode cX4_init 23 = .ok (.newarray .int, 2) := by decide +kernel
theorem dX4_init_25 : decode cX4_init 25 = .ok (.putfield 18, 3) := by decide +kernel
theorem dX4_init_28 : decode cX4_init 28 = .ok (.aload_n 0, 1) := by decide +kernel
theorem dX4_init_29 : decode cX4_init 29 = .ok (.bipush 10, 2) := by decide +kernel
theorem dX4_init_31 : decode cX4_init 31 = .ok (.newarray .int, 2) := by decide +kernel
theorem dX4_init_33 : decode cX4_init 33 = .ok (.putfield 21, 3) := by decide +kernel
theorem dX4_init_36 : decode cX4_init 36 = .ok (.aload_n 0, 1) := by decide +kernel
theorem dX4_init_37 : decode cX4_init 37 = .ok (.sipush 160, 3) := by decide +kernel
theorem dX4_init_40 : decode cX4_init 40 = .ok (.newarray .int, 2) := by decide +kernel
theorem dX4_init_42 : decode cX4_init 42 = .ok (.putfield 24, 3) := by decide +kernel
theorem dX4_init_45 : decode cX4_init 45 = .ok (.aload_n 0, 1) := by decide +kernel
theorem dX4_init_46 : decode cX4_init 46 = .ok (.bipush 10, 2) := by decide +kernel
theorem dX4_init_48 : decode cX4_init 48 = .ok (.newarray .int, 2) := by decide +kernel
theorem dX4_init_50 : decode cX4_init 50 = .ok (.putfield 27, 3) := by decide +kernel
theorem dX4_init_53 : decode cX4_init 53 = .ok (.aload_n 0, 1) := by decide +kernel
theorem dX4_init_54 : decode cX4_init 54 = .ok (.new 30, 3) := by decide +kernel
theorem dX4_init_57 : decode cX4_init 57 = .ok (.dup, 1) := by decide +kernel
theorem dX4_init_58 : decode cX4_init 58 = .ok (.invokespecial 32, 3) := by decide +kernel
theorem dX4_init_61 : decode cX4_init 61 = .ok (.putfield 33, 3) := by decide +kernel
theorem dX4_init_64 : decode cX4_init 64 = .ok (.aload_n 0, 1) := by decide +kernel
theorem dX4_init_65 : decode cX4_init 65 = .ok (.new 30, 3) := by decide +kernel
theorem dX4_init_68 : decode cX4_init 68 = .ok (.dup, 1) := by decide +kernel
theorem dX4_init_69 : decode cX4_init 69 = .ok (.invokespecial 32, 3) := by decide +kernel
theorem dX4_init_72 : decode cX4_init 72 = .ok (.putfield 37, 3) := by decide +kernel
theorem dX4_init_75 : decode cX4_init 75 = .ok (.return_, 1) := by decide +kernel
theorem dX5_init_0 : decode cX5_init 0 = .ok (.aload_n 0, 1) := by decide +kernel
theorem dX5_init_1 : decode cX5_init 1 = .ok (.invokespecial 3, 3) := by decide +kernel
theorem dX5_init_4 : decode cX5_init 4 = .ok (.aload_n 0, 1) := by decide +kernel
theorem dX5_init_5 : decode cX5_init 5 = .ok (.iconst (-1), 1) := by decide +kernel
theorem dX5_init_6 : decode cX5_init 6 = .ok (.putfield 9, 3) := by decide +kernel
theorem dX5_init_9 : decode cX5_init 9 = .ok (.aload_n 0, 1) := by decide +kernel
theorem dX5_init_10 : decode cX5_init 10 = .ok (.iconst 0, 1) := by decide +kernel
theorem dX5_init_11 : decode cX5_init 11 = .ok (.newarray .byte, 2) := by decide +kernel
theorem dX5_init_13 : decode cX5_init 13 = .ok (.putfield 15, 3) := by decide +kernel
theorem dX5_init_16 : decode cX5_init 16 = .ok (.aload_n 0, 1) := by decide +kernel
theorem dX5_init_17 : decode cX5_init 17 = .ok (.new 19, 3) := by decide +kernel
theorem dX5_init_20 : decode cX5_init 20 = .ok (.dup, 1) := by decide +kernel
theorem dX5_init_21 : decode cX5_init 21 = .ok (.invokespecial 21, 3) := by decide +kernel
theorem dX5_init_24 : decode cX5_init 24 = .ok (.putfield 22, 3) := by decide +kernel
theorem dX5_init_27 : decode cX5_init 27 = .ok (.aload_n 0, 1) := by decide +kernel
theorem dX5_init_28 : decode cX5_init 28 = .ok (.aload_n 0, 1) := by decide +kernel
theorem dX5_init_29 : decode cX5_init 29 = .ok (.getfield 22, 3) := by decide +kernel
theorem dX5_init_32 : decode cX5_init 32 = .ok (.getfield 26, 3) := by decide +kernel
theorem dX5_init_35 : decode cX5_init 35 = .ok (.putfield 30, 3) := by decide +kernel
theorem dX5_init_38 : decode cX5_init 38 = .ok (.return_, 1) := by decide +kernel
theorem dX7_init_0 : decode cX7_init 0 = .ok (.aload_n 0, 1) := by decide +kernel
theorem dX7_init_1 : decode cX7_init 1 = .ok (.invokespecial 3, 3) := by decide +kernel
theorem dX7_init_4 : decode cX7_init 4 = .ok (.aload_n 0, 1) := by decide +kernel
theorem dX7_init_5 : decode cX7_init 5 = .ok (.bipush 16, 2) := by decide +kernel
theorem dX7_init_7 : decode cX7_init 7 = .ok (.newarray .int, 2) := by decide +kernel
theorem dX7_init_9 : decode cX7_init 9 = .ok (.putfield 9, 3) := by decide +kernel
theorem dX7_init_12 : decode cX7_init 12 = .ok (.aload_n 0, 1) := by decide +kernel
theorem dX7_init_13 : decode cX7_init 13 = .ok (.sipush 160, 3) := by decide +kernel
theorem dX7_init_16 : decode cX7_init 16 = .ok (.newarray .int, 2) := by decide +kernel
theorem dX7_init_18 : decode cX7_init 18 = .ok (.putfield 15, 3) := by decide +kernel
theorem dX7_init_21 : decode cX7_init 21 = .ok (.return_, 1) := by decide +kernel
theorem dX0_init_0 : decode cX0_init 0 = .ok (.aload_n 0, 1) := by decide +kernel
theorem dX0_init_1 : decode cX0_init 1 = .ok (.invokespecial 3, 3) := by decide +kernel
theorem dX0_init_4 : decode cX0_init 4 = .ok (.aload_n 0, 1) := by decide +kernel
theorem dX0_init_5 : decode cX0_init 5 = .ok (.bipush 10, 2) := by decide +kernel
theorem dX0_init_7 : decode cX0_init 7 = .ok (.anewarray 9, 3) := by decide +kernel
theorem dX0_init_10 : decode cX0_init 10 = .ok (.putfield 11, 3) := by decide +kernel
theorem dX0_init_13 : decode cX0_init 13 = .ok (.iconst 0, 1) := by decide +kernel
theorem dX0_init_14 : decode cX0_init 14 = .ok (.istore_n 1, 1) := by decide +kernel
theorem dX0_init_15 : decode cX0_init 15 = .ok (.iload_n 1, 1) := by decide +kernel
theorem dX0_init_16 : decode cX0_init 16 = .ok (.bipush 10, 2) := by decide +kernel
theorem dX0_init_18 : decode cX0_init 18 = .ok (.if_icmp .ge 22, 3) := by decide +kernel
theorem dX0_init_21 : decode cX0_init 21 = .ok (.aload_n 0, 1) := by decide +kernel
theorem dX0_init_22 : decode cX0_init 22 = .ok (.getfield 11, 3) := by decide +kernel
theorem dX0_init_25 : decode cX0_init 25 = .ok (.iload_n 1, 1) := by decide +kernel
theorem dX0_init_26 : decode cX0_init 26 = .ok (.new 9, 3) := by decide +kernel
theorem dX0_init_29 : decode cX0_init 29 = .ok (.dup, 1) := by decide +kernel
theorem dX0_init_30 : decode cX0_init 30 = .ok (.invokespecial 17, 3) := by decide +kernel
theorem dX0_init_33 : decode cX0_init 33 = .ok (.aastore, 1) := by decide +kernel
theorem dX0_init_34 : decode cX0_init 34 = .ok (.iinc 1 1, 3) := by decide +kernel
theorem dX0_init_37 : decode cX0_init 37 = .ok (.goto (-22), 3) := by decide +kernel
theorem dX0_init_40 : decode cX0_init 40 = .ok (.return_, 1) := by decide +kernel
theorem dX6_init_0 : decode cX6_init 0 = .ok (.aload_n 0, 1) := by decide +kernel
theorem dX6_init_1 : decode cX6_init 1 = .ok (.invokespecial 3, 3) := by decide +kernel
theorem dX6_init_4 : decode cX6_init 4 = .ok (.aload_n 0, 1) := by decide +kernel
theorem dX6_init_5 : decode cX6_init 5 = .ok (.bipush 32, 2) := by decide +kernel
theorem dX6_init_7 : decode cX6_init 7 = .ok (.newarray .int, 2) := by decide +kernel
theorem dX6_init_9 : decode cX6_init 9 = .ok (.putfield 9, 3) := by decide +kernel
theorem dX6_init_12 : decode cX6_init 12 = .ok (.aload_n 0, 1) := by decide +kernel
theorem dX6_init_13 : decode cX6_init 13 = .ok (.bipush 32, 2) := by decide +kernel
theorem dX6_init_15 : decode cX6_init 15 = .ok (.newarray .int, 2) := by decide +kernel
theorem dX6_init_17 : decode cX6_init 17 = .ok (.putfield 15, 3) := by decide +kernel
theorem dX6_init_20 : decode cX6_init 20 = .ok (.aload_n 0, 1) := by decide +kernel
theorem dX6_init_21 : decode cX6_init 21 = .ok (.bipush 16, 2) := by decide +kernel
theorem dX6_init_23 : decode cX6_init 23 = .ok (.newarray .int, 2) := by decide +kernel
theorem dX6_init_25 : decode cX6_init 25 = .ok (.putfield 18, 3) := by decide +kernel
theorem dX6_init_28 : decode cX6_init 28 = .ok (.aload_n 0, 1) := by decide +kernel
theorem dX6_init_29 : decode cX6_init 29 = .ok (.bipush 16, 2) := by decide +kernel
theorem dX6_init_31 : decode cX6_init 31 = .ok (.newarray .int, 2) := by decide +kernel
theorem dX6_init_33 : decode cX6_init 33 = .ok (.putfield 21, 3) := by decide +kernel
theorem dX6_init_36 : decode cX6_init 36 = .ok (.aload_n 0, 1) := by decide +kernel
theorem dX6_init_37 : decode cX6_init 37 = .ok (.bipush 16, 2) := by decide +kernel
theorem dX6_init_39 : decode cX6_init 39 = .ok (.newarray .int, 2) := by decide +kernel
theorem dX6_init_41 : decode cX6_init 41 = .ok (.putfield 24, 3) := by decide +kernel
theorem dX6_init_44 : decode cX6_init 44 = .ok (.aload_n 0, 1) := by decide +kernel
theorem dX6_init_45 : decode cX6_init 45 = .ok (.bipush 10, 2) := by decide +kernel
theorem dX6_init_47 : decode cX6_init 47 = .ok (.newarray .int, 2) := by decide +kernel
theorem dX6_init_49 : decode cX6_init 49 = .ok (.putfield 27, 3) := by decide +kernel
theorem dX6_init_52 : decode cX6_init 52 = .ok (.return_, 1) := by decide +kernel
theorem dX10_init_0 : decode cX10_init 0 = .ok (.aload_n 0, 1) := by decide +kernel
theorem dX10_init_1 : decode cX10_init 1 = .ok (.invokespecial 3, 3) := by decide +kernel
theorem dX10_init_4 : decode cX10_init 4 = .ok (.aload_n 0, 1) := by decide +kernel
theorem dX10_init_5 : decode cX10_init 5 = .ok (.bipush 16, 2) := by decide +kernel
theorem dX10_init_7 : decode cX10_init 7 = .ok (.bipush 16, 2) := by decide +kernel
theorem dX10_init_9 : decode cX10_init 9 = .ok (.multianewarray 9 2, 4) := by decide +kernel
theorem dX10_init_13 : decode cX10_init 13 = .ok (.putfield 11, 3) := by decide +kernel
theorem dX10_init_16 : decode cX10_init 16 = .ok (.aload_n 0, 1) := by decide +kernel
theorem dX10_init_17 : decode cX10_init 17 = .ok (.bipush 16, 2) := by decide +kernel
theorem dX10_init_19 : decode cX10_init 19 = .ok (.newarray .int, 2) := by decide +kernel
theorem dX10_init_21 : decode cX10_init 21 = .ok (.putfield 16, 3) := by decide +kernel
theorem dX10_init_24 : decode cX10_init 24 = .ok (.return_, 1) := by decide +kernel
theorem dX8_init_0 : decode cX8_init 0 = .ok (.aload_n 0, 1) := by decide +kernel
theorem dX8_init_1 : decode cX8_init 1 = .ok (.invokespecial 3, 3) := by decide +kernel
theorem dX8_init_4 : decode cX8_init 4 = .ok (.aload_n 0, 1) := by decide +kernel
theorem dX8_init_5 : decode cX8_init 5 = .ok (.sipush 1024, 3) := by decide +kernel
theorem dX8_init_8 : decode cX8_init 8 = .ok (.newarray .int, 2) := by decide +kernel
theorem dX8_init_10 : decode cX8_init 10 = .ok (.putfield 9, 3) := by decide +kernel
theorem dX8_init_13 : decode cX8_init 13 = .ok (.aload_n 0, 1) := by decide +kernel
theorem dX8_init_14 : decode cX8_init 14 = .ok (.sipush 1024, 3) := by decide +kernel
theorem dX8_init_17 : decode cX8_init 17 = .ok (.newarray .int, 2) := by decide +kernel
theorem dX8_init_19 : decode cX8_init 19 = .ok (.putfield 15, 3) := by decide +kernel
theorem dX8_init_22 : decode cX8_init 22 = .ok (.aload_n 0, 1) := by decide +kernel
theorem dX8_init_23 : decode cX8_init 23 = .ok (.sipush 1024, 3) := by decide +kernel
theorem dX8_init_26 : decode cX8_init 26 = .ok (.newarray .int, 2) := by decide +kernel
theorem dX8_init_28 : decode cX8_init 28 = .ok (.putfield 18, 3) := by decide +kernel
theorem dX8_init_31 : decode cX8_init 31 = .ok (.aload_n 0, 1) := by decide +kernel
theorem dX8_init_32 : decode cX8_init 32 = .ok (.sipush 1024, 3) := by decide +kernel
theorem dX8_init_35 : decode cX8_init 35 = .ok (.newarray .int, 2) := by decide +kernel
theorem dX8_init_37 : decode cX8_init 37 = .ok (.putfield 21, 3) := by decide +kernel
theorem dX8_init_40 : decode cX8_init 40 = .ok (.aload_n 0, 1) := by decide +kernel
theorem dX8_init_41 : decode cX8_init 41 = .ok (.sipush 3170, 3) := by decide +kernel
theorem dX8_init_44 : decode cX8_init 44 = .ok (.newarray .int, 2) := by decide +kernel
theorem dX8_init_46 : decode cX8_init 46 = .ok (.putfield 24, 3) := by decide +kernel
theorem dX8_init_49 : decode cX8_init 49 = .ok (.return_, 1) := by decide +kernel
theorem dX1_init_0 : decode cX1_init 0 = .ok (.aload_n 0, 1) := by decide +kernel
theorem dX1_init_1 : decode cX1_init 1 = .ok (.invokespecial 1, 3) := by decide +kernel
theorem dX1_init_4 : decode cX1_init 4 = .ok (.aload_n 0, 1) := by decide +kernel
theorem dX1_init_5 : decode cX1_init 5 = .ok (.new 7, 3) := by decide +kernel
theorem dX1_init_8 : decode cX1_init 8 = .ok (.dup, 1) := by decide +kernel
theorem dX1_init_9 : decode cX1_init 9 = .ok (.invokespecial 9, 3) := by decide +kernel
theorem dX1_init_12 : decode cX1_init 12 = .ok (.putfield 10, 3) := by decide +kernel
theorem dX1_init_15 : decode cX1_init 15 = .ok (.aload_n 0, 1) := by decide +kernel
theorem dX1_init_16 : decode cX1_init 16 = .ok (.new 16, 3) := by decide +kernel
theorem dX1_init_19 : decode cX1_init 19 = .ok (.dup, 1) := by decide +kernel
theorem dX1_init_20 : decode cX1_init 20 = .ok (.invokespecial 18, 3) := by decide +kernel
theorem dX1_init_23 : decode cX1_init 23 = .ok (.putfield 19, 3) := by decide +kernel
theorem dX1_init_26 : decode cX1_init 26 = .ok (.return_, 1) := by decide +kernel
theorem dX9_init_0 : decode cX9_init 0 = .ok (.aload_n 0, 1) := by decide +kernel
theorem dX9_init_1 : decode cX9_init 1 = .ok (.invokespecial 3, 3) := by decide +kernel
theorem dX9_init_4 : decode cX9_init 4 = .ok (.aload_n 0, 1) := by decide +kernel
theorem dX9_init_5 : decode cX9_init 5 = .ok (.iconst (-1), 1) := by decide +kernel
theorem dX9_init_6 : decode cX9_init 6 = .ok (.putfield 9, 3) := by decide +kernel
theorem dX9_init_9 : decode cX9_init 9 = .ok (.aload_n 0, 1) := by decide +kernel
theorem dX9_init_10 : decode cX9_init 10 = .ok (.bipush 40, 2) := by decide +kernel
theorem dX9_init_12 : decode cX9_init 12 = .ok (.newarray .long, 2) := by decide +kernel
theorem dX9_init_14 : decode cX9_init 14 = .ok (.putfield 15, 3) := by decide +kernel
theorem dX9_init_17 : decode cX9_init 17 = .ok (.return_, 1) := by decide +kernel
theorem dX3_init_0 : decode cX3_init 0 = .ok (.aload_n 0, 1) := by decide +kernel
theorem dX3_init_1 : decode cX3_init 1 = .ok (.invokespecial 3, 3) := by decide +kernel
theorem dX3_init_4 : decode cX3_init 4 = .ok (.aload_n 0, 1) := by decide +kernel
theorem dX3_init_5 : decode cX3_init 5 = .ok (.bipush 16, 2) := by decide +kernel
theorem dX3_init_7 : decode cX3_init 7 = .ok (.newarray .int, 2) := by decide +kernel
theorem dX3_init_9 : decode cX3_init 9 = .ok (.putfield 9, 3) := by decide +kernel
theorem dX3_init_12 : decode cX3_init 12 = .ok (.aload_n 0, 1) := by decide +kernel
theorem dX3_init_13 : decode cX3_init 13 = .ok (.iconst 0, 1) := by decide +kernel
theorem dX3_init_14 : decode cX3_init 14 = .ok (.iconst 0, 1) := by decide +kernel
theorem dX3_init_15 : decode cX3_init 15 = .ok (.multianewarray 15 2, 4) := by decide +kernel
theorem dX3_init_19 : decode cX3_init 19 = .ok (.putfield 17, 3) := by decide +kernel
theorem dX3_init_22 : decode cX3_init 22 = .ok (.aload_n 0, 1) := by decide +kernel
theorem dX3_init_23 : decode cX3_init 23 = .ok (.bipush 16, 2) := by decide +kernel
theorem dX3_init_25 : decode cX3_init 25 = .ok (.newarray .int, 2) := by decide +kernel
theorem dX3_init_27 : decode cX3_init 27 = .ok (.putfield 20, 3) := by decide +kernel
theorem dX3_init_30 : decode cX3_init 30 = .ok (.aload_n 0, 1) := by decide +kernel
theorem dX3_init_31 : decode cX3_init 31 = .ok (.aload_n 1, 1) := by decide +kernel
theorem dX3_init_32 : decode cX3_init 32 = .ok (.putfield 23, 3) := by decide +kernel
theorem dX3_init_35 : decode cX3_init 35 = .ok (.return_, 1) := by decide +kernel
theorem dX11_init_0 : decode cX11_init 0 = .ok (.aload_n 0, 1) := by decide +kernel
theorem dX11_init_1 : decode cX11_init 1 = .ok (.invokespecial 3, 3) := by decide +kernel
theorem dX11_init_4 : decode cX11_init 4 = .ok (.aload_n 0, 1) := by decide +kernel
theorem dX11_init_5 : decode cX11_init 5 = .ok (.sipush 900, 3) := by decide +kernel
theorem dX11_init_8 : decode cX11_init 8 = .ok (.newarray .byte, 2) := by decide +kernel
theorem dX11_init_10 : decode cX11_init 10 = .ok (.putfield 9, 3) := by decide +kernel
theorem dX11_init_13 : decode cX11_init 13 = .ok (.aload_n 0, 1) := by decide +kernel
theorem dX11_init_14 : decode cX11_init 14 = .ok (.iconst (-1), 1) := by decide +kernel
theorem dX11_init_15 : decode cX11_init 15 = .ok (.putfield 13, 3) := by decide +kernel
theorem dX11_init_18 : decode cX11_init 18 = .ok (.aload_n 0, 1) := by decide +kernel
theorem dX11_init_19 : decode cX11_init 19 = .ok (.new 17, 3) := by decide +kernel
theorem dX11_init_22 : decode cX11_init 22 = .ok (.dup, 1) := by decide +kernel
theorem dX11_init_23 : decode cX11_init 23 = .ok (.invokespecial 19, 3) := by decide +kernel
theorem dX11_init_26 : decode cX11_init 26 = .ok (.putfield 20, 3) := by decide +kernel
theorem dX11_init_29 : decode cX11_init 29 = .ok (.aload_n 0, 1) := by decide +kernel
theorem dX11_init_30 : decode cX11_init 30 = .ok (.new 17, 3) := by decide +kernel
theorem dX11_init_33 : decode cX11_init 33 = .ok (.dup, 1) := by decide +kernel
theorem dX11_init_34 : decode cX11_init 34 = .ok (.invokespecial 19, 3) := by decide +kernel
theorem dX11_init_37 : decode cX11_init 37 = .ok (.putfield 24, 3) := by decide +kernel
theorem dX11_init_40 : decode cX11_init 40 = .ok (.aload_n 0, 1) := by decide +kernel
theorem dX11_init_41 : decode cX11_init 41 = .ok (.new 27, 3) := by decide +kernel
theorem dX11_init_44 : decode cX11_init 44 = .ok (.dup, 1) := by decide +kernel
theorem dX11_init_45 : decode cX11_init 45 = .ok (.invokespecial 29, 3) := by decide +kernel
theorem dX11_init_48 : decode cX11_init 48 = .ok (.putfield 30, 3) := by decide +kernel
theorem dX11_init_51 : decode cX11_init 51 = .ok (.aload_n 0, 1) := by decide +kernel
theorem dX11_init_52 : decode cX11_init 52 = .ok (.new 34, 3) := by decide +kernel
theorem dX11_init_55 : decode cX11_init 55 = .ok (.dup, 1) := by decide +kernel
theorem dX11_init_56 : decode cX11_init 56 = .ok (.invokespecial 36, 3) := by decide +kernel
theorem dX11_init_59 : decode cX11_init 59 = .ok (.putfield 37, 3) := by decide +kernel
theorem dX11_init_62 : decode cX11_init 62 = .ok (.aload_n 0, 1) := by decide +kernel
theorem dX11_init_63 : decode cX11_init 63 = .ok (.new 34, 3) := by decide +kernel
theorem dX11_init_66 : decode cX11_init 66 = .ok (.dup, 1) := by decide +kernel
theorem dX11_init_67 : decode cX11_init 67 = .ok (.invokespecial 36, 3) := by decide +kernel
theorem dX11_init_70 : decode cX11_init 70 = .ok (.putfield 41, 3) := by decide +kernel
theorem dX11_init_73 : decode cX11_init 73 = .ok (.aload_n 0, 1) := by decide +kernel
theorem dX11_init_74 : decode cX11_init 74 = .ok (.new 44, 3) := by decide +kernel
theorem dX11_init_77 : decode cX11_init 77 = .ok (.dup, 1) := by decide +kernel
theorem dX11_init_78 : decode cX11_init 78 = .ok (.invokespecial 46, 3) := by decide +kernel
theorem dX11_init_81 : decode cX11_init 81 = .ok (.putfield 47, 3) := by decide +kernel
theorem dX11_init_84 : decode cX11_init 84 = .ok (.aload_n 0, 1) := by decide +kernel
theorem dX11_init_85 : decode cX11_init 85 = .ok (.iconst 2, 1) := by decide +kernel
theorem dX11_init_86 : decode cX11_init 86 = .ok (.anewarray 51, 3) := by decide +kernel
theorem dX11_init_89 : decode cX11_init 89 = .ok (.putfield 53, 3) := by decide +kernel
theorem dX11_init_92 : decode cX11_init 92 = .ok (.aload_n 0, 1) := by decide +kernel
theorem dX11_init_93 : decode cX11_init 93 = .ok (.iconst 4, 1) := by decide +kernel
theorem dX11_init_94 : decode cX11_init 94 = .ok (.anewarray 57, 3) := by decide +kernel
theorem dX11_init_97 : decode cX11_init 97 = .ok (.putfield 59, 3) := by decide +kernel
theorem dX11_init_100 : decode cX11_init 100 = .ok (.aload_n 0, 1) := by decide +kernel
theorem dX11_init_101 : decode cX11_init 101 = .ok (.bipush 16, 2) := by decide +kernel
theorem dX11_init_103 : decode cX11_init 103 = .ok (.newarray .int, 2) := by decide +kernel
theorem dX11_init_105 : decode cX11_init 105 = .ok (.putfield 63, 3) := by decide +kernel
theorem dX11_init_108 : decode cX11_init 108 = .ok (.aload_n 0, 1) := by decide +kernel
theorem dX11_init_109 : decode cX11_init 109 = .ok (.new 67, 3) := by decide +kernel
theorem dX11_init_112 : decode cX11_init 112 = .ok (.dup, 1) := by decide +kernel
theorem dX11_init_113 : decode cX11_init 113 = .ok (.invokespecial 69, 3) := by decide +kernel
theorem dX11_init_116 : decode cX11_init 116 = .ok (.putfield 70, 3) := by decide +kernel
theorem dX11_init_119 : decode cX11_init 119 = .ok (.aload_n 0, 1) := by decide +kernel
theorem dX11_init_120 : decode cX11_init 120 = .ok (.new 74, 3) := by decide +kernel
theorem dX11_init_123 : decode cX11_init 123 = .ok (.dup, 1) := by decide +kernel
theorem dX11_init_124 : decode cX11_init 124 = .ok (.invokespecial 76, 3) := by decide +kernel
theorem dX11_init_127 : decode cX11_init 127 = .ok (.putfield 77, 3) := by decide +kernel
theorem dX11_init_130 : decode cX11_init 130 = .ok (.aload_n 0, 1) := by decide +kernel
theorem dX11_init_131 : decode cX11_init 131 = .ok (.new 81, 3) := by decide +kernel
theorem dX11_init_134 : decode cX11_init 134 = .ok (.dup, 1) := by decide +kernel
theorem dX11_init_135 : decode cX11_init 135 = .ok (.invokespecial 83, 3) := by decide +kernel
theorem dX11_init_138 : decode cX11_init 138 = .ok (.putfield 84, 3) := by decide +kernel
theorem dX11_init_141 : decode cX11_init 141 = .ok (.iconst 0, 1) := by decide +kernel
theorem dX11_init_142 : decode cX11_init 142 = .ok (.istore_n 1, 1) := by decide +kernel
theorem dX11_init_143 : decode cX11_init 143 = .ok (.iload_n 1, 1) := by decide +kernel
theorem dX11_init_144 : decode cX11_init 144 = .ok (.iconst 2, 1) := by decide +kernel
theorem dX11_init_145 : decode cX11_init 145 = .ok (.if_icmp .ge 22, 3) := by decide +kernel
theorem dX11_init_148 : decode cX11_init 148 = .ok (.aload_n 0, 1) := by decide +kernel
theorem dX11_init_149 : decode cX11_init 149 = .ok (.getfield 53, 3) := by decide +kernel
theorem dX11_init_152 : decode cX11_init 152 = .ok (.iload_n 1, 1) := by decide +kernel
theorem dX11_init_153 : decode cX11_init 153 = .ok (.new 51, 3) := by decide +kernel
theorem dX11_init_156 : decode cX11_init 156 = .ok (.dup, 1) := by decide +kernel
theorem dX11_init_157 : decode cX11_init 157 = .ok (.invokespecial 88, 3) := by decide +kernel
theorem dX11_init_160 : decode cX11_init 160 = .ok (.aastore, 1) := by decide +kernel
theorem dX11_init_161 : decode cX11_init 161 = .ok (.iinc 1 1, 3) := by decide +kernel
theorem dX11_init_164 : decode cX11_init 164 = .ok (.goto (-21), 3) := by decide +kernel
theorem dX11_init_167 : decode cX11_init 167 = .ok (.iconst 0, 1) := by decide +kernel
theorem dX11_init_168 : decode cX11_init 168 = .ok (.istore_n 1, 1) := by decide +kernel
theorem dX11_init_169 : decode cX11_init 169 = .ok (.iload_n 1, 1) := by decide +kernel
theorem dX11_init_170 : decode cX11_init 170 = .ok (.iconst 4, 1) := by decide +kernel
theorem dX11_init_171 : decode cX11_init 171 = .ok (.if_icmp .ge 22, 3) := by decide +kernel
theorem dX11_init_174 : decode cX11_init 174 = .ok (.aload_n 0, 1) := by decide +kernel
theorem dX11_init_175 : decode cX11_init 175 = .ok (.getfield 59, 3) := by decide +kernel
theorem dX11_init_178 : decode cX11_init 178 = .ok (.iload_n 1, 1) := by decide +kernel
theorem dX11_init_179 : decode cX11_init 179 = .ok (.new 57, 3) := by decide +kernel
theorem dX11_init_182 : decode cX11_init 182 = .ok (.dup, 1) := by decide +kernel
theorem dX11_init_183 : decode cX11_init 183 = .ok (.invokespecial 89, 3) := by decide +kernel
theorem dX11_init_186 : decode cX11_init 186 = .ok (.aastore, 1) := by decide +kernel
theorem dX11_init_187 : decode cX11_init 187 = .ok (.iinc 1 1, 3) := by decide +kernel
theorem dX11_init_190 : decode cX11_init 190 = .ok (.goto (-21), 3) := by decide +kernel
theorem dX11_init_193 : decode cX11_init 193 = .ok (.ldc 90, 2) := by decide +kernel
theorem dX11_init_195 : decode cX11_init 195 = .ok (.newarray .int, 2) := by decide +kernel
theorem dX11_init_197 : decode cX11_init 197 = .ok (.astore_n 1, 1) := by decide +kernel
theorem dX11_init_198 : decode cX11_init 198 = .ok (.aload_n 0, 1) := by decide +kernel
theorem dX11_init_199 : decode cX11_init 199 = .ok (.new 91, 3) := by decide +kernel
theorem dX11_init_202 : decode cX11_init 202 = .ok (.dup, 1) := by decide +kernel
theorem dX11_init_203 : decode cX11_init 203 = .ok (.aload_n 1, 1) := by decide +kernel
theorem dX11_init_204 : decode cX11_init 204 = .ok (.invokespecial 93, 3) := by decide +kernel
theorem dX11_init_207 : decode cX11_init 207 = .ok (.putfield 96, 3) := by decide +kernel
theorem dX11_init_210 : decode cX11_init 210 = .ok (.aload_n 0, 1) := by decide +kernel
theorem dX11_init_211 : decode cX11_init 211 = .ok (.new 91, 3) := by decide +kernel
theorem dX11_init_214 : decode cX11_init 214 = .ok (.dup, 1) := by decide +kernel
theorem dX11_init_215 : decode cX11_init 215 = .ok (.aload_n 1, 1) := by decide +kernel
theorem dX11_init_216 : decode cX11_init 216 = .ok (.invokespecial 93, 3) := by decide +kernel
theorem dX11_init_219 : decode cX11_init 219 = .ok (.putfield 100, 3) := by decide +kernel
theorem dX11_init_222 : decode cX11_init 222 = .ok (.return_, 1) := by decide +kernel
theorem dX12_init_0 : decode cX12_init 0 = .ok (.aload_n 0, 1) := by decide +kernel
theorem dX12_init_1 : decode cX12_init 1 = .ok (.invokespecial 7, 3) := by decide +kernel
theorem dX12_init_4 : decode cX12_init 4 = .ok (.aload_n 0, 1) := by decide +kernel
theorem dX12_init_5 : decode cX12_init 5 = .ok (.sipush 4512, 3) := by decide +kernel
theorem dX12_init_8 : decode cX12_init 8 = .ok (.newarray .int, 2) := by decide +kernel
theorem dX12_init_10 : decode cX12_init 10 = .ok (.putfield 13, 3) := by decide +kernel
theorem dX12_init_13 : decode cX12_init 13 = .ok (.aload_n 0, 1) := by decide +kernel
theorem dX12_init_14 : decode cX12_init 14 = .ok (.iconst 2, 1) := by decide +kernel
theorem dX12_init_15 : decode cX12_init 15 = .ok (.newarray .boolean, 2) := by decide +kernel
theorem dX12_init_17 : decode cX12_init 17 = .ok (.putfield 17, 3) := by decide +kernel
theorem dX12_init_20 : decode cX12_init 20 = .ok (.aload_n 0, 1) := by decide +kernel
theorem dX12_init_21 : decode cX12_init 21 = .ok (.sipush 900, 3) := by decide +kernel
theorem dX12_init_24 : decode cX12_init 24 = .ok (.newarray .int, 2) := by decide +kernel
theorem dX12_init_26 : decode cX12_init 26 = .ok (.putfield 21, 3) := by decide +kernel
theorem dX12_init_29 : decode cX12_init 29 = .ok (.aload_n 0, 1) := by decide +kernel
theorem dX12_init_30 : decode cX12_init 30 = .ok (.sipush 1504, 3) := by decide +kernel
theorem dX12_init_33 : decode cX12_init 33 = .ok (.newarray .int, 2) := by decide +kernel
theorem dX12_init_35 : decode cX12_init 35 = .ok (.putfield 24, 3) := by decide +kernel
theorem dX12_init_38 : decode cX12_init 38 = .ok (.aload_n 0, 1) := by decide +kernel
theorem dX12_init_39 : decode cX12_init 39 = .ok (.bipush 10, 2) := by decide +kernel
theorem dX12_init_41 : decode cX12_init 41 = .ok (.newarray .int, 2) := by decide +kernel
theorem dX12_init_43 : decode cX12_init 43 = .ok (.putfield 27, 3) := by decide +kernel
theorem dX12_init_46 : decode cX12_init 46 = .ok (.aload_n 0, 1) := by decide +kernel
theorem dX12_init_47 : decode cX12_init 47 = .ok (.sipush 160, 3) := by decide +kernel
theorem dX12_init_50 : decode cX12_init 50 = .ok (.newarray .int, 2) := by decide +kernel
theorem dX12_init_52 : decode cX12_init 52 = .ok (.putfield 30, 3) := by decide +kernel
theorem dX12_init_55 : decode cX12_init 55 = .ok (.aload_n 0, 1) := by decide +kernel
theorem dX12_init_56 : decode cX12_init 56 = .ok (.iconst (-1), 1) := by decide +kernel
theorem dX12_init_57 : decode cX12_init 57 = .ok (.putfield 33, 3) := by decide +kernel
theorem dX12_init_60 : decode cX12_init 60 = .ok (.aload_n 0, 1) := by decide +kernel
theorem dX12_init_61 : decode cX12_init 61 = .ok (.sipush 900, 3) := by decide +kernel
theorem dX12_init_64 : decode cX12_init 64 = .ok (.newarray .int, 2) := by decide +kernel
theorem dX12_init_66 : decode cX12_init 66 = .ok (.putfield 36, 3) := by decide +kernel
theorem dX12_init_69 : decode cX12_init 69 = .ok (.aload_n 0, 1) := by decide +kernel
theorem dX12_init_70 : decode cX12_init 70 = .ok (.iconst 5, 1) := by decide +kernel
theorem dX12_init_71 : decode cX12_init 71 = .ok (.newarray .int, 2) := by decide +kernel
theorem dX12_init_73 : decode cX12_init 73 = .ok (.putfield 39, 3) := by decide +kernel
theorem dX12_init_76 : decode cX12_init 76 = .ok (.aload_n 0, 1) := by decide +kernel
theorem dX12_init_77 : decode cX12_init 77 = .ok (.bipush 16, 2) := by decide +kernel
theorem dX12_init_79 : decode cX12_init 79 = .ok (.newarray .int, 2) := by decide +kernel
theorem dX12_init_81 : decode cX12_init 81 = .ok (.putfield 42, 3) := by decide +kernel
theorem dX12_init_84 : decode cX12_init 84 = .ok (.aload_n 0, 1) := by decide +kernel
theorem dX12_init_85 : decode cX12_init 85 = .ok (.bipush 32, 2) := by decide +kernel
theorem dX12_init_87 : decode cX12_init 87 = .ok (.newarray .int, 2) := by decide +kernel
theorem dX12_init_89 : decode cX12_init 89 = .ok (.putfield 45, 3) := by decide +kernel
theorem dX12_init_92 : decode cX12_init 92 = .ok (.aload_n 0, 1) := by decide +kernel
theorem dX12_init_93 : decode cX12_init 93 = .ok (.bipush 16, 2) := by decide +kernel
theorem dX12_init_95 : decode cX12_init 95 = .ok (.newarray .int, 2) := by decide +kernel
theorem dX12_init_97 : decode cX12_init 97 = .ok (.putfield 48, 3) := by decide +kernel
theorem dX12_init_100 : decode cX12_init 100 = .ok (.aload_n 0, 1) := by decide +kernel
theorem dX12_init_101 : decode cX12_init 101 = .ok (.bipush 16, 2) := by decide +kernel
theorem dX12_init_103 : decode cX12_init 103 = .ok (.newarray .int, 2) := by decide +kernel
theorem dX12_init_105 : decode cX12_init 105 = .ok (.putfield 51, 3) := by decide +kernel
theorem dX12_init_108 : decode cX12_init 108 = .ok (.aload_n 0, 1) := by decide +kernel
theorem dX12_init_109 : decode cX12_init 109 = .ok (.bipush 10, 2) := by decide +kernel
theorem dX12_init_111 : decode cX12_init 111 = .ok (.newarray .int, 2) := by decide +kernel
theorem dX12_init_113 : decode cX12_init 113 = .ok (.putfield 54, 3) := by decide +kernel
theorem dX12_init_116 : decode cX12_init 116 = .ok (.aload_n 0, 1) := by decide +kernel
theorem dX12_init_117 : decode cX12_init 117 = .ok (.bipush 16, 2) := by decide +kernel
theorem dX12_init_119 : decode cX12_init 119 = .ok (.newarray .boolean, 2) := by decide +kernel
theorem dX12_init_121 : decode cX12_init 121 = .ok (.putfield 57, 3) := by decide +kernel
theorem dX12_init_124 : decode cX12_init 124 = .ok (.aload_n 0, 1) := by decide +kernel
theorem dX12_init_125 : decode cX12_init 125 = .ok (.bipush 50, 2) := by decide +kernel
theorem dX12_init_127 : decode cX12_init 127 = .ok (.newarray .int, 2) := by decide +kernel
theorem dX12_init_129 : decode cX12_init 129 = .ok (.putfield 60, 3) := by decide +kernel
theorem dX12_init_132 : decode cX12_init 132 = .ok (.aload_n 0, 1) := by decide +kernel
theorem dX12_init_133 : decode cX12_init 133 = .ok (.sipush 256, 3) := by decide +kernel
theorem dX12_init_136 : decode cX12_init 136 = .ok (.newarray .int, 2) := by decide +kernel
theorem dX12_init_138 : decode cX12_init 138 = .ok (.putfield 63, 3) := by decide +kernel
theorem dX12_init_141 : decode cX12_init 141 = .ok (.aload_n 0, 1) := by decide +kernel
theorem dX12_init_142 : decode cX12_init 142 = .ok (.bipush 16, 2) := by decide +kernel
theorem dX12_init_144 : decode cX12_init 144 = .ok (.newarray .int, 2) := by decide +kernel
theorem dX12_init_146 : decode cX12_init 146 = .ok (.putfield 66, 3) := by decide +kernel
theorem dX12_init_149 : decode cX12_init 149 = .ok (.aload_n 0, 1) := by decide +kernel
theorem dX12_init_150 : decode cX12_init 150 = .ok (.bipush 16, 2) := by decide +kernel
theorem dX12_init_152 : decode cX12_init 152 = .ok (.newarray .int, 2) := by decide +kernel
theorem dX12_init_154 : decode cX12_init 154 = .ok (.putfield 69, 3) := by decide +kernel
theorem dX12_init_157 : decode cX12_init 157 = .ok (.aload_n 0, 1) := by decide +kernel
theorem dX12_init_158 : decode cX12_init 158 = .ok (.ldc 72, 2) := by decide +kernel
theorem dX12_init_160 : decode cX12_init 160 = .ok (.newarray .int, 2) := by decide +kernel
theorem dX12_init_162 : decode cX12_init 162 = .ok (.putfield 73, 3) := by decide +kernel
theorem dX12_init_165 : decode cX12_init 165 = .ok (.aload_n 0, 1) := by decide +kernel
theorem dX12_init_166 : decode cX12_init 166 = .ok (.bipush 16, 2) := by decide +kernel
theorem dX12_init_168 : decode cX12_init 168 = .ok (.newarray .int, 2) := by decide +kernel
theorem dX12_init_170 : decode cX12_init 170 = .ok (.putfield 76, 3) := by decide +kernel
theorem dX12_init_173 : decode cX12_init 173 = .ok (.aload_n 0, 1) := by decide +kernel
theorem dX12_init_174 : decode cX12_init 174 = .ok (.sipush 1024, 3) := by decide +kernel
theorem dX12_init_177 : decode cX12_init 177 = .ok (.newarray .int, 2) := by decide +kernel
theorem dX12_init_179 : decode cX12_init 179 = .ok (.putfield 79, 3) := by decide +kernel
theorem dX12_init_182 : decode cX12_init 182 = .ok (.aload_n 0, 1) := by decide +kernel
theorem dX12_init_183 : decode cX12_init 183 = .ok (.sipush 1024, 3) := by decide +kernel
theorem dX12_init_186 : decode cX12_init 186 = .ok (.newarray .int, 2) := by decide +kernel
theorem dX12_init_188 : decode cX12_init 188 = .ok (.putfield 82, 3) := by decide +kernel
theorem dX12_init_191 : decode cX12_init 191 = .ok (.aload_n 0, 1) := by decide +kernel
theorem dX12_init_192 : decode cX12_init 192 = .ok (.sipush 1024, 3) := by decide +kernel
theorem dX12_init_195 : decode cX12_init 195 = .ok (.newarray .int, 2) := by decide +kernel
theorem dX12_init_197 : decode cX12_init 197 = .ok (.putfield 85, 3) := by decide +kernel
theorem dX12_init_200 : decode cX12_init 200 = .ok (.aload_n 0, 1) := by decide +kernel
theorem dX12_init_201 : decode cX12_init 201 = .ok (.bipush 10, 2) := by decide +kernel
theorem dX12_init_203 : decode cX12_init 203 = .ok (.newarray .int, 2) := by decide +kernel
theorem dX12_init_205 : decode cX12_init 205 = .ok (.putfield 88, 3) := by decide +kernel
theorem dX12_init_208 : decode cX12_init 208 = .ok (.aload_n 0, 1) := by decide +kernel
theorem dX12_init_209 : decode cX12_init 209 = .ok (.sipush 1024, 3) := by decide +kernel
theorem dX12_init_212 : decode cX12_init 212 = .ok (.newarray .long, 2) := by decide +kernel
theorem dX12_init_214 : decode cX12_init 214 = .ok (.putfield 91, 3) := by decide +kernel
theorem dX12_init_217 : decode cX12_init 217 = .ok (.aload_n 0, 1) := by decide +kernel
theorem dX12_init_218 : decode cX12_init 218 = .ok (.sipush 1024, 3) := by decide +kernel
theorem dX12_init_221 : decode cX12_init 221 = .ok (.newarray .long, 2) := by decide +kernel
theorem dX12_init_223 : decode cX12_init 223 = .ok (.putfield 95, 3) := by decide +kernel
theorem dX12_init_226 : decode cX12_init 226 = .ok (.aload_n 0, 1) := by decide +kernel
theorem dX12_init_227 : decode cX12_init 227 = .ok (.iconst 4, 1) := by decide +kernel
theorem dX12_init_228 : decode cX12_init 228 = .ok (.newarray .int, 2) := by decide +kernel
theorem dX12_init_230 : decode cX12_init 230 = .ok (.dup, 1) := by decide +kernel
theorem dX12_init_231 : decode cX12_init 231 = .ok (.iconst 0, 1) := by decide +kernel
theorem dX12_init_232 : decode cX12_init 232 = .ok (.iconst (-1), 1) := by decide +kernel
theorem dX12_init_233 : decode cX12_init 233 = .ok (.iastore, 1) := by decide +kernel
theorem dX12_init_234 : decode cX12_init 234 = .ok (.dup, 1) := by decide +kernel
theorem dX12_init_235 : decode cX12_init 235 = .ok (.iconst 1, 1) := by decide +kernel
theorem dX12_init_236 : decode cX12_init 236 = .ok (.iconst (-1), 1) := by decide +kernel
theorem dX12_init_237 : decode cX12_init 237 = .ok (.iastore, 1) := by decide +kernel
theorem dX12_init_238 : decode cX12_init 238 = .ok (.dup, 1) := by decide +kernel
theorem dX12_init_239 : decode cX12_init 239 = .ok (.iconst 2, 1) := by decide +kernel
theorem dX12_init_240 : decode cX12_init 240 = .ok (.iconst (-1), 1) := by decide +kernel
theorem dX12_init_241 : decode cX12_init 241 = .ok (.iastore, 1) := by decide +kernel
theorem dX12_init_242 : decode cX12_init 242 = .ok (.dup, 1) := by decide +kernel
theorem dX12_init_243 : decode cX12_init 243 = .ok (.iconst 3, 1) := by decide +kernel
theorem dX12_init_244 : decode cX12_init 244 = .ok (.iconst (-1), 1) := by decide +kernel
theorem dX12_init_245 : decode cX12_init 245 = .ok (.iastore, 1) := by decide +kernel
theorem dX12_init_246 : decode cX12_init 246 = .ok (.putfield 98, 3) := by decide +kernel
theorem dX12_init_249 : decode cX12_init 249 = .ok (.aload_n 0, 1) := by decide +kernel
theorem dX12_init_250 : decode cX12_init 250 = .ok (.iconst 4, 1) := by decide +kernel
theorem dX12_init_251 : decode cX12_init 251 = .ok (.newarray .int, 2) := by decide +kernel
theorem dX12_init_253 : decode cX12_init 253 = .ok (.putfield 101, 3) := by decide +kernel
theorem dX12_init_256 : decode cX12_init 256 = .ok (.aload_n 0, 1) := by decide +kernel
theorem dX12_init_257 : decode cX12_init 257 = .ok (.sipush 160, 3) := by decide +kernel
theorem dX12_init_260 : decode cX12_init 260 = .ok (.newarray .long, 2) := by decide +kernel
theorem dX12_init_262 : decode cX12_init 262 = .ok (.putfield 104, 3) := by decide +kernel
theorem dX12_init_265 : decode cX12_init 265 = .ok (.aload_n 0, 1) := by decide +kernel
theorem dX12_init_266 : decode cX12_init 266 = .ok (.getfield 13, 3) := by decide +kernel
theorem dX12_init_269 : decode cX12_init 269 = .ok (.invokestatic 107, 3) := by decide +kernel
theorem dX12_init_272 : decode cX12_init 272 = .ok (.return_, 1) := by decide +kernel
theorem iX2_10 : q_Con yX2_init mX2_init 1 [qR 10] 10 (q_Mz 8) 13 (q_pz 11) := by
  refine q_start (by decide +kernel) rfl (fun _ => rfl) (ls := [some (qR 10)]) rfl (Nat.le_of_ble_eq_true rfl) (fun d hd => ?_)
  refine qr_aload_n 0 1 rfl (x := 10) rfl dX2_init_0 ?_
  refine qr_oinit 1 4 rfl (by decide) wm_42 wm_29 wm_30 (by omega) (Nat.le_of_ble_eq_true rfl) dX2_init_1 ?_
  refine qr_aload_n 4 5 rfl (x := 10) rfl dX2_init_4 ?_
  refine qr_sipush 5 8 rfl (q_l32 _ rfl) (by decide) dX2_init_5 ?_
  refine cn_a 8 10 rfl q_nw14 11 rfl 11 rfl (by decide +kernel) (by decide +kernel) (by decide) (by decide) (by decide) wx_int dX2_init_8 ?_
  refine cp_f 10 13 rfl ck2 1 (by decide) (by decide +kernel) rfl (by decide) (by decide +kernel) rfl rfl 8 (by decide +kernel) wm_45 rfl dX2_init_10 ?_
  refine qr_aload_n 13 14 rfl (x := 10) rfl dX2_init_13 ?_
  refine qr_bipush 14 16 rfl (q_l32 _ rfl) (by decide) dX2_init_14 ?_
  refine cn_a 16 18 rfl q_nw14 12 rfl 12 rfl (by decide +kernel) (by decide +kernel) (by decide) (by decide) (by decide) wx_int dX2_init_16 ?_
  refine cp_f 18 21 rfl ck2 2 (by decide) (by decide +kernel) rfl (by decide) (by decide +kernel) rfl rfl 9 (by decide +kernel) wm_46 rfl dX2_init_18 ?_
  refine qr_aload_n 21 22 rfl (x := 10) rfl dX2_init_21 ?_
  refine qr_iconst 22 23 rfl (q_l32 _ rfl) dX2_init_22 ?_
  refine cn_a 23 25 rfl q_nw14 13 rfl 13 rfl (by decide +kernel) (by decide +kernel) (by decide) (by decide) (by decide) wx_int dX2_init_23 ?_
  refine cp_f 25 28 rfl ck2 3 (by decide) (by decide +kernel) rfl (by decide) (by decide +kernel) rfl rfl 10 (by decide +kernel) wm_47 rfl dX2_init_25 ?_
  exact qr_return 28 rfl dX2_init_28 ⟨rfl, rfl⟩

theorem iX2_14 : q_Con yX2_init mX2_init 1 [qR 14] 14 (q_Mz 12) 17 (q_pz 15) := by
  refine q_start (by decide +kernel) rfl (fun _ => rfl) (ls := [some (qR 14)]) rfl (Nat.le_of_ble_eq_true rfl) (fun d hd => ?_)
  refine qr_aload_n 0 1 rfl (x := 14) rfl dX2_init_0 ?_
  refine qr_oinit 1 4 rfl (by decide) wm_42 wm_29 wm_30 (by omega) (Nat.le_of_ble_eq_true rfl) dX2_init_1 ?_
  refine qr_aload_n 4 5 rfl (x := 14) rfl dX2_init_4 ?_
  refine qr_sipush 5 8 rfl (q_l32 _ rfl) (by decide) dX2_init_5 ?_
  refine cn_a 8 10 rfl q_nw14 15 rfl 15 rfl (by decide +kernel) (by decide +kernel) (by decide) (by decide) (by decide) wx_int dX2_init_8 ?_
  refine cp_f 10 13 rfl ck2 1 (by decide) (by decide +kernel) rfl (by decide) (by decide +kernel) rfl rfl 12 (by decide +kernel) wm_45 rfl dX2_init_10 ?_
  refine qr_aload_n 13 14 rfl (x := 14) rfl dX2_init_13 ?_
  refine qr_bipush 14 16 rfl (q_l32 _ rfl) (by decide) dX2_init_14 ?_
  refine cn_a 16 18 rfl q_nw14 16 rfl 16 rfl (by decide +kernel) (by decide +kernel) (by decide) (by decide) (by decide) wx_int dX2_init_16 ?_
  refine cp_f 18 21 rfl ck2 2 (by decide) (by decide +kernel) rfl (by decide) (by decide +kernel) rfl rfl 13 (by decide +kernel) wm_46 rfl dX2_init_18 ?_
  refine qr_aload_n 21 22 rfl (x := 14) rfl dX2_init_21 ?_
  refine qr_iconst 22 23 rfl (q_l32 _ rfl) dX2_init_22 ?_
  refine cn_a 23 25 rfl q_nw14 17 rfl 17 rfl (by decide +kernel) (by decide +kernel) (by decide) (by decide) (by decide) wx_int dX2_init_23 ?_
  refine cp_f 25 28 rfl ck2 3 (by decide) (by decide +kernel) rfl (by decide) (by decide +kernel) rfl rfl 14 (by decide +kernel) wm_47 rfl dX2_init_25 ?_
  exact qr_return 28 rfl dX2_init_28 ⟨rfl, rfl⟩

theorem iX4_3 : q_Con yX4_init mX4_init 2 [qR 3] 3 (q_Mz 2) 17 (q_pz 16) := by
  refine q_start (by decide +kernel) rfl (fun _ => rfl) (ls := [some (qR 3)]) rfl (Nat.le_of_ble_eq_true rfl) (fun d hd => ?_)
  refine qr_aload_n 0 1 rfl (x := 3) rfl dX4_init_0 ?_
  refine qr_oinit 1 4 rfl (by decide) wm_36 wm_29 wm_30 (by omega) (Nat.le_of_ble_eq_true rfl) dX4_init_1 ?_
  refine qr_aload_n 4 5 rfl (x := 3) rfl dX4_init_4 ?_
  refine qr_bipush 5 7 rfl (q_l32 _ rfl) (by decide) dX4_init_5 ?_
  refine cn_a 7 9 rfl q_nw14 4 rfl 4 rfl (by decide +kernel) (by decide +kernel) (by decide) (by decide) (by decide) wx_int dX4_init_7 ?_
  refine cp_f 9 12 rfl ck4 4 (by decide) (by decide +kernel) rfl (by decide) (by decide +kernel) rfl rfl 2 (by decide +kernel) wm_74 rfl dX4_init_9 ?_
  refine qr_aload_n 12 13 rfl (x := 3) rfl dX4_init_12 ?_
  refine qr_bipush 13 15 rfl (q_l32 _ rfl) (by decide) dX4_init_13 ?_
  refine cn_a 15 17 rfl q_nw14 5 rfl 5 rfl (by decide +kernel) (by decide +kernel) (by decide) (by decide) (by decide) wx_int dX4_init_15 ?_
  refine cp_f 17 20 rfl ck4 5 (by decide) (by decide +kernel) rfl (by decide) (by decide +kernel) rfl rfl 3 (by decide +kernel) wm_78 rfl dX4_init_17 ?_
  refine qr_aload_n 20 21 rfl (x := 3) rfl dX4_init_20 ?_
  refine qr_bipush 21 23 rfl (q_l32 _ rfl) (by decide) dX4_init_21 ?_
  refine cn_a 23 25 rfl q_nw14 6 rfl 6 rfl (by decide +kernel) (by decide +kernel) (by decide) (by decide) (by decide) wx_int dX4_init_23 ?_
  refine cp_f 25 28 rfl ck4 6 (by decide) (by decide +kernel) rfl (by decide) (by decide +kernel) rfl rfl 4 (by decide +kernel) wm_82 rfl dX4_init_25 ?_
  refine qr_aload_n 28 29 rfl (x := 3) rfl dX4_init_28 ?_
  refine qr_bipush 29 31 rfl (q_l32 _ rfl) (by decide) dX4_init_29 ?_
  refine cn_a 31 33 rfl q_nw14 7 rfl 7 rfl (by decide +kernel) (by decide +kernel) (by decide) (by decide) (by decide) wx_int dX4_init_31 ?_
  refine cp_f 33 36 rfl ck4 7 (by decide) (by decide +kernel) rfl (by decide) (by decide +kernel) rfl rfl 5 (by decide +kernel) wm_83 rfl dX4_init_33 ?_
  refine qr_aload_n 36 37 rfl (x := 3) rfl dX4_init_36 ?_
  refine qr_sipush 37 40 rfl (q_l32 _ rfl) (by decide) dX4_init_37 ?_
  refine cn_a 40 42 rfl q_nw14 8 rfl 8 rfl (by decide +kernel) (by decide +kernel) (by decide) (by decide) (by decide) wx_int dX4_init_40 ?_
  refine cp_f 42 45 rfl ck4 8 (by decide) (by decide +kernel) rfl (by decide) (by decide +kernel) rfl rfl 6 (by decide +kernel) wm_86 rfl dX4_init_42 ?_
  refine qr_aload_n 45 46 rfl (x := 3) rfl dX4_init_45 ?_
  refine qr_bipush 46 48 rfl (q_l32 _ rfl) (by decide) dX4_init_46 ?_
  refine cn_a 48 50 rfl q_nw14 9 rfl 9 rfl (by decide +kernel) (by decide +kernel) (by decide) (by decide) (by decide) wx_int dX4_init_48 ?_
  refine cp_f 50 53 rfl ck4 9 (by decide) (by decide +kernel) rfl (by decide) (by decide +kernel) rfl rfl 7 (by decide +kernel) wm_87 rfl dX4_init_50 ?_
  refine qr_aload_n 53 54 rfl (x := 3) rfl dX4_init_53 ?_
  refine cn_o 54 57 rfl ck2 10 rfl 10 rfl (by decide +kernel) (by decide) (by decide) wm_37 wm_38 wm_3 dX4_init_54 cdf2 ?_
  refine qr_dup 57 58 rfl rfl dX4_init_57 ?_
  refine cc_N 58 61 rfl (av := []) ca_X2_init rfl wm_40 wn_39 (by decide) (by omega) rfl rfl (Nat.le_of_ble_eq_true rfl) (by decide) (by decide) dX4_init_58 iX2_10 ?_
  refine cp_f 61 64 rfl ck4 10 (by decide) (by decide +kernel) rfl (by decide) (by decide +kernel) rfl rfl 11 (by decide +kernel) wm_90 rfl dX4_init_61 ?_
  refine qr_aload_n 64 65 rfl (x := 3) rfl dX4_init_64 ?_
  refine cn_o 65 68 rfl ck2 14 rfl 14 rfl (by decide +kernel) (by decide) (by decide) wm_37 wm_38 wm_3 dX4_init_65 cdf2 ?_
  refine qr_dup 68 69 rfl rfl dX4_init_68 ?_
  refine cc_N 69 72 rfl (av := []) ca_X2_init rfl wm_40 wn_39 (by decide) (by omega) rfl rfl (Nat.le_of_ble_eq_true rfl) (by decide) (by decide) dX4_init_69 iX2_14 ?_
  refine cp_f 72 75 rfl ck4 11 (by decide) (by decide +kernel) rfl (by decide) (by decide +kernel) rfl rfl 15 (by decide +kernel) wm_91 rfl dX4_init_72 ?_
  exact qr_return 75 rfl dX4_init_75 ⟨rfl, rfl⟩

theorem iX2_25 : q_Con yX2_init mX2_init 1 [qR 25] 25 (q_Mz 23) 28 (q_pz 26) := by
  refine q_start (by decide +kernel) rfl (fun _ => rfl) (ls := [some (qR 25)]) rfl (Nat.le_of_ble_eq_true rfl) (fun d hd => ?_)
  refine qr_aload_n 0 1 rfl (x := 25) rfl dX2_init_0 ?_
  refine qr_oinit 1 4 rfl (by decide) wm_42 wm_29 wm_30 (by omega) (Nat.le_of_ble_eq_true rfl) dX2_init_1 ?_
  refine qr_aload_n 4 5 rfl (x := 25) rfl dX2_init_4 ?_
  refine qr_sipush 5 8 rfl (q_l32 _ rfl) (by decide) dX2_init_5 ?_
  refine cn_a 8 10 rfl q_nw14 26 rfl 26 rfl (by decide +kernel) (by decide +kernel) (by decide) (by decide) (by decide) wx_int dX2_init_8 ?_
  refine cp_f 10 13 rfl ck2 1 (by decide) (by decide +kernel) rfl (by decide) (by decide +kernel) rfl rfl 23 (by decide +kernel) wm_45 rfl dX2_init_10 ?_
  refine qr_aload_n 13 14 rfl (x := 25) rfl dX2_init_13 ?_
  refine qr_bipush 14 16 rfl (q_l32 _ rfl) (by decide) dX2_init_14 ?_
  refine cn_a 16 18 rfl q_nw14 27 rfl 27 rfl (by decide +kernel) (by decide +kernel) (by decide) (by decide) (by decide) wx_int dX2_init_16 ?_
  refine cp_f 18 21 rfl ck2 2 (by decide) (by decide +kernel) rfl (by decide) (by decide +kernel) rfl rfl 24 (by decide +kernel) wm_46 rfl dX2_init_18 ?_
  refine qr_aload_n 21 22 rfl (x := 25) rfl dX2_init_21 ?_
  refine qr_iconst 22 23 rfl (q_l32 _ rfl) dX2_init_22 ?_
  refine cn_a 23 25 rfl q_nw14 28 rfl 28 rfl (by decide +kernel) (by decide +kernel) (by decide) (by decide) (by decide) wx_int dX2_init_23 ?_
  refine cp_f 25 28 rfl ck2 3 (by decide) (by decide +kernel) rfl (by decide) (by decide +kernel) rfl rfl 25 (by decide +kernel) wm_47 rfl dX2_init_25 ?_
  exact qr_return 28 rfl dX2_init_28 ⟨rfl, rfl⟩

theorem iX2_29 : q_Con yX2_init mX2_init 1 [qR 29] 29 (q_Mz 27) 32 (q_pz 30) := by
  refine q_start (by decide +kernel) rfl (fun _ => rfl) (ls := [some (qR 29)]) rfl (Nat.le_of_ble_eq_true rfl) (fun d hd => ?_)
  refine qr_aload_n 0 1 rfl (x := 29) rfl dX2_init_0 ?_
  refine qr_oinit 1 4 rfl (by decide) wm_42 wm_29 wm_30 (by omega) (Nat.le_of_ble_eq_true rfl) dX2_init_1 ?_
  refine qr_aload_n 4 5 rfl (x := 29) rfl dX2_init_4 ?_
  refine qr_sipush 5 8 rfl (q_l32 _ rfl) (by decide) dX2_init_5 ?_
  refine cn_a 8 10 rfl q_nw14 30 rfl 30 rfl (by decide +kernel) (by decide +kernel) (by decide) (by decide) (by decide) wx_int dX2_init_8 ?_
  refine cp_f 10 13 rfl ck2 1 (by decide) (by decide +kernel) rfl (by decide) (by decide +kernel) rfl rfl 27 (by decide +kernel) wm_45 rfl dX2_init_10 ?_
  refine qr_aload_n 13 14 rfl (x := 29) rfl dX2_init_13 ?_
  refine qr_bipush 14 16 rfl (q_l32 _ rfl) (by decide) dX2_init_14 ?_
  refine cn_a 16 18 rfl q_nw14 31 rfl 31 rfl (by decide +kernel) (by decide +kernel) (by decide) (by decide) (by decide) wx_int dX2_init_16 ?_
  refine cp_f 18 21 rfl ck2 2 (by decide) (by decide +kernel) rfl (by decide) (by decide +kernel) rfl rfl 28 (by decide +kernel) wm_46 rfl dX2_init_18 ?_
  refine qr_aload_n 21 22 rfl (x := 29) rfl dX2_init_21 ?_
  refine qr_iconst 22 23 rfl (q_l32 _ rfl) dX2_init_22 ?_
  refine cn_a 23 25 rfl q_nw14 32 rfl 32 rfl (by decide +kernel) (by decide +kernel) (by decide) (by decide) (by decide) wx_int dX2_init_23 ?_
  refine cp_f 25 28 rfl ck2 3 (by decide) (by decide +kernel) rfl (by decide) (by decide +kernel) rfl rfl 29 (by decide +kernel) wm_47 rfl dX2_init_25 ?_
  exact qr_return 28 rfl dX2_init_28 ⟨rfl, rfl⟩

theorem iX4_18 : q_Con yX4_init mX4_init 2 [qR 18] 18 (q_Mz 17) 32 (q_pz 31) := by
  refine q_start (by decide +kernel) rfl (fun _ => rfl) (ls := [some (qR 18)]) rfl (Nat.le_of_ble_eq_true rfl) (fun d hd => ?_)
  refine qr_aload_n 0 1 rfl (x := 18) rfl dX4_init_0 ?_
  refine qr_oinit 1 4 rfl (by decide) wm_36 wm_29 wm_30 (by omega) (Nat.le_of_ble_eq_true rfl) dX4_init_1 ?_
  refine qr_aload_n 4 5 rfl (x := 18) rfl dX4_init_4 ?_
  refine qr_bipush 5 7 rfl (q_l32 _ rfl) (by decide) dX4_init_5 ?_
  refine cn_a 7 9 rfl q_nw14 19 rfl 19 rfl (by decide +kernel) (by decide +kernel) (by decide) (by decide) (by decide) wx_int dX4_init_7 ?_
  refine cp_f 9 12 rfl ck4 4 (by decide) (by decide +kernel) rfl (by decide) (by decide +kernel) rfl rfl 17 (by decide +kernel) wm_74 rfl dX4_init_9 ?_
  refine qr_aload_n 12 13 rfl (x := 18) rfl dX4_init_12 ?_
  refine qr_bipush 13 15 rfl (q_l32 _ rfl) (by decide) dX4_init_13 ?_
  refine cn_a 15 17 rfl q_nw14 20 rfl 20 rfl (by decide +kernel) (by decide +kernel) (by decide) (by decide) (by decide) wx_int dX4_init_15 ?_
  refine cp_f 17 20 rfl ck4 5 (by decide) (by decide +kernel) rfl (by decide) (by decide +kernel) rfl rfl 18 (by decide +kernel) wm_78 rfl dX4_init_17 ?_
  refine qr_aload_n 20 21 rfl (x := 18) rfl dX4_init_20 ?_
  refine qr_bipush 21 23 rfl (q_l32 _ rfl) (by decide) dX4_init_21 ?_
  refine cn_a 23 25 rfl q_nw14 21 rfl 21 rfl (by decide +kernel) (by decide +kernel) (by decide) (by decide) (by decide) wx_int dX4_init_23 ?_
  refine cp_f 25 28 rfl ck4 6 (by decide) (by decide +kernel) rfl (by decide) (by decide +kernel) rfl rfl 19 (by decide +kernel) wm_82 rfl dX4_init_25 ?_
  refine qr_aload_n 28 29 rfl (x := 18) rfl dX4_init_28 ?_
  refine qr_bipush 29 31 rfl (q_l32 _ rfl) (by decide) dX4_init_29 ?_
  refine cn_a 31 33 rfl q_nw14 22 rfl 22 rfl (by decide +kernel) (by decide +kernel) (by decide) (by decide) (by decide) wx_int dX4_init_31 ?_
  refine cp_f 33 36 rfl ck4 7 (by decide) (by decide +kernel) rfl (by decide) (by decide +kernel) rfl rfl 20 (by decide +kernel) wm_83 rfl dX4_init_33 ?_
  refine qr_aload_n 36 37 rfl (x := 18) rfl dX4_init_36 ?_
  refine qr_sipush 37 40 rfl (q_l32 _ rfl) (by decide) dX4_init_37 ?_
  refine cn_a 40 42 rfl q_nw14 23 rfl 23 rfl (by decide +kernel) (by decide +kernel) (by decide) (by decide) (by decide) wx_int dX4_init_40 ?_
  refine cp_f 42 45 rfl ck4 8 (by decide) (by decide +kernel) rfl (by decide) (by decide +kernel) rfl rfl 21 (by decide +kernel) wm_86 rfl dX4_init_42 ?_
  refine qr_aload_n 45 46 rfl (x := 18) rfl dX4_init_45 ?_
  refine qr_bipush 46 48 rfl (q_l32 _ rfl) (by decide) dX4_init_46 ?_
  refine cn_a 48 50 rfl q_nw14 24 rfl 24 rfl (by decide +kernel) (by decide +kernel) (by decide) (by decide) (by decide) wx_int dX4_init_48 ?_
  refine cp_f 50 53 rfl ck4 9 (by decide) (by decide +kernel) rfl (by decide) (by decide +kernel) rfl rfl 22 (by decide +kernel) wm_87 rfl dX4_init_50 ?_
  refine qr_aload_n 53 54 rfl (x := 18) rfl dX4_init_53 ?_
  refine cn_o 54 57 rfl ck2 25 rfl 25 rfl (by decide +kernel) (by decide) (by decide) wm_37 wm_38 wm_3 dX4_init_54 cdf2 ?_
  refine qr_dup 57 58 rfl rfl dX4_init_57 ?_
  refine cc_N 58 61 rfl (av := []) ca_X2_init rfl wm_40 wn_39 (by decide) (by omega) rfl rfl (Nat.le_of_ble_eq_true rfl) (by decide) (by decide) dX4_init_58 iX2_25 ?_
  refine cp_f 61 64 rfl ck4 10 (by decide) (by decide +kernel) rfl (by decide) (by decide +kernel) rfl rfl 26 (by decide +kernel) wm_90 rfl dX4_init_61 ?_
  refine qr_aload_n 64 65 rfl (x := 18) rfl dX4_init_64 ?_
  refine cn_o 65 68 rfl ck2 29 rfl 29 rfl (by decide +kernel) (by decide) (by decide) wm_37 wm_38 wm_3 dX4_init_65 cdf2 ?_
  refine qr_dup 68 69 rfl rfl dX4_init_68 ?_
  refine cc_N 69 72 rfl (av := []) ca_X2_init rfl wm_40 wn_39 (by decide) (by omega) rfl rfl (Nat.le_of_ble_eq_true rfl) (by decide) (by decide) dX4_init_69 iX2_29 ?_
  refine cp_f 72 75 rfl ck4 11 (by decide) (by decide +kernel) rfl (by decide) (by decide +kernel) rfl rfl 30 (by decide +kernel) wm_91 rfl dX4_init_72 ?_
  exact qr_return 75 rfl dX4_init_75 ⟨rfl, rfl⟩

theorem iX2_42 : q_Con yX2_init mX2_init 1 [qR 42] 42 (q_Mz 40) 45 (q_pz 43) := by
  refine q_start (by decide +kernel) rfl (fun _ => rfl) (ls := [some (qR 42)]) rfl (Nat.le_of_ble_eq_true rfl) (fun d hd => ?_)
  refine qr_aload_n 0 1 rfl (x := 42) rfl dX2_init_0 ?_
  refine qr_oinit 1 4 rfl (by decide) wm_42 wm_29 wm_30 (by omega) (Nat.le_of_ble_eq_true rfl) dX2_init_1 ?_
  refine qr_aload_n 4 5 rfl (x := 42) rfl dX2_init_4 ?_
  refine qr_sipush 5 8 rfl (q_l32 _ rfl) (by decide) dX2_init_5 ?_
  refine cn_a 8 10 rfl q_nw14 43 rfl 43 rfl (by decide +kernel) (by decide +kernel) (by decide) (by decide) (by decide) wx_int dX2_init_8 ?_
  refine cp_f 10 13 rfl ck2 1 (by decide) (by decide +kernel) rfl (by decide) (by decide +kernel) rfl rfl 40 (by decide +kernel) wm_45 rfl dX2_init_10 ?_
  refine qr_aload_n 13 14 rfl (x := 42) rfl dX2_init_13 ?_
  refine qr_bipush 14 16 rfl (q_l32 _ rfl) (by decide) dX2_init_14 ?_
  refine cn_a 16 18 rfl q_nw14 44 rfl 44 rfl (by decide +kernel) (by decide +kernel) (by decide) (by decide) (by decide) wx_int dX2_init_16 ?_
  refine cp_f 18 21 rfl ck2 2 (by decide) (by decide +kernel) rfl (by decide) (by decide +kernel) rfl rfl 41 (by decide +kernel) wm_46 rfl dX2_init_18 ?_
  refine qr_aload_n 21 22 rfl (x := 42) rfl dX2_init_21 ?_
  refine qr_iconst 22 23 rfl (q_l32 _ rfl) dX2_init_22 ?_
  refine cn_a 23 25 rfl q_nw14 45 rfl 45 rfl (by decide +kernel) (by decide +kernel) (by decide) (by decide) (by decide) wx_int dX2_init_23 ?_
  refine cp_f 25 28 rfl ck2 3 (by decide) (by decide +kernel) rfl (by decide) (by decide +kernel) rfl rfl 42 (by decide +kernel) wm_47 rfl dX2_init_25 ?_
  exact qr_return 28 rfl dX2_init_28 ⟨rfl, rfl⟩

theorem iX2_46 : q_Con yX2_init mX2_init 1 [qR 46] 46 (q_Mz 44) 49 (q_pz 47) := by
  refine q_start (by decide +kernel) rfl (fun _ => rfl) (ls := [some (qR 46)]) rfl (Nat.le_of_ble_eq_true rfl) (fun d hd => ?_)
  refine qr_aload_n 0 1 rfl (x := 46) rfl dX2_init_0 ?_
  refine qr_oinit 1 4 rfl (by decide) wm_42 wm_29 wm_30 (by omega) (Nat.le_of_ble_eq_true rfl) dX2_init_1 ?_
  refine qr_aload_n 4 5 rfl (x := 46) rfl dX2_init_4 ?_
  refine qr_sipush 5 8 rfl (q_l32 _ rfl) (by decide) dX2_init_5 ?_
  refine cn_a 8 10 rfl q_nw14 47 rfl 47 rfl (by decide +kernel) (by decide +kernel) (by decide) (by decide) (by decide) wx_int dX2_init_8 ?_
  refine cp_f 10 13 rfl ck2 1 (by decide) (by decide +kernel) rfl (by decide) (by decide +kernel) rfl rfl 44 (by decide +kernel) wm_45 rfl dX2_init_10 ?_
  refine qr_aload_n 13 14 rfl (x := 46) rfl dX2_init_13 ?_
  refine qr_bipush 14 16 rfl (q_l32 _ rfl) (by decide) dX2_init_14 ?_
  refine cn_a 16 18 rfl q_nw14 48 rfl 48 rfl (by decide +kernel) (by decide +kernel) (by decide) (by decide) (by decide) wx_int dX2_init_16 ?_
  refine cp_f 18 21 rfl ck2 2 (by decide) (by decide +kernel) rfl (by decide) (by decide +kernel) rfl rfl 45 (by decide +kernel) wm_46 rfl dX2_init_18 ?_
  refine qr_aload_n 21 22 rfl (x := 46) rfl dX2_init_21 ?_
  refine qr_iconst 22 23 rfl (q_l32 _ rfl) dX2_init_22 ?_
  refine cn_a 23 25 rfl q_nw14 49 rfl 49 rfl (by decide +kernel) (by decide +kernel) (by decide) (by decide) (by decide) wx_int dX2_init_23 ?_
  refine cp_f 25 28 rfl ck2 3 (by decide) (by decide +kernel) rfl (by decide) (by decide +kernel) rfl rfl 46 (by decide +kernel) wm_47 rfl dX2_init_25 ?_
  exact qr_return 28 rfl dX2_init_28 ⟨rfl, rfl⟩

theorem iX4_35 : q_Con yX4_init mX4_init 2 [qR 35] 35 (q_Mz 34) 49 (q_pz 48) := by
  refine q_start (by decide +kernel) rfl (fun _ => rfl) (ls := [some (qR 35)]) rfl (Nat.le_of_ble_eq_true rfl) (fun d hd => ?_)
  refine qr_aload_n 0 1 rfl (x := 35) rfl dX4_init_0 ?_
  refine qr_oinit 1 4 rfl (by decide) wm_36 wm_29 wm_30 (by omega) (Nat.le_of_ble_eq_true rfl) dX4_init_1 ?_
  refine qr_aload_n 4 5 rfl (x := 35) rfl dX4_init_4 ?_
  refine qr_bipush 5 7 rfl (q_l32 _ rfl) (by decide) dX4_init_5 ?_
  refine cn_a 7 9 rfl q_nw14 36 rfl 36 rfl (by decide +kernel) (by decide +kernel) (by decide) (by decide) (by decide) wx_int dX4_init_7 ?_
  refine cp_f 9 12 rfl ck4 4 (by decide) (by decide +kernel) rfl (by decide) (by decide +kernel) rfl rfl 34 (by decide +kernel) wm_74 rfl dX4_init_9 ?_
  refine qr_aload_n 12 13 rfl (x := 35) rfl dX4_init_12 ?_
  refine qr_bipush 13 15 rfl (q_l32 _ rfl) (by decide) dX4_init_13 ?_
  refine cn_a 15 17 rfl q_nw14 37 rfl 37 rfl (by decide +kernel) (by decide +kernel) (by decide) (by decide) (by decide) wx_int dX4_init_15 ?_
  refine cp_f 17 20 rfl ck4 5 (by decide) (by decide +kernel) rfl (by decide) (by decide +kernel) rfl rfl 35 (by decide +kernel) wm_78 rfl dX4_init_17 ?_
  refine qr_aload_n 20 21 rfl (x := 35) rfl dX4_init_20 ?_
  refine qr_bipush 21 23 rfl (q_l32 _ rfl) (by decide) dX4_init_21 ?_
  refine cn_a 23 25 rfl q_nw14 38 rfl 38 rfl (by decide +kernel) (by decide +kernel) (by decide) (by decide) (by decide) wx_int dX4_init_23 ?_
  refine cp_f 25 28 rfl ck4 6 (by decide) (by decide +kernel) rfl (by decide) (by decide +kernel) rfl rfl 36 (by decide +kernel) wm_82 rfl dX4_init_25 ?_
  refine qr_aload_n 28 29 rfl (x := 35) rfl dX4_init_28 ?_
  refine qr_bipush 29 31 rfl (q_l32 _ rfl) (by decide) dX4_init_29 ?_
  refine cn_a 31 33 rfl q_nw14 39 rfl 39 rfl (by decide +kernel) (by decide +kernel) (by decide) (by decide) (by decide) wx_int dX4_init_31 ?_
  refine cp_f 33 36 rfl ck4 7 (by decide) (by decide +kernel) rfl (by decide) (by decide +kernel) rfl rfl 37 (by decide +kernel) wm_83 rfl dX4_init_33 ?_
  refine qr_aload_n 36 37 rfl (x := 35) rfl dX4_init_36 ?_
  refine qr_sipush 37 40 rfl (q_l32 _ rfl) (by decide) dX4_init_37 ?_
  refine cn_a 40 42 rfl q_nw14 40 rfl 40 rfl (by decide +kernel) (by decide +kernel) (by decide) (by decide) (by decide) wx_int dX4_init_40 ?_
  refine cp_f 42 45 rfl ck4 8 (by decide) (by decide +kernel) rfl (by decide) (by decide +kernel) rfl rfl 38 (by decide +kernel) wm_86 rfl dX4_init_42 ?_
  refine qr_aload_n 45 46 rfl (x := 35) rfl dX4_init_45 ?_
  refine qr_bipush 46 48 rfl (q_l32 _ rfl) (by decide) dX4_init_46 ?_
  refine cn_a 48 50 rfl q_nw14 41 rfl 41 rfl (by decide +kernel) (by decide +kernel) (by decide) (by decide) (by decide) wx_int dX4_init_48 ?_
  refine cp_f 50 53 rfl ck4 9 (by decide) (by decide +kernel) rfl (by decide) (by decide +kernel) rfl rfl 39 (by decide +kernel) wm_87 rfl dX4_init_50 ?_
  refine qr_aload_n 53 54 rfl (x := 35) rfl dX4_init_53 ?_
  refine cn_o 54 57 rfl ck2 42 rfl 42 rfl (by decide +kernel) (by decide) (by decide) wm_37 wm_38 wm_3 dX4_init_54 cdf2 ?_
  refine qr_dup 57 58 rfl rfl dX4_init_57 ?_
  refine cc_N 58 61 rfl (av := []) ca_X2_init rfl wm_40 wn_39 (by decide) (by omega) rfl rfl (Nat.le_of_ble_eq_true rfl) (by decide) (by decide) dX4_init_58 iX2_42 ?_
  refine cp_f 61 64 rfl ck4 10 (by decide) (by decide +kernel) rfl (by decide) (by decide +kernel) rfl rfl 43 (by decide +kernel) wm_90 rfl dX4_init_61 ?_
  refine qr_aload_n 64 65 rfl (x := 35) rfl dX4_init_64 ?_
  refine cn_o 65 68 rfl ck2 46 rfl 46 rfl (by decide +kernel) (by decide) (by decide) wm_37 wm_38 wm_3 dX4_init_65 cdf2 ?_
  refine qr_dup 68 69 rfl rfl dX4_init_68 ?_
  refine cc_N 69 72 rfl (av := []) ca_X2_init rfl wm_40 wn_39 (by decide) (by omega) rfl rfl (Nat.le_of_ble_eq_true rfl) (by decide) (by decide) dX4_init_69 iX2_46 ?_
  refine cp_f 72 75 rfl ck4 11 (by decide) (by decide +kernel) rfl (by decide) (by decide +kernel) rfl rfl 47 (by decide +kernel) wm_91 rfl dX4_init_72 ?_
  exact qr_return 75 rfl dX4_init_75 ⟨rfl, rfl⟩

theorem iX5_33 : q_Con yX5_init mX5_init 3 [qR 33] 33 (q_Mz 32) 49 (q_pz 50) := by
  refine q_start (by decide +kernel) rfl (fun _ => rfl) (ls := [some (qR 33)]) rfl (Nat.le_of_ble_eq_true rfl) (fun d hd => ?_)
  refine qr_aload_n 0 1 rfl (x := 33) rfl dX5_init_0 ?_
  refine qr_oinit 1 4 rfl (by decide) wm_123 wm_29 wm_30 (by omega) (Nat.le_of_ble_eq_true rfl) dX5_init_1 ?_
  refine qr_aload_n 4 5 rfl (x := 33) rfl dX5_init_4 ?_
  refine qr_iconst 5 6 rfl (q_l32 _ rfl) dX5_init_5 ?_
  refine cp_i 6 9 rfl ck5 1 (by decide) (by decide +kernel) rfl rfl 32 (by decide +kernel) wm_128 rfl dX5_init_6 ?_
  refine qr_aload_n 9 10 rfl (x := 33) rfl dX5_init_9 ?_
  refine qr_iconst 10 11 rfl (q_l32 _ rfl) dX5_init_10 ?_
  refine cn_a 11 13 rfl q_nw13 34 rfl 34 rfl (by decide +kernel) (by decide +kernel) (by decide) (by decide) (by decide) wx_byte dX5_init_11 ?_
  refine cp_r 13 16 rfl ck5 2 (by decide) (by decide +kernel) rfl (by decide +kernel) 33 (by decide +kernel) wm_130 rfl dX5_init_13 ?_
  refine qr_aload_n 16 17 rfl (x := 33) rfl dX5_init_16 ?_
  refine cn_o 17 20 rfl ck4 35 rfl 35 rfl (by decide +kernel) (by decide) (by decide) wm_124 wm_32 wm_2 dX5_init_17 cdf4 ?_
  refine qr_dup 20 21 rfl rfl dX5_init_20 ?_
  refine cc_N 21 24 rfl (av := []) ca_X4_init rfl wm_34 wn_125 (by decide) (by omega) rfl rfl (Nat.le_of_ble_eq_true rfl) (by decide) (by decide) dX5_init_21 iX4_35 ?_
  refine cp_r 24 27 rfl ck5 8 (by decide) (by decide +kernel) rfl (by decide +kernel) 48 (by decide +kernel) wm_136 rfl dX5_init_24 ?_
  refine qr_aload_n 27 28 rfl (x := 33) rfl dX5_init_27 ?_
  refine qr_aload_n 28 29 rfl (x := 33) rfl dX5_init_28 ?_
  refine cg_r 29 32 rfl ck5 8 (by decide) (by decide +kernel) (by decide +kernel) (v := 35) (by decide +kernel) wm_136 rfl dX5_init_29 ?_
  refine cg_r 32 35 rfl ck4 10 (by decide) (by decide +kernel) (by decide +kernel) (v := 42) (by decide +kernel) wm_89 rfl dX5_init_32 ?_
  refine cp_r 35 38 rfl ck5 9 (by decide) (by decide +kernel) rfl (by decide +kernel) 49 (by decide +kernel) wm_137 rfl dX5_init_35 ?_
  exact qr_return 38 rfl dX5_init_38 ⟨rfl, rfl⟩

theorem iX7_50 : q_Con yX7_init mX7_init 1 [qR 50] 50 (q_Mz 51) 52 (q_pz 53) := by
  refine q_start (by decide +kernel) rfl (fun _ => rfl) (ls := [some (qR 50)]) rfl (Nat.le_of_ble_eq_true rfl) (fun d hd => ?_)
  refine qr_aload_n 0 1 rfl (x := 50) rfl dX7_init_0 ?_
  refine qr_oinit 1 4 rfl (by decide) wm_164 wm_29 wm_30 (by omega) (Nat.le_of_ble_eq_true rfl) dX7_init_1 ?_
  refine qr_aload_n 4 5 rfl (x := 50) rfl dX7_init_4 ?_
  refine qr_bipush 5 7 rfl (q_l32 _ rfl) (by decide) dX7_init_5 ?_
  refine cn_a 7 9 rfl q_nw14 51 rfl 51 rfl (by decide +kernel) (by decide +kernel) (by decide) (by decide) (by decide) wx_int dX7_init_7 ?_
  refine cp_f 9 12 rfl ck7 2 (by decide) (by decide +kernel) rfl (by decide) (by decide +kernel) rfl rfl 51 (by decide +kernel) wm_171 rfl dX7_init_9 ?_
  refine qr_aload_n 12 13 rfl (x := 50) rfl dX7_init_12 ?_
  refine qr_sipush 13 16 rfl (q_l32 _ rfl) (by decide) dX7_init_13 ?_
  refine cn_a 16 18 rfl q_nw14 52 rfl 52 rfl (by decide +kernel) (by decide +kernel) (by decide) (by decide) (by decide) wx_int dX7_init_16 ?_
  refine cp_f 18 21 rfl ck7 3 (by decide) (by decide +kernel) rfl (by decide) (by decide +kernel) rfl rfl 52 (by decide +kernel) wm_174 rfl dX7_init_18 ?_
  exact qr_return 21 rfl dX7_init_21 ⟨rfl, rfl⟩

theorem iX7_53 : q_Con yX7_init mX7_init 1 [qR 53] 53 (q_Mz 54) 55 (q_pz 56) := by
  refine q_start (by decide +kernel) rfl (fun _ => rfl) (ls := [some (qR 53)]) rfl (Nat.le_of_ble_eq_true rfl) (fun d hd => ?_)
  refine qr_aload_n 0 1 rfl (x := 53) rfl dX7_init_0 ?_
  refine qr_oinit 1 4 rfl (by decide) wm_164 wm_29 wm_30 (by omega) (Nat.le_of_ble_eq_true rfl) dX7_init_1 ?_
  refine qr_aload_n 4 5 rfl (x := 53) rfl dX7_init_4 ?_
  refine qr_bipush 5 7 rfl (q_l32 _ rfl) (by decide) dX7_init_5 ?_
  refine cn_a 7 9 rfl q_nw14 54 rfl 54 rfl (by decide +kernel) (by decide +kernel) (by decide) (by decide) (by decide) wx_int dX7_init_7 ?_
  refine cp_f 9 12 rfl ck7 2 (by decide) (by decide +kernel) rfl (by decide) (by decide +kernel) rfl rfl 54 (by decide +kernel) wm_171 rfl dX7_init_9 ?_
  refine qr_aload_n 12 13 rfl (x := 53) rfl dX7_init_12 ?_
  refine qr_sipush 13 16 rfl (q_l32 _ rfl) (by decide) dX7_init_13 ?_
  refine cn_a 16 18 rfl q_nw14 55 rfl 55 rfl (by decide +kernel) (by decide +kernel) (by decide) (by decide) (by decide) wx_int dX7_init_16 ?_
  refine cp_f 18 21 rfl ck7 3 (by decide) (by decide +kernel) rfl (by decide) (by decide +kernel) rfl rfl 55 (by decide +kernel) wm_174 rfl dX7_init_18 ?_
  exact qr_return 21 rfl dX7_init_21 ⟨rfl, rfl⟩

theorem iX7_58 : q_Con yX7_init mX7_init 1 [qR 58] 58 (q_Mz 58) 60 (q_pz 60) := by
  refine q_start (by decide +kernel) rfl (fun _ => rfl) (ls := [some (qR 58)]) rfl (Nat.le_of_ble_eq_true rfl) (fun d hd => ?_)
  refine qr_aload_n 0 1 rfl (x := 58) rfl dX7_init_0 ?_
  refine qr_oinit 1 4 rfl (by decide) wm_164 wm_29 wm_30 (by omega) (Nat.le_of_ble_eq_true rfl) dX7_init_1 ?_
  refine qr_aload_n 4 5 rfl (x := 58) rfl dX7_init_4 ?_
  refine qr_bipush 5 7 rfl (q_l32 _ rfl) (by decide) dX7_init_5 ?_
  refine cn_a 7 9 rfl q_nw14 59 rfl 59 rfl (by decide +kernel) (by decide +kernel) (by decide) (by decide) (by decide) wx_int dX7_init_7 ?_
  refine cp_f 9 12 rfl ck7 2 (by decide) (by decide +kernel) rfl (by decide) (by decide +kernel) rfl rfl 58 (by decide +kernel) wm_171 rfl dX7_init_9 ?_
  refine qr_aload_n 12 13 rfl (x := 58) rfl dX7_init_12 ?_
  refine qr_sipush 13 16 rfl (q_l32 _ rfl) (by decide) dX7_init_13 ?_
  refine cn_a 16 18 rfl q_nw14 60 rfl 60 rfl (by decide +kernel) (by decide +kernel) (by decide) (by decide) (by decide) wx_int dX7_init_16 ?_
  refine cp_f 18 21 rfl ck7 3 (by decide) (by decide +kernel) rfl (by decide) (by decide +kernel) rfl rfl 59 (by decide +kernel) wm_174 rfl dX7_init_18 ?_
  exact qr_return 21 rfl dX7_init_21 ⟨rfl, rfl⟩

theorem iX7_61 : q_Con yX7_init mX7_init 1 [qR 61] 61 (q_Mz 61) 63 (q_pz 63) := by
  refine q_start (by decide +kernel) rfl (fun _ => rfl) (ls := [some (qR 61)]) rfl (Nat.le_of_ble_eq_true rfl) (fun d hd => ?_)
  refine qr_aload_n 0 1 rfl (x := 61) rfl dX7_init_0 ?_
  refine qr_oinit 1 4 rfl (by decide) wm_164 wm_29 wm_30 (by omega) (Nat.le_of_ble_eq_true rfl) dX7_init_1 ?_
  refine qr_aload_n 4 5 rfl (x := 61) rfl dX7_init_4 ?_
  refine qr_bipush 5 7 rfl (q_l32 _ rfl) (by decide) dX7_init_5 ?_
  refine cn_a 7 9 rfl q_nw14 62 rfl 62 rfl (by decide +kernel) (by decide +kernel) (by decide) (by decide) (by decide) wx_int dX7_init_7 ?_
  refine cp_f 9 12 rfl ck7 2 (by decide) (by decide +kernel) rfl (by decide) (by decide +kernel) rfl rfl 61 (by decide +kernel) wm_171 rfl dX7_init_9 ?_
  refine qr_aload_n 12 13 rfl (x := 61) rfl dX7_init_12 ?_
  refine qr_sipush 13 16 rfl (q_l32 _ rfl) (by decide) dX7_init_13 ?_
  refine cn_a 16 18 rfl q_nw14 63 rfl 63 rfl (by decide +kernel) (by decide +kernel) (by decide) (by decide) (by decide) wx_int dX7_init_16 ?_
  refine cp_f 18 21 rfl ck7 3 (by decide) (by decide +kernel) rfl (by decide) (by decide +kernel) rfl rfl 62 (by decide +kernel) wm_174 rfl dX7_init_18 ?_
  exact qr_return 21 rfl dX7_init_21 ⟨rfl, rfl⟩

theorem iX7_64 : q_Con yX7_init mX7_init 1 [qR 64] 64 (q_Mz 64) 66 (q_pz 66) := by
  refine q_start (by decide +kernel) rfl (fun _ => rfl) (ls := [some (qR 64)]) rfl (Nat.le_of_ble_eq_true rfl) (fun d hd => ?_)
  refine qr_aload_n 0 1 rfl (x := 64) rfl dX7_init_0 ?_
  refine qr_oinit 1 4 rfl (by decide) wm_164 wm_29 wm_30 (by omega) (Nat.le_of_ble_eq_true rfl) dX7_init_1 ?_
  refine qr_aload_n 4 5 rfl (x := 64) rfl dX7_init_4 ?_
  refine qr_bipush 5 7 rfl (q_l32 _ rfl) (by decide) dX7_init_5 ?_
  refine cn_a 7 9 rfl q_nw14 65 rfl 65 rfl (by decide +kernel) (by decide +kernel) (by decide) (by decide) (by decide) wx_int dX7_init_7 ?_
  refine cp_f 9 12 rfl ck7 2 (by decide) (by decide +kernel) rfl (by decide) (by decide +kernel) rfl rfl 64 (by decide +kernel) wm_171 rfl dX7_init_9 ?_
  refine qr_aload_n 12 13 rfl (x := 64) rfl dX7_init_12 ?_
  refine qr_sipush 13 16 rfl (q_l32 _ rfl) (by decide) dX7_init_13 ?_
  refine cn_a 16 18 rfl q_nw14 66 rfl 66 rfl (by decide +kernel) (by decide +kernel) (by decide) (by decide) (by decide) wx_int dX7_init_16 ?_
  refine cp_f 18 21 rfl ck7 3 (by decide) (by decide +kernel) rfl (by decide) (by decide +kernel) rfl rfl 65 (by decide +kernel) wm_174 rfl dX7_init_18 ?_
  exact qr_return 21 rfl dX7_init_21 ⟨rfl, rfl⟩

theorem iX7_67 : q_Con yX7_init mX7_init 1 [qR 67] 67 (q_Mz 67) 69 (q_pz 69) := by
  refine q_start (by decide +kernel) rfl (fun _ => rfl) (ls := [some (qR 67)]) rfl (Nat.le_of_ble_eq_true rfl) (fun d hd => ?_)
  refine qr_aload_n 0 1 rfl (x := 67) rfl dX7_init_0 ?_
  refine qr_oinit 1 4 rfl (by decide) wm_164 wm_29 wm_30 (by omega) (Nat.le_of_ble_eq_true rfl) dX7_init_1 ?_
  refine qr_aload_n 4 5 rfl (x := 67) rfl dX7_init_4 ?_
  refine qr_bipush 5 7 rfl (q_l32 _ rfl) (by decide) dX7_init_5 ?_
  refine cn_a 7 9 rfl q_nw14 68 rfl 68 rfl (by decide +kernel) (by decide +kernel) (by decide) (by decide) (by decide) wx_int dX7_init_7 ?_
  refine cp_f 9 12 rfl ck7 2 (by decide) (by decide +kernel) rfl (by decide) (by decide +kernel) rfl rfl 67 (by decide +kernel) wm_171 rfl dX7_init_9 ?_
  refine qr_aload_n 12 13 rfl (x := 67) rfl dX7_init_12 ?_
  refine qr_sipush 13 16 rfl (q_l32 _ rfl) (by decide) dX7_init_13 ?_
  refine cn_a 16 18 rfl q_nw14 69 rfl 69 rfl (by decide +kernel) (by decide +kernel) (by decide) (by decide) (by decide) wx_int dX7_init_16 ?_
  refine cp_f 18 21 rfl ck7 3 (by decide) (by decide +kernel) rfl (by decide) (by decide +kernel) rfl rfl 68 (by decide +kernel) wm_174 rfl dX7_init_18 ?_
  exact qr_return 21 rfl dX7_init_21 ⟨rfl, rfl⟩

theorem iX7_70 : q_Con yX7_init mX7_init 1 [qR 70] 70 (q_Mz 70) 72 (q_pz 72) := by
  refine q_start (by decide +kernel) rfl (fun _ => rfl) (ls := [some (qR 70)]) rfl (Nat.le_of_ble_eq_true rfl) (fun d hd => ?_)
  refine qr_aload_n 0 1 rfl (x := 70) rfl dX7_init_0 ?_
  refine qr_oinit 1 4 rfl (by decide) wm_164 wm_29 wm_30 (by omega) (Nat.le_of_ble_eq_true rfl) dX7_init_1 ?_
  refine qr_aload_n 4 5 rfl (x := 70) rfl dX7_init_4 ?_
  refine qr_bipush 5 7 rfl (q_l32 _ rfl) (by decide) dX7_init_5 ?_
  refine cn_a 7 9 rfl q_nw14 71 rfl 71 rfl (by decide +kernel) (by decide +kernel) (by decide) (by decide) (by decide) wx_int dX7_init_7 ?_
  refine cp_f 9 12 rfl ck7 2 (by decide) (by decide +kernel) rfl (by decide) (by decide +kernel) rfl rfl 70 (by decide +kernel) wm_171 rfl dX7_init_9 ?_
  refine qr_aload_n 12 13 rfl (x := 70) rfl dX7_init_12 ?_
  refine qr_sipush 13 16 rfl (q_l32 _ rfl) (by decide) dX7_init_13 ?_
  refine cn_a 16 18 rfl q_nw14 72 rfl 72 rfl (by decide +kernel) (by decide +kernel) (by decide) (by decide) (by decide) wx_int dX7_init_16 ?_
  refine cp_f 18 21 rfl ck7 3 (by decide) (by decide +kernel) rfl (by decide) (by decide +kernel) rfl rfl 71 (by decide +kernel) wm_174 rfl dX7_init_18 ?_
  exact qr_return 21 rfl dX7_init_21 ⟨rfl, rfl⟩

theorem iX7_73 : q_Con yX7_init mX7_init 1 [qR 73] 73 (q_Mz 73) 75 (q_pz 75) := by
  refine q_start (by decide +kernel) rfl (fun _ => rfl) (ls := [some (qR 73)]) rfl (Nat.le_of_ble_eq_true rfl) (fun d hd => ?_)
  refine qr_aload_n 0 1 rfl (x := 73) rfl dX7_init_0 ?_
  refine qr_oinit 1 4 rfl (by decide) wm_164 wm_29 wm_30 (by omega) (Nat.le_of_ble_eq_true rfl) dX7_init_1 ?_
  refine qr_aload_n 4 5 rfl (x := 73) rfl dX7_init_4 ?_
  refine qr_bipush 5 7 rfl (q_l32 _ rfl) (by decide) dX7_init_5 ?_
  refine cn_a 7 9 rfl q_nw14 74 rfl 74 rfl (by decide +kernel) (by decide +kernel) (by decide) (by decide) (by decide) wx_int dX7_init_7 ?_
  refine cp_f 9 12 rfl ck7 2 (by decide) (by decide +kernel) rfl (by decide) (by decide +kernel) rfl rfl 73 (by decide +kernel) wm_171 rfl dX7_init_9 ?_
  refine qr_aload_n 12 13 rfl (x := 73) rfl dX7_init_12 ?_
  refine qr_sipush 13 16 rfl (q_l32 _ rfl) (by decide) dX7_init_13 ?_
  refine cn_a 16 18 rfl q_nw14 75 rfl 75 rfl (by decide +kernel) (by decide +kernel) (by decide) (by decide) (by decide) wx_int dX7_init_16 ?_
  refine cp_f 18 21 rfl ck7 3 (by decide) (by decide +kernel) rfl (by decide) (by decide +kernel) rfl rfl 74 (by decide +kernel) wm_174 rfl dX7_init_18 ?_
  exact qr_return 21 rfl dX7_init_21 ⟨rfl, rfl⟩

theorem iX7_76 : q_Con yX7_init mX7_init 1 [qR 76] 76 (q_Mz 76) 78 (q_pz 78) := by
  refine q_start (by decide +kernel) rfl (fun _ => rfl) (ls := [some (qR 76)]) rfl (Nat.le_of_ble_eq_true rfl) (fun d hd => ?_)
  refine qr_aload_n 0 1 rfl (x := 76) rfl dX7_init_0 ?_
  refine qr_oinit 1 4 rfl (by decide) wm_164 wm_29 wm_30 (by omega) (Nat.le_of_ble_eq_true rfl) dX7_init_1 ?_
  refine qr_aload_n 4 5 rfl (x := 76) rfl dX7_init_4 ?_
  refine qr_bipush 5 7 rfl (q_l32 _ rfl) (by decide) dX7_init_5 ?_
  refine cn_a 7 9 rfl q_nw14 77 rfl 77 rfl (by decide +kernel) (by decide +kernel) (by decide) (by decide) (by decide) wx_int dX7_init_7 ?_
  refine cp_f 9 12 rfl ck7 2 (by decide) (by decide +kernel) rfl (by decide) (by decide +kernel) rfl rfl 76 (by decide +kernel) wm_171 rfl dX7_init_9 ?_
  refine qr_aload_n 12 13 rfl (x := 76) rfl dX7_init_12 ?_
  refine qr_sipush 13 16 rfl (q_l32 _ rfl) (by decide) dX7_init_13 ?_
  refine cn_a 16 18 rfl q_nw14 78 rfl 78 rfl (by decide +kernel) (by decide +kernel) (by decide) (by decide) (by decide) wx_int dX7_init_16 ?_
  refine cp_f 18 21 rfl ck7 3 (by decide) (by decide +kernel) rfl (by decide) (by decide +kernel) rfl rfl 77 (by decide +kernel) wm_174 rfl dX7_init_18 ?_
  exact qr_return 21 rfl dX7_init_21 ⟨rfl, rfl⟩

theorem iX7_79 : q_Con yX7_init mX7_init 1 [qR 79] 79 (q_Mz 79) 81 (q_pz 81) := by
  refine q_start (by decide +kernel) rfl (fun _ => rfl) (ls := [some (qR 79)]) rfl (Nat.le_of_ble_eq_true rfl) (fun d hd => ?_)
  refine qr_aload_n 0 1 rfl (x := 79) rfl dX7_init_0 ?_
  refine qr_oinit 1 4 rfl (by decide) wm_164 wm_29 wm_30 (by omega) (Nat.le_of_ble_eq_true rfl) dX7_init_1 ?_
  refine qr_aload_n 4 5 rfl (x := 79) rfl dX7_init_4 ?_
  refine qr_bipush 5 7 rfl (q_l32 _ rfl) (by decide) dX7_init_5 ?_
  refine cn_a 7 9 rfl q_nw14 80 rfl 80 rfl (by decide +kernel) (by decide +kernel) (by decide) (by decide) (by decide) wx_int dX7_init_7 ?_
  refine cp_f 9 12 rfl ck7 2 (by decide) (by decide +kernel) rfl (by decide) (by decide +kernel) rfl rfl 79 (by decide +kernel) wm_171 rfl dX7_init_9 ?_
  refine qr_aload_n 12 13 rfl (x := 79) rfl dX7_init_12 ?_
  refine qr_sipush 13 16 rfl (q_l32 _ rfl) (by decide) dX7_init_13 ?_
  refine cn_a 16 18 rfl q_nw14 81 rfl 81 rfl (by decide +kernel) (by decide +kernel) (by decide) (by decide) (by decide) wx_int dX7_init_16 ?_
  refine cp_f 18 21 rfl ck7 3 (by decide) (by decide +kernel) rfl (by decide) (by decide +kernel) rfl rfl 80 (by decide +kernel) wm_174 rfl dX7_init_18 ?_
  exact qr_return 21 rfl dX7_init_21 ⟨rfl, rfl⟩

theorem iX7_82 : q_Con yX7_init mX7_init 1 [qR 82] 82 (q_Mz 82) 84 (q_pz 84) := by
  refine q_start (by decide +kernel) rfl (fun _ => rfl) (ls := [some (qR 82)]) rfl (Nat.le_of_ble_eq_true rfl) (fun d hd => ?_)
  refine qr_aload_n 0 1 rfl (x := 82) rfl dX7_init_0 ?_
  refine qr_oinit 1 4 rfl (by decide) wm_164 wm_29 wm_30 (by omega) (Nat.le_of_ble_eq_true rfl) dX7_init_1 ?_
  refine qr_aload_n 4 5 rfl (x := 82) rfl dX7_init_4 ?_
  refine qr_bipush 5 7 rfl (q_l32 _ rfl) (by decide) dX7_init_5 ?_
  refine cn_a 7 9 rfl q_nw14 83 rfl 83 rfl (by decide +kernel) (by decide +kernel) (by decide) (by decide) (by decide) wx_int dX7_init_7 ?_
  refine cp_f 9 12 rfl ck7 2 (by decide) (by decide +kernel) rfl (by decide) (by decide +kernel) rfl rfl 82 (by decide +kernel) wm_171 rfl dX7_init_9 ?_
  refine qr_aload_n 12 13 rfl (x := 82) rfl dX7_init_12 ?_
  refine qr_sipush 13 16 rfl (q_l32 _ rfl) (by decide) dX7_init_13 ?_
  refine cn_a 16 18 rfl q_nw14 84 rfl 84 rfl (by decide +kernel) (by decide +kernel) (by decide) (by decide) (by decide) wx_int dX7_init_16 ?_
  refine cp_f 18 21 rfl ck7 3 (by decide) (by decide +kernel) rfl (by decide) (by decide +kernel) rfl rfl 83 (by decide +kernel) wm_174 rfl dX7_init_18 ?_
  exact qr_return 21 rfl dX7_init_21 ⟨rfl, rfl⟩

theorem iX7_85 : q_Con yX7_init mX7_init 1 [qR 85] 85 (q_Mz 85) 87 (q_pz 87) := by
  refine q_start (by decide +kernel) rfl (fun _ => rfl) (ls := [some (qR 85)]) rfl (Nat.le_of_ble_eq_true rfl) (fun d hd => ?_)
  refine qr_aload_n 0 1 rfl (x := 85) rfl dX7_init_0 ?_
  refine qr_oinit 1 4 rfl (by decide) wm_164 wm_29 wm_30 (by omega) (Nat.le_of_ble_eq_true rfl) dX7_init_1 ?_
  refine qr_aload_n 4 5 rfl (x := 85) rfl dX7_init_4 ?_
  refine qr_bipush 5 7 rfl (q_l32 _ rfl) (by decide) dX7_init_5 ?_
  refine cn_a 7 9 rfl q_nw14 86 rfl 86 rfl (by decide +kernel) (by decide +kernel) (by decide) (by decide) (by decide) wx_int dX7_init_7 ?_
  refine cp_f 9 12 rfl ck7 2 (by decide) (by decide +kernel) rfl (by decide) (by decide +kernel) rfl rfl 85 (by decide +kernel) wm_171 rfl dX7_init_9 ?_
  refine qr_aload_n 12 13 rfl (x := 85) rfl dX7_init_12 ?_
  refine qr_sipush 13 16 rfl (q_l32 _ rfl) (by decide) dX7_init_13 ?_
  refine cn_a 16 18 rfl q_nw14 87 rfl 87 rfl (by decide +kernel) (by decide +kernel) (by decide) (by decide) (by decide) wx_int dX7_init_16 ?_
  refine cp_f 18 21 rfl ck7 3 (by decide) (by decide +kernel) rfl (by decide) (by decide +kernel) rfl rfl 86 (by decide +kernel) wm_174 rfl dX7_init_18 ?_
  exact qr_return 21 rfl dX7_init_21 ⟨rfl, rfl⟩

theorem iX0_56 : q_Con yX0_init mX0_init 2 [qR 56] 56 (q_Mz 57) 87 (q_pz 88) := by
  refine q_start (by decide +kernel) rfl (fun _ => rfl) (ls := [some (qR 56), none]) rfl (Nat.le_of_ble_eq_true rfl) (fun d hd => ?_)
  refine qr_aload_n 0 1 rfl (x := 56) rfl dX0_init_0 ?_
  refine qr_oinit 1 4 rfl (by decide) wm_191 wm_29 wm_30 (by omega) (Nat.le_of_ble_eq_true rfl) dX0_init_1 ?_
  refine qr_aload_n 4 5 rfl (x := 56) rfl dX0_init_4 ?_
  refine qr_bipush 5 7 rfl (q_l32 _ rfl) (by decide) dX0_init_5 ?_
  refine cn_q 7 10 rfl (kd := 18) (i := 5) (by decide) (Or.inr (Or.inl ⟨rfl, rfl, rfl⟩)) 57 rfl 57 rfl (by decide +kernel) (by decide +kernel) (by decide) (by decide) (by decide) wm_192 dX0_init_7 ?_
  refine cp_f 10 13 rfl ck0 2 (by decide) (by decide +kernel) rfl (by decide) (by decide +kernel) rfl rfl 57 (by decide +kernel) wm_198 rfl dX0_init_10 ?_
  refine qr_iconst 13 14 rfl (q_l32 _ rfl) dX0_init_13 ?_
  refine qr_istore_n 14 15 rfl (by decide) rfl rfl dX0_init_14 ?_
  refine qr_iload_n 15 16 rfl (x := 0) rfl dX0_init_15 ?_
  refine qr_bipush 16 18 rfl (q_l32 _ rfl) (by decide) dX0_init_16 ?_
  refine qr_icmp_ge 18 21 40 rfl (by decide) dX0_init_18 (fun h => absurd h (by decide)) (fun _ => ?_)
  refine qr_aload_n 21 22 rfl (x := 56) rfl dX0_init_21 ?_
  refine cg_r 22 25 rfl ck0 2 (by decide) (by decide +kernel) (by decide +kernel) (v := 57) (by decide +kernel) wm_198 rfl dX0_init_22 ?_
  refine qr_iload_n 25 26 rfl (x := 0) rfl dX0_init_25 ?_
  refine cn_o 26 29 rfl ck7 58 rfl 58 rfl (by decide +kernel) (by decide) (by decide) wm_192 wm_160 wm_5 dX0_init_26 cdf7 ?_
  refine qr_dup 29 30 rfl rfl dX0_init_29 ?_
  refine cc_N 30 33 rfl (av := []) ca_X7_init rfl wm_162 wn_194 (by decide) (by omega) rfl rfl (Nat.le_of_ble_eq_true rfl) (by decide) (by decide) dX0_init_30 iX7_58 ?_
  refine ca_s 33 34 rfl ck7 (kd := 18) (t0 := 5) (by decide +kernel) (by decide) (fun _ => rfl) (by decide) (by decide +kernel) (by decide +kernel) (by decide) 60 (by decide +kernel) dX0_init_33 ?_
  refine ci_inc 34 37 rfl (by decide) (x := 0) (y := 1) rfl (by decide +kernel) rfl rfl dX0_init_34 ?_
  refine qr_goto 37 15 (by decide) dX0_init_37 ?_
  refine qr_iload_n 15 16 rfl (x := 1) rfl dX0_init_15 ?_
  refine qr_bipush 16 18 rfl (q_l32 _ rfl) (by decide) dX0_init_16 ?_
  refine qr_icmp_ge 18 21 40 rfl (by decide) dX0_init_18 (fun h => absurd h (by decide)) (fun _ => ?_)
  refine qr_aload_n 21 22 rfl (x := 56) rfl dX0_init_21 ?_
  refine cg_r 22 25 rfl ck0 2 (by decide) (by decide +kernel) (by decide +kernel) (v := 57) (by decide +kernel) wm_198 rfl dX0_init_22 ?_
  refine qr_iload_n 25 26 rfl (x := 1) rfl dX0_init_25 ?_
  refine cn_o 26 29 rfl ck7 61 rfl 61 rfl (by decide +kernel) (by decide) (by decide) wm_192 wm_160 wm_5 dX0_init_26 cdf7 ?_
  refine qr_dup 29 30 rfl rfl dX0_init_29 ?_
  refine cc_N 30 33 rfl (av := []) ca_X7_init rfl wm_162 wn_194 (by decide) (by omega) rfl rfl (Nat.le_of_ble_eq_true rfl) (by decide) (by decide) dX0_init_30 iX7_61 ?_
  refine ca_s 33 34 rfl ck7 (kd := 18) (t0 := 5) (by decide +kernel) (by decide) (fun _ => rfl) (by decide) (by decide +kernel) (by decide +kernel) (by decide) 63 (by decide +kernel) dX0_init_33 ?_
  refine ci_inc 34 37 rfl (by decide) (x := 1) (y := 2) rfl (by decide +kernel) rfl rfl dX0_init_34 ?_
  refine qr_goto 37 15 (by decide) dX0_init_37 ?_
  refine qr_iload_n 15 16 rfl (x := 2) rfl dX0_init_15 ?_
  refine qr_bipush 16 18 rfl (q_l32 _ rfl) (by decide) dX0_init_16 ?_
  refine qr_icmp_ge 18 21 40 rfl (by decide) dX0_init_18 (fun h => absurd h (by decide)) (fun _ => ?_)
  refine qr_aload_n 21 22 rfl (x := 56) rfl dX0_init_21 ?_
  refine cg_r 22 25 rfl ck0 2 (by decide) (by decide +kernel) (by decide +kernel) (v := 57) (by decide +kernel) wm_198 rfl dX0_init_22 ?_
  refine qr_iload_n 25 26 rfl (x := 2) rfl dX0_init_25 ?_
  refine cn_o 26 29 rfl ck7 64 rfl 64 rfl (by decide +kernel) (by decide) (by decide) wm_192 wm_160 wm_5 dX0_init_26 cdf7 ?_
  refine qr_dup 29 30 rfl rfl dX0_init_29 ?_
  refine cc_N 30 33 rfl (av := []) ca_X7_init rfl wm_162 wn_194 (by decide) (by omega) rfl rfl (Nat.le_of_ble_eq_true rfl) (by decide) (by decide) dX0_init_30 iX7_64 ?_
  refine ca_s 33 34 rfl ck7 (kd := 18) (t0 := 5) (by decide +kernel) (by decide) (fun _ => rfl) (by decide) (by decide +kernel) (by decide +kernel) (by decide) 66 (by decide +kernel) dX0_init_33 ?_
  refine ci_inc 34 37 rfl (by decide) (x := 2) (y := 3) rfl (by decide +kernel) rfl rfl dX0_init_34 ?_
  refine qr_goto 37 15 (by decide) dX0_init_37 ?_
  refine qr_iload_n 15 16 rfl (x := 3) rfl dX0_init_15 ?_
  refine qr_bipush 16 18 rfl (q_l32 _ rfl) (by decide) dX0_init_16 ?_
  refine qr_icmp_ge 18 21 40 rfl (by decide) dX0_init_18 (fun h => absurd h (by decide)) (fun _ => ?_)
  refine qr_aload_n 21 22 rfl (x := 56) rfl dX0_init_21 ?_
  refine cg_r 22 25 rfl ck0 2 (by decide) (by decide +kernel) (by decide +kernel) (v := 57) (by decide +kernel) wm_198 rfl dX0_init_22 ?_
  refine qr_iload_n 25 26 rfl (x := 3) rfl dX0_init_25 ?_
  refine cn_o 26 29 rfl ck7 67 rfl 67 rfl (by decide +kernel) (by decide) (by decide) wm_192 wm_160 wm_5 dX0_init_26 cdf7 ?_
  refine qr_dup 29 30 rfl rfl dX0_init_29 ?_
  refine cc_N 30 33 rfl (av := []) ca_X7_init rfl wm_162 wn_194 (by decide) (by omega) rfl rfl (Nat.le_of_ble_eq_true rfl) (by decide) (by decide) dX0_init_30 iX7_67 ?_
  refine ca_s 33 34 rfl ck7 (kd := 18) (t0 := 5) (by decide +kernel) (by decide) (fun _ => rfl) (by decide) (by decide +kernel) (by decide +kernel) (by decide) 69 (by decide +kernel) dX0_init_33 ?_
  refine ci_inc 34 37 rfl (by decide) (x := 3) (y := 4) rfl (by decide +kernel) rfl rfl dX0_init_34 ?_
  refine qr_goto 37 15 (by decide) dX0_init_37 ?_
  refine qr_iload_n 15 16 rfl (x := 4) rfl dX0_init_15 ?_
  refine qr_bipush 16 18 rfl (q_l32 _ rfl) (by decide) dX0_init_16 ?_
  refine qr_icmp_ge 18 21 40 rfl (by decide) dX0_init_18 (fun h => absurd h (by decide)) (fun _ => ?_)
  refine qr_aload_n 21 22 rfl (x := 56) rfl dX0_init_21 ?_
  refine cg_r 22 25 rfl ck0 2 (by decide) (by decide +kernel) (by decide +kernel) (v := 57) (by decide +kernel) wm_198 rfl dX0_init_22 ?_
  refine qr_iload_n 25 26 rfl (x := 4) rfl dX0_init_25 ?_
  refine cn_o 26 29 rfl ck7 70 rfl 70 rfl (by decide +kernel) (by decide) (by decide) wm_192 wm_160 wm_5 dX0_init_26 cdf7 ?_
  refine qr_dup 29 30 rfl rfl dX0_init_29 ?_
  refine cc_N 30 33 rfl (av := []) ca_X7_init rfl wm_162 wn_194 (by decide) (by omega) rfl rfl (Nat.le_of_ble_eq_true rfl) (by decide) (by decide) dX0_init_30 iX7_70 ?_
  refine ca_s 33 34 rfl ck7 (kd := 18) (t0 := 5) (by decide +kernel) (by decide) (fun _ => rfl) (by decide) (by decide +kernel) (by decide +kernel) (by decide) 72 (by decide +kernel) dX0_init_33 ?_
  refine ci_inc 34 37 rfl (by decide) (x := 4) (y := 5) rfl (by decide +kernel) rfl rfl dX0_init_34 ?_
  refine qr_goto 37 15 (by decide) dX0_init_37 ?_
  refine qr_iload_n 15 16 rfl (x := 5) rfl dX0_init_15 ?_
  refine qr_bipush 16 18 rfl (q_l32 _ rfl) (by decide) dX0_init_16 ?_
  refine qr_icmp_ge 18 21 40 rfl (by decide) dX0_init_18 (fun h => absurd h (by decide)) (fun _ => ?_)
  refine qr_aload_n 21 22 rfl (x := 56) rfl dX0_init_21 ?_
  refine cg_r 22 25 rfl ck0 2 (by decide) (by decide +kernel) (by decide +kernel) (v := 57) (by decide +kernel) wm_198 rfl dX0_init_22 ?_
  refine qr_iload_n 25 26 rfl (x := 5) rfl dX0_init_25 ?_
  refine cn_o 26 29 rfl ck7 73 rfl 73 rfl (by decide +kernel) (by decide) (by decide) wm_192 wm_160 wm_5 dX0_init_26 cdf7 ?_
  refine qr_dup 29 30 rfl rfl dX0_init_29 ?_
  refine cc_N 30 33 rfl (av := []) ca_X7_init rfl wm_162 wn_194 (by decide) (by omega) rfl rfl (Nat.le_of_ble_eq_true rfl) (by decide) (by decide) dX0_init_30 iX7_73 ?_
  refine ca_s 33 34 rfl ck7 (kd := 18) (t0 := 5) (by decide +kernel) (by decide) (fun _ => rfl) (by decide) (by decide +kernel) (by decide +kernel) (by decide) 75 (by decide +kernel) dX0_init_33 ?_
  refine ci_inc 34 37 rfl (by decide) (x := 5) (y := 6) rfl (by decide +kernel) rfl rfl dX0_init_34 ?_
  refine qr_goto 37 15 (by decide) dX0_init_37 ?_
  refine qr_iload_n 15 16 rfl (x := 6) rfl dX0_init_15 ?_
  refine qr_bipush 16 18 rfl (q_l32 _ rfl) (by decide) dX0_init_16 ?_
  refine qr_icmp_ge 18 21 40 rfl (by decide) dX0_init_18 (fun h => absurd h (by decide)) (fun _ => ?_)
  refine qr_aload_n 21 22 rfl (x := 56) rfl dX0_init_21 ?_
  refine cg_r 22 25 rfl ck0 2 (by decide) (by decide +kernel) (by decide +kernel) (v := 57) (by decide +kernel) wm_198 rfl dX0_init_22 ?_
  refine qr_iload_n 25 26 rfl (x := 6) rfl dX0_init_25 ?_
  refine cn_o 26 29 rfl ck7 76 rfl 76 rfl (by decide +kernel) (by decide) (by decide) wm_192 wm_160 wm_5 dX0_init_26 cdf7 ?_
  refine qr_dup 29 30 rfl rfl dX0_init_29 ?_
  refine cc_N 30 33 rfl (av := []) ca_X7_init rfl wm_162 wn_194 (by decide) (by omega) rfl rfl (Nat.le_of_ble_eq_true rfl) (by decide) (by decide) dX0_init_30 iX7_76 ?_
  refine ca_s 33 34 rfl ck7 (kd := 18) (t0 := 5) (by decide +kernel) (by decide) (fun _ => rfl) (by decide) (by decide +kernel) (by decide +kernel) (by decide) 78 (by decide +kernel) dX0_init_33 ?_
  refine ci_inc 34 37 rfl (by decide) (x := 6) (y := 7) rfl (by decide +kernel) rfl rfl dX0_init_34 ?_
  refine qr_goto 37 15 (by decide) dX0_init_37 ?_
  refine qr_iload_n 15 16 rfl (x := 7) rfl dX0_init_15 ?_
  refine qr_bipush 16 18 rfl (q_l32 _ rfl) (by decide) dX0_init_16 ?_
  refine qr_icmp_ge 18 21 40 rfl (by decide) dX0_init_18 (fun h => absurd h (by decide)) (fun _ => ?_)
  refine qr_aload_n 21 22 rfl (x := 56) rfl dX0_init_21 ?_
  refine cg_r 22 25 rfl ck0 2 (by decide) (by decide +kernel) (by decide +kernel) (v := 57) (by decide +kernel) wm_198 rfl dX0_init_22 ?_
  refine qr_iload_n 25 26 rfl (x := 7) rfl dX0_init_25 ?_
  refine cn_o 26 29 rfl ck7 79 rfl 79 rfl (by decide +kernel) (by decide) (by decide) wm_192 wm_160 wm_5 dX0_init_26 cdf7 ?_
  refine qr_dup 29 30 rfl rfl dX0_init_29 ?_
  refine cc_N 30 33 rfl (av := []) ca_X7_init rfl wm_162 wn_194 (by decide) (by omega) rfl rfl (Nat.le_of_ble_eq_true rfl) (by decide) (by decide) dX0_init_30 iX7_79 ?_
  refine ca_s 33 34 rfl ck7 (kd := 18) (t0 := 5) (by decide +kernel) (by decide) (fun _ => rfl) (by decide) (by decide +kernel) (by decide +kernel) (by decide) 81 (by decide +kernel) dX0_init_33 ?_
  refine ci_inc 34 37 rfl (by decide) (x := 7) (y := 8) rfl (by decide +kernel) rfl rfl dX0_init_34 ?_
  refine qr_goto 37 15 (by decide) dX0_init_37 ?_
  refine qr_iload_n 15 16 rfl (x := 8) rfl dX0_init_15 ?_
  refine qr_bipush 16 18 rfl (q_l32 _ rfl) (by decide) dX0_init_16 ?_
  refine qr_icmp_ge 18 21 40 rfl (by decide) dX0_init_18 (fun h => absurd h (by decide)) (fun _ => ?_)
  refine qr_aload_n 21 22 rfl (x := 56) rfl dX0_init_21 ?_
  refine cg_r 22 25 rfl ck0 2 (by decide) (by decide +kernel) (by decide +kernel) (v := 57) (by decide +kernel) wm_198 rfl dX0_init_22 ?_
  refine qr_iload_n 25 26 rfl (x := 8) rfl dX0_init_25 ?_
  refine cn_o 26 29 rfl ck7 82 rfl 82 rfl (by decide +kernel) (by decide) (by decide) wm_192 wm_160 wm_5 dX0_init_26 cdf7 ?_
  refine qr_dup 29 30 rfl rfl dX0_init_29 ?_
  refine cc_N 30 33 rfl (av := []) ca_X7_init rfl wm_162 wn_194 (by decide) (by omega) rfl rfl (Nat.le_of_ble_eq_true rfl) (by decide) (by decide) dX0_init_30 iX7_82 ?_
  refine ca_s 33 34 rfl ck7 (kd := 18) (t0 := 5) (by decide +kernel) (by decide) (fun _ => rfl) (by decide) (by decide +kernel) (by decide +kernel) (by decide) 84 (by decide +kernel) dX0_init_33 ?_
  refine ci_inc 34 37 rfl (by decide) (x := 8) (y := 9) rfl (by decide +kernel) rfl rfl dX0_init_34 ?_
  refine qr_goto 37 15 (by decide) dX0_init_37 ?_
  refine qr_iload_n 15 16 rfl (x := 9) rfl dX0_init_15 ?_
  refine qr_bipush 16 18 rfl (q_l32 _ rfl) (by decide) dX0_init_16 ?_
  refine qr_icmp_ge 18 21 40 rfl (by decide) dX0_init_18 (fun h => absurd h (by decide)) (fun _ => ?_)
  refine qr_aload_n 21 22 rfl (x := 56) rfl dX0_init_21 ?_
  refine cg_r 22 25 rfl ck0 2 (by decide) (by decide +kernel) (by decide +kernel) (v := 57) (by decide +kernel) wm_198 rfl dX0_init_22 ?_
  refine qr_iload_n 25 26 rfl (x := 9) rfl dX0_init_25 ?_
  refine cn_o 26 29 rfl ck7 85 rfl 85 rfl (by decide +kernel) (by decide) (by decide) wm_192 wm_160 wm_5 dX0_init_26 cdf7 ?_
  refine qr_dup 29 30 rfl rfl dX0_init_29 ?_
  refine cc_N 30 33 rfl (av := []) ca_X7_init rfl wm_162 wn_194 (by decide) (by omega) rfl rfl (Nat.le_of_ble_eq_true rfl) (by decide) (by decide) dX0_init_30 iX7_85 ?_
  refine ca_s 33 34 rfl ck7 (kd := 18) (t0 := 5) (by decide +kernel) (by decide) (fun _ => rfl) (by decide) (by decide +kernel) (by decide +kernel) (by decide) 87 (by decide +kernel) dX0_init_33 ?_
  refine ci_inc 34 37 rfl (by decide) (x := 9) (y := 10) rfl (by decide +kernel) rfl rfl dX0_init_34 ?_
  refine qr_goto 37 15 (by decide) dX0_init_37 ?_
  refine qr_iload_n 15 16 rfl (x := 10) rfl dX0_init_15 ?_
  refine qr_bipush 16 18 rfl (q_l32 _ rfl) (by decide) dX0_init_16 ?_
  refine qr_icmp_ge 18 21 40 rfl (by decide) dX0_init_18 (fun _ => ?_) (fun h => absurd (by decide) h)
  exact qr_return 40 rfl dX0_init_40 ⟨rfl, rfl⟩

theorem iX6_91 : q_Con yX6_init mX6_init 1 [qR 91] 91 (q_Mz 92) 97 (q_pz 98) := by
  refine q_start (by decide +kernel) rfl (fun _ => rfl) (ls := [some (qR 91)]) rfl (Nat.le_of_ble_eq_true rfl) (fun d hd => ?_)
  refine qr_aload_n 0 1 rfl (x := 91) rfl dX6_init_0 ?_
  refine qr_oinit 1 4 rfl (by decide) wm_215 wm_29 wm_30 (by omega) (Nat.le_of_ble_eq_true rfl) dX6_init_1 ?_
  refine qr_aload_n 4 5 rfl (x := 91) rfl dX6_init_4 ?_
  refine qr_bipush 5 7 rfl (q_l32 _ rfl) (by decide) dX6_init_5 ?_
  refine cn_a 7 9 rfl q_nw14 92 rfl 92 rfl (by decide +kernel) (by decide +kernel) (by decide) (by decide) (by decide) wx_int dX6_init_7 ?_
  refine cp_f 9 12 rfl ck6 3 (by decide) (by decide +kernel) rfl (by decide) (by decide +kernel) rfl rfl 92 (by decide +kernel) wm_223 rfl dX6_init_9 ?_
  refine qr_aload_n 12 13 rfl (x := 91) rfl dX6_init_12 ?_
  refine qr_bipush 13 15 rfl (q_l32 _ rfl) (by decide) dX6_init_13 ?_
  refine cn_a 15 17 rfl q_nw14 93 rfl 93 rfl (by decide +kernel) (by decide +kernel) (by decide) (by decide) (by decide) wx_int dX6_init_15 ?_
  refine cp_f 17 20 rfl ck6 4 (by decide) (by decide +kernel) rfl (by decide) (by decide +kernel) rfl rfl 93 (by decide +kernel) wm_225 rfl dX6_init_17 ?_
  refine qr_aload_n 20 21 rfl (x := 91) rfl dX6_init_20 ?_
  refine qr_bipush 21 23 rfl (q_l32 _ rfl) (by decide) dX6_init_21 ?_
  refine cn_a 23 25 rfl q_nw14 94 rfl 94 rfl (by decide +kernel) (by decide +kernel) (by decide) (by decide) (by decide) wx_int dX6_init_23 ?_
  refine cp_f 25 28 rfl ck6 5 (by decide) (by decide +kernel) rfl (by decide) (by decide +kernel) rfl rfl 94 (by decide +kernel) wm_228 rfl dX6_init_25 ?_
  refine qr_aload_n 28 29 rfl (x := 91) rfl dX6_init_28 ?_
  refine qr_bipush 29 31 rfl (q_l32 _ rfl) (by decide) dX6_init_29 ?_
  refine cn_a 31 33 rfl q_nw14 95 rfl 95 rfl (by decide +kernel) (by decide +kernel) (by decide) (by decide) (by decide) wx_int dX6_init_31 ?_
  refine cp_f 33 36 rfl ck6 6 (by decide) (by decide +kernel) rfl (by decide) (by decide +kernel) rfl rfl 95 (by decide +kernel) wm_230 rfl dX6_init_33 ?_
  refine qr_aload_n 36 37 rfl (x := 91) rfl dX6_init_36 ?_
  refine qr_bipush 37 39 rfl (q_l32 _ rfl) (by decide) dX6_init_37 ?_
  refine cn_a 39 41 rfl q_nw14 96 rfl 96 rfl (by decide +kernel) (by decide +kernel) (by decide) (by decide) (by decide) wx_int dX6_init_39 ?_
  refine cp_f 41 44 rfl ck6 7 (by decide) (by decide +kernel) rfl (by decide) (by decide +kernel) rfl rfl 96 (by decide +kernel) wm_232 rfl dX6_init_41 ?_
  refine qr_aload_n 44 45 rfl (x := 91) rfl dX6_init_44 ?_
  refine qr_bipush 45 47 rfl (q_l32 _ rfl) (by decide) dX6_init_45 ?_
  refine cn_a 47 49 rfl q_nw14 97 rfl 97 rfl (by decide +kernel) (by decide +kernel) (by decide) (by decide) (by decide) wx_int dX6_init_47 ?_
  refine cp_f 49 52 rfl ck6 8 (by decide) (by decide +kernel) rfl (by decide) (by decide +kernel) rfl rfl 97 (by decide +kernel) wm_234 rfl dX6_init_49 ?_
  exact qr_return 52 rfl dX6_init_52 ⟨rfl, rfl⟩

theorem iX10_98 : q_Con yX10_init mX10_init 1 [qR 98] 98 (q_Mz 99) 116 (q_pz 117) := by
  refine q_start (by decide +kernel) rfl (fun _ => rfl) (ls := [some (qR 98)]) rfl (Nat.le_of_ble_eq_true rfl) (fun d hd => ?_)
  refine qr_aload_n 0 1 rfl (x := 98) rfl dX10_init_0 ?_
  refine qr_oinit 1 4 rfl (by decide) wm_259 wm_29 wm_30 (by omega) (Nat.le_of_ble_eq_true rfl) dX10_init_1 ?_
  refine qr_aload_n 4 5 rfl (x := 98) rfl dX10_init_4 ?_
  refine qr_bipush 5 7 rfl (q_l32 _ rfl) (by decide) dX10_init_5 ?_
  refine qr_bipush 7 9 rfl (q_l32 _ rfl) (by decide) dX10_init_7 ?_
  refine cn_m 9 13 rfl (N := 16) (K := 16) 115 rfl 99 rfl 99 115 rfl (by decide +kernel) (by decide +kernel) (by decide +kernel) (by decide +kernel) (by decide +kernel) (by decide +kernel) (by decide) (by decide) (by decide +kernel) (by decide) (by decide) wx_over wx_int wm_260 dX10_init_9 ?_
  refine cp_f 13 16 rfl ck10 0 (by decide) (by decide +kernel) rfl (by decide) (by decide +kernel) rfl rfl 115 (by decide +kernel) wm_262 rfl dX10_init_13 ?_
  refine qr_aload_n 16 17 rfl (x := 98) rfl dX10_init_16 ?_
  refine qr_bipush 17 19 rfl (q_l32 _ rfl) (by decide) dX10_init_17 ?_
  refine cn_a 19 21 rfl q_nw14 116 rfl 116 rfl (by decide +kernel) (by decide +kernel) (by decide) (by decide) (by decide) wx_int dX10_init_19 ?_
  refine cp_f 21 24 rfl ck10 1 (by decide) (by decide +kernel) rfl (by decide) (by decide +kernel) rfl rfl 116 (by decide +kernel) wm_264 rfl dX10_init_21 ?_
  exact qr_return 24 rfl dX10_init_24 ⟨rfl, rfl⟩

theorem iX8_117 : q_Con yX8_init mX8_init 1 [qR 117] 117 (q_Mz 118) 122 (q_pz 123) := by
  refine q_start (by decide +kernel) rfl (fun _ => rfl) (ls := [some (qR 117)]) rfl (Nat.le_of_ble_eq_true rfl) (fun d hd => ?_)
  refine qr_aload_n 0 1 rfl (x := 117) rfl dX8_init_0 ?_
  refine qr_oinit 1 4 rfl (by decide) wm_278 wm_29 wm_30 (by omega) (Nat.le_of_ble_eq_true rfl) dX8_init_1 ?_
  refine qr_aload_n 4 5 rfl (x := 117) rfl dX8_init_4 ?_
  refine qr_sipush 5 8 rfl (q_l32 _ rfl) (by decide) dX8_init_5 ?_
  refine cn_a 8 10 rfl q_nw14 118 rfl 118 rfl (by decide +kernel) (by decide +kernel) (by decide) (by decide) (by decide) wx_int dX8_init_8 ?_
  refine cp_f 10 13 rfl ck8 4 (by decide) (by decide +kernel) rfl (by decide) (by decide +kernel) rfl rfl 118 (by decide +kernel) wm_285 rfl dX8_init_10 ?_
  refine qr_aload_n 13 14 rfl (x := 117) rfl dX8_init_13 ?_
  refine qr_sipush 14 17 rfl (q_l32 _ rfl) (by decide) dX8_init_14 ?_
  refine cn_a 17 19 rfl q_nw14 119 rfl 119 rfl (by decide +kernel) (by decide +kernel) (by decide) (by decide) (by decide) wx_int dX8_init_17 ?_
  refine cp_f 19 22 rfl ck8 5 (by decide) (by decide +kernel) rfl (by decide) (by decide +kernel) rfl rfl 119 (by decide +kernel) wm_286 rfl dX8_init_19 ?_
  refine qr_aload_n 22 23 rfl (x := 117) rfl dX8_init_22 ?_
  refine qr_sipush 23 26 rfl (q_l32 _ rfl) (by decide) dX8_init_23 ?_
  refine cn_a 26 28 rfl q_nw14 120 rfl 120 rfl (by decide +kernel) (by decide +kernel) (by decide) (by decide) (by decide) wx_int dX8_init_26 ?_
  refine cp_f 28 31 rfl ck8 6 (by decide) (by decide +kernel) rfl (by decide) (by decide +kernel) rfl rfl 120 (by decide +kernel) wm_287 rfl dX8_init_28 ?_
  refine qr_aload_n 31 32 rfl (x := 117) rfl dX8_init_31 ?_
  refine qr_sipush 32 35 rfl (q_l32 _ rfl) (by decide) dX8_init_32 ?_
  refine cn_a 35 37 rfl q_nw14 121 rfl 121 rfl (by decide +kernel) (by decide +kernel) (by decide) (by decide) (by decide) wx_int dX8_init_35 ?_
  refine cp_f 37 40 rfl ck8 7 (by decide) (by decide +kernel) rfl (by decide) (by decide +kernel) rfl rfl 121 (by decide +kernel) wm_288 rfl dX8_init_37 ?_
  refine qr_aload_n 40 41 rfl (x := 117) rfl dX8_init_40 ?_
  refine qr_sipush 41 44 rfl (q_l32 _ rfl) (by decide) dX8_init_41 ?_
  refine cn_a 44 46 rfl q_nw14 122 rfl 122 rfl (by decide +kernel) (by decide +kernel) (by decide) (by decide) (by decide) wx_int dX8_init_44 ?_
  refine cp_f 46 49 rfl ck8 8 (by decide) (by decide +kernel) rfl (by decide) (by decide +kernel) rfl rfl 122 (by decide +kernel) wm_289 rfl dX8_init_46 ?_
  exact qr_return 49 rfl dX8_init_49 ⟨rfl, rfl⟩

theorem iX2_131 : q_Con yX2_init mX2_init 1 [qR 131] 131 (q_Mz 130) 134 (q_pz 133) := by
  refine q_start (by decide +kernel) rfl (fun _ => rfl) (ls := [some (qR 131)]) rfl (Nat.le_of_ble_eq_true rfl) (fun d hd => ?_)
  refine qr_aload_n 0 1 rfl (x := 131) rfl dX2_init_0 ?_
  refine qr_oinit 1 4 rfl (by decide) wm_42 wm_29 wm_30 (by omega) (Nat.le_of_ble_eq_true rfl) dX2_init_1 ?_
  refine qr_aload_n 4 5 rfl (x := 131) rfl dX2_init_4 ?_
  refine qr_sipush 5 8 rfl (q_l32 _ rfl) (by decide) dX2_init_5 ?_
  refine cn_a 8 10 rfl q_nw14 132 rfl 132 rfl (by decide +kernel) (by decide +kernel) (by decide) (by decide) (by decide) wx_int dX2_init_8 ?_
  refine cp_f 10 13 rfl ck2 1 (by decide) (by decide +kernel) rfl (by decide) (by decide +kernel) rfl rfl 130 (by decide +kernel) wm_45 rfl dX2_init_10 ?_
  refine qr_aload_n 13 14 rfl (x := 131) rfl dX2_init_13 ?_
  refine qr_bipush 14 16 rfl (q_l32 _ rfl) (by decide) dX2_init_14 ?_
  refine cn_a 16 18 rfl q_nw14 133 rfl 133 rfl (by decide +kernel) (by decide +kernel) (by decide) (by decide) (by decide) wx_int dX2_init_16 ?_
  refine cp_f 18 21 rfl ck2 2 (by decide) (by decide +kernel) rfl (by decide) (by decide +kernel) rfl rfl 131 (by decide +kernel) wm_46 rfl dX2_init_18 ?_
  refine qr_aload_n 21 22 rfl (x := 131) rfl dX2_init_21 ?_
  refine qr_iconst 22 23 rfl (q_l32 _ rfl) dX2_init_22 ?_
  refine cn_a 23 25 rfl q_nw14 134 rfl 134 rfl (by decide +kernel) (by decide +kernel) (by decide) (by decide) (by decide) wx_int dX2_init_23 ?_
  refine cp_f 25 28 rfl ck2 3 (by decide) (by decide +kernel) rfl (by decide) (by decide +kernel) rfl rfl 132 (by decide +kernel) wm_47 rfl dX2_init_25 ?_
  exact qr_return 28 rfl dX2_init_28 ⟨rfl, rfl⟩

theorem iX2_135 : q_Con yX2_init mX2_init 1 [qR 135] 135 (q_Mz 134) 138 (q_pz 137) := by
  refine q_start (by decide +kernel) rfl (fun _ => rfl) (ls := [some (qR 135)]) rfl (Nat.le_of_ble_eq_true rfl) (fun d hd => ?_)
  refine qr_aload_n 0 1 rfl (x := 135) rfl dX2_init_0 ?_
  refine qr_oinit 1 4 rfl (by decide) wm_42 wm_29 wm_30 (by omega) (Nat.le_of_ble_eq_true rfl) dX2_init_1 ?_
  refine qr_aload_n 4 5 rfl (x := 135) rfl dX2_init_4 ?_
  refine qr_sipush 5 8 rfl (q_l32 _ rfl) (by decide) dX2_init_5 ?_
  refine cn_a 8 10 rfl q_nw14 136 rfl 136 rfl (by decide +kernel) (by decide +kernel) (by decide) (by decide) (by decide) wx_int dX2_init_8 ?_
  refine cp_f 10 13 rfl ck2 1 (by decide) (by decide +kernel) rfl (by decide) (by decide +kernel) rfl rfl 134 (by decide +kernel) wm_45 rfl dX2_init_10 ?_
  refine qr_aload_n 13 14 rfl (x := 135) rfl dX2_init_13 ?_
  refine qr_bipush 14 16 rfl (q_l32 _ rfl) (by decide) dX2_init_14 ?_
  refine cn_a 16 18 rfl q_nw14 137 rfl 137 rfl (by decide +kernel) (by decide +kernel) (by decide) (by decide) (by decide) wx_int dX2_init_16 ?_
  refine cp_f 18 21 rfl ck2 2 (by decide) (by decide +kernel) rfl (by decide) (by decide +kernel) rfl rfl 135 (by decide +kernel) wm_46 rfl dX2_init_18 ?_
  refine qr_aload_n 21 22 rfl (x := 135) rfl dX2_init_21 ?_
  refine qr_iconst 22 23 rfl (q_l32 _ rfl) dX2_init_22 ?_
  refine cn_a 23 25 rfl q_nw14 138 rfl 138 rfl (by decide +kernel) (by decide +kernel) (by decide) (by decide) (by decide) wx_int dX2_init_23 ?_
  refine cp_f 25 28 rfl ck2 3 (by decide) (by decide +kernel) rfl (by decide) (by decide +kernel) rfl rfl 136 (by decide +kernel) wm_47 rfl dX2_init_25 ?_
  exact qr_return 28 rfl dX2_init_28 ⟨rfl, rfl⟩

theorem iX4_124 : q_Con yX4_init mX4_init 2 [qR 124] 124 (q_Mz 124) 138 (q_pz 138) := by
  refine q_start (by decide +kernel) rfl (fun _ => rfl) (ls := [some (qR 124)]) rfl (Nat.le_of_ble_eq_true rfl) (fun d hd => ?_)
  refine qr_aload_n 0 1 rfl (x := 124) rfl dX4_init_0 ?_
  refine qr_oinit 1 4 rfl (by decide) wm_36 wm_29 wm_30 (by omega) (Nat.le_of_ble_eq_true rfl) dX4_init_1 ?_
  refine qr_aload_n 4 5 rfl (x := 124) rfl dX4_init_4 ?_
  refine qr_bipush 5 7 rfl (q_l32 _ rfl) (by decide) dX4_init_5 ?_
  refine cn_a 7 9 rfl q_nw14 125 rfl 125 rfl (by decide +kernel) (by decide +kernel) (by decide) (by decide) (by decide) wx_int dX4_init_7 ?_
  refine cp_f 9 12 rfl ck4 4 (by decide) (by decide +kernel) rfl (by decide) (by decide +kernel) rfl rfl 124 (by decide +kernel) wm_74 rfl dX4_init_9 ?_
  refine qr_aload_n 12 13 rfl (x := 124) rfl dX4_init_12 ?_
  refine qr_bipush 13 15 rfl (q_l32 _ rfl) (by decide) dX4_init_13 ?_
  refine cn_a 15 17 rfl q_nw14 126 rfl 126 rfl (by decide +kernel) (by decide +kernel) (by decide) (by decide) (by decide) wx_int dX4_init_15 ?_
  refine cp_f 17 20 rfl ck4 5 (by decide) (by decide +kernel) rfl (by decide) (by decide +kernel) rfl rfl 125 (by decide +kernel) wm_78 rfl dX4_init_17 ?_
  refine qr_aload_n 20 21 rfl (x := 124) rfl dX4_init_20 ?_
  refine qr_bipush 21 23 rfl (q_l32 _ rfl) (by decide) dX4_init_21 ?_
  refine cn_a 23 25 rfl q_nw14 127 rfl 127 rfl (by decide +kernel) (by decide +kernel) (by decide) (by decide) (by decide) wx_int dX4_init_23 ?_
  refine cp_f 25 28 rfl ck4 6 (by decide) (by decide +kernel) rfl (by decide) (by decide +kernel) rfl rfl 126 (by decide +kernel) wm_82 rfl dX4_init_25 ?_
  refine qr_aload_n 28 29 rfl (x := 124) rfl dX4_init_28 ?_
  refine qr_bipush 29 31 rfl (q_l32 _ rfl) (by decide) dX4_init_29 ?_
  refine cn_a 31 33 rfl q_nw14 128 rfl 128 rfl (by decide +kernel) (by decide +kernel) (by decide) (by decide) (by decide) wx_int dX4_init_31 ?_
  refine cp_f 33 36 rfl ck4 7 (by decide) (by decide +kernel) rfl (by decide) (by decide +kernel) rfl rfl 127 (by decide +kernel) wm_83 rfl dX4_init_33 ?_
  refine qr_aload_n 36 37 rfl (x := 124) rfl dX4_init_36 ?_
  refine qr_sipush 37 40 rfl (q_l32 _ rfl) (by decide) dX4_init_37 ?_
  refine cn_a 40 42 rfl q_nw14 129 rfl 129 rfl (by decide +kernel) (by decide +kernel) (by decide) (by decide) (by decide) wx_int dX4_init_40 ?_
  refine cp_f 42 45 rfl ck4 8 (by decide) (by decide +kernel) rfl (by decide) (by decide +kernel) rfl rfl 128 (by decide +kernel) wm_86 rfl dX4_init_42 ?_
  refine qr_aload_n 45 46 rfl (x := 124) rfl dX4_init_45 ?_
  refine qr_bipush 46 48 rfl (q_l32 _ rfl) (by decide) dX4_init_46 ?_
  refine cn_a 48 50 rfl q_nw14 130 rfl 130 rfl (by decide +kernel) (by decide +kernel) (by decide) (by decide) (by decide) wx_int dX4_init_48 ?_
  refine cp_f 50 53 rfl ck4 9 (by decide) (by decide +kernel) rfl (by decide) (by decide +kernel) rfl rfl 129 (by decide +kernel) wm_87 rfl dX4_init_50 ?_
  refine qr_aload_n 53 54 rfl (x := 124) rfl dX4_init_53 ?_
  refine cn_o 54 57 rfl ck2 131 rfl 131 rfl (by decide +kernel) (by decide) (by decide) wm_37 wm_38 wm_3 dX4_init_54 cdf2 ?_
  refine qr_dup 57 58 rfl rfl dX4_init_57 ?_
  refine cc_N 58 61 rfl (av := []) ca_X2_init rfl wm_40 wn_39 (by decide) (by omega) rfl rfl (Nat.le_of_ble_eq_true rfl) (by decide) (by decide) dX4_init_58 iX2_131 ?_
  refine cp_f 61 64 rfl ck4 10 (by decide) (by decide +kernel) rfl (by decide) (by decide +kernel) rfl rfl 133 (by decide +kernel) wm_90 rfl dX4_init_61 ?_
  refine qr_aload_n 64 65 rfl (x := 124) rfl dX4_init_64 ?_
  refine cn_o 65 68 rfl ck2 135 rfl 135 rfl (by decide +kernel) (by decide) (by decide) wm_37 wm_38 wm_3 dX4_init_65 cdf2 ?_
  refine qr_dup 68 69 rfl rfl dX4_init_68 ?_
  refine cc_N 69 72 rfl (av := []) ca_X2_init rfl wm_40 wn_39 (by decide) (by omega) rfl rfl (Nat.le_of_ble_eq_true rfl) (by decide) (by decide) dX4_init_69 iX2_135 ?_
  refine cp_f 72 75 rfl ck4 11 (by decide) (by decide +kernel) rfl (by decide) (by decide +kernel) rfl rfl 137 (by decide +kernel) wm_91 rfl dX4_init_72 ?_
  exact qr_return 75 rfl dX4_init_75 ⟨rfl, rfl⟩

theorem iX7_139 : q_Con yX7_init mX7_init 1 [qR 139] 139 (q_Mz 139) 141 (q_pz 141) := by
  refine q_start (by decide +kernel) rfl (fun _ => rfl) (ls := [some (qR 139)]) rfl (Nat.le_of_ble_eq_true rfl) (fun d hd => ?_)
  refine qr_aload_n 0 1 rfl (x := 139) rfl dX7_init_0 ?_
  refine qr_oinit 1 4 rfl (by decide) wm_164 wm_29 wm_30 (by omega) (Nat.le_of_ble_eq_true rfl) dX7_init_1 ?_
  refine qr_aload_n 4 5 rfl (x := 139) rfl dX7_init_4 ?_
  refine qr_bipush 5 7 rfl (q_l32 _ rfl) (by decide) dX7_init_5 ?_
  refine cn_a 7 9 rfl q_nw14 140 rfl 140 rfl (by decide +kernel) (by decide +kernel) (by decide) (by decide) (by decide) wx_int dX7_init_7 ?_
  refine cp_f 9 12 rfl ck7 2 (by decide) (by decide +kernel) rfl (by decide) (by decide +kernel) rfl rfl 139 (by decide +kernel) wm_171 rfl dX7_init_9 ?_
  refine qr_aload_n 12 13 rfl (x := 139) rfl dX7_init_12 ?_
  refine qr_sipush 13 16 rfl (q_l32 _ rfl) (by decide) dX7_init_13 ?_
  refine cn_a 16 18 rfl q_nw14 141 rfl 141 rfl (by decide +kernel) (by decide +kernel) (by decide) (by decide) (by decide) wx_int dX7_init_16 ?_
  refine cp_f 18 21 rfl ck7 3 (by decide) (by decide +kernel) rfl (by decide) (by decide +kernel) rfl rfl 140 (by decide +kernel) wm_174 rfl dX7_init_18 ?_
  exact qr_return 21 rfl dX7_init_21 ⟨rfl, rfl⟩

theorem iX1_123 : q_Con yX1_init mX1_init 3 [qR 123] 123 (q_Mz 124) 141 (q_pz 142) := by
  refine q_start (by decide +kernel) rfl (fun _ => rfl) (ls := [some (qR 123)]) rfl (Nat.le_of_ble_eq_true rfl) (fun d hd => ?_)
  refine qr_aload_n 0 1 rfl (x := 123) rfl dX1_init_0 ?_
  refine qr_oinit 1 4 rfl (by decide) wm_313 wm_29 wm_30 (by omega) (Nat.le_of_ble_eq_true rfl) dX1_init_1 ?_
  refine qr_aload_n 4 5 rfl (x := 123) rfl dX1_init_4 ?_
  refine cn_o 5 8 rfl ck4 124 rfl 124 rfl (by decide +kernel) (by decide) (by decide) wm_314 wm_32 wm_2 dX1_init_5 cdf4 ?_
  refine qr_dup 8 9 rfl rfl dX1_init_8 ?_
  refine cc_N 9 12 rfl (av := []) ca_X4_init rfl wm_34 wn_315 (by decide) (by omega) rfl rfl (Nat.le_of_ble_eq_true rfl) (by decide) (by decide) dX1_init_9 iX4_124 ?_
  refine cp_f 12 15 rfl ck1 1 (by decide) (by decide +kernel) rfl (by decide) (by decide +kernel) rfl rfl 138 (by decide +kernel) wm_319 rfl dX1_init_12 ?_
  refine qr_aload_n 15 16 rfl (x := 123) rfl dX1_init_15 ?_
  refine cn_o 16 19 rfl ck7 139 rfl 139 rfl (by decide +kernel) (by decide) (by decide) wm_316 wm_160 wm_5 dX1_init_16 cdf7 ?_
  refine qr_dup 19 20 rfl rfl dX1_init_19 ?_
  refine cc_N 20 23 rfl (av := []) ca_X7_init rfl wm_162 wn_317 (by decide) (by omega) rfl rfl (Nat.le_of_ble_eq_true rfl) (by decide) (by decide) dX1_init_20 iX7_139 ?_
  refine cp_f 23 26 rfl ck1 2 (by decide) (by decide +kernel) rfl (by decide) (by decide +kernel) rfl rfl 141 (by decide +kernel) wm_321 rfl dX1_init_23 ?_
  exact qr_return 26 rfl dX1_init_26 ⟨rfl, rfl⟩

theorem iX2_150 : q_Con yX2_init mX2_init 1 [qR 150] 150 (q_Mz 149) 153 (q_pz 152) := by
  refine q_start (by decide +kernel) rfl (fun _ => rfl) (ls := [some (qR 150)]) rfl (Nat.le_of_ble_eq_true rfl) (fun d hd => ?_)
  refine qr_aload_n 0 1 rfl (x := 150) rfl dX2_init_0 ?_
  refine qr_oinit 1 4 rfl (by decide) wm_42 wm_29 wm_30 (by omega) (Nat.le_of_ble_eq_true rfl) dX2_init_1 ?_
  refine qr_aload_n 4 5 rfl (x := 150) rfl dX2_init_4 ?_
  refine qr_sipush 5 8 rfl (q_l32 _ rfl) (by decide) dX2_init_5 ?_
  refine cn_a 8 10 rfl q_nw14 151 rfl 151 rfl (by decide +kernel) (by decide +kernel) (by decide) (by decide) (by decide) wx_int dX2_init_8 ?_
  refine cp_f 10 13 rfl ck2 1 (by decide) (by decide +kernel) rfl (by decide) (by decide +kernel) rfl rfl 149 (by decide +kernel) wm_45 rfl dX2_init_10 ?_
  refine qr_aload_n 13 14 rfl (x := 150) rfl dX2_init_13 ?_
  refine qr_bipush 14 16 rfl (q_l32 _ rfl) (by decide) dX2_init_14 ?_
  refine cn_a 16 18 rfl q_nw14 152 rfl 152 rfl (by decide +kernel) (by decide +kernel) (by decide) (by decide) (by decide) wx_int dX2_init_16 ?_
  refine cp_f 18 21 rfl ck2 2 (by decide) (by decide +kernel) rfl (by decide) (by decide +kernel) rfl rfl 150 (by decide +kernel) wm_46 rfl dX2_init_18 ?_
  refine qr_aload_n 21 22 rfl (x := 150) rfl dX2_init_21 ?_
  refine qr_iconst 22 23 rfl (q_l32 _ rfl) dX2_init_22 ?_
  refine cn_a 23 25 rfl q_nw14 153 rfl 153 rfl (by decide +kernel) (by decide +kernel) (by decide) (by decide) (by decide) wx_int dX2_init_23 ?_
  refine cp_f 25 28 rfl ck2 3 (by decide) (by decide +kernel) rfl (by decide) (by decide +kernel) rfl rfl 151 (by decide +kernel) wm_47 rfl dX2_init_25 ?_
  exact qr_return 28 rfl dX2_init_28 ⟨rfl, rfl⟩

theorem iX2_154 : q_Con yX2_init mX2_init 1 [qR 154] 154 (q_Mz 153) 157 (q_pz 156) := by
  refine q_start (by decide +kernel) rfl (fun _ => rfl) (ls := [some (qR 154)]) rfl (Nat.le_of_ble_eq_true rfl) (fun d hd => ?_)
  refine qr_aload_n 0 1 rfl (x := 154) rfl dX2_init_0 ?_
  refine qr_oinit 1 4 rfl (by decide) wm_42 wm_29 wm_30 (by omega) (Nat.le_of_ble_eq_true rfl) dX2_init_1 ?_
  refine qr_aload_n 4 5 rfl (x := 154) rfl dX2_init_4 ?_
  refine qr_sipush 5 8 rfl (q_l32 _ rfl) (by decide) dX2_init_5 ?_
  refine cn_a 8 10 rfl q_nw14 155 rfl 155 rfl (by decide +kernel) (by decide +kernel) (by decide) (by decide) (by decide) wx_int dX2_init_8 ?_
  refine cp_f 10 13 rfl ck2 1 (by decide) (by decide +kernel) rfl (by decide) (by decide +kernel) rfl rfl 153 (by decide +kernel) wm_45 rfl dX2_init_10 ?_
  refine qr_aload_n 13 14 rfl (x := 154) rfl dX2_init_13 ?_
  refine qr_bipush 14 16 rfl (q_l32 _ rfl) (by decide) dX2_init_14 ?_
  refine cn_a 16 18 rfl q_nw14 156 rfl 156 rfl (by decide +kernel) (by decide +kernel) (by decide) (by decide) (by decide) wx_int dX2_init_16 ?_
  refine cp_f 18 21 rfl ck2 2 (by decide) (by decide +kernel) rfl (by decide) (by decide +kernel) rfl rfl 154 (by decide +kernel) wm_46 rfl dX2_init_18 ?_
  refine qr_aload_n 21 22 rfl (x := 154) rfl dX2_init_21 ?_
  refine qr_iconst 22 23 rfl (q_l32 _ rfl) dX2_init_22 ?_
  refine cn_a 23 25 rfl q_nw14 157 rfl 157 rfl (by decide +kernel) (by decide +kernel) (by decide) (by decide) (by decide) wx_int dX2_init_23 ?_
  refine cp_f 25 28 rfl ck2 3 (by decide) (by decide +kernel) rfl (by decide) (by decide +kernel) rfl rfl 155 (by decide +kernel) wm_47 rfl dX2_init_25 ?_
  exact qr_return 28 rfl dX2_init_28 ⟨rfl, rfl⟩

theorem iX4_143 : q_Con yX4_init mX4_init 2 [qR 143] 143 (q_Mz 143) 157 (q_pz 157) := by
  refine q_start (by decide +kernel) rfl (fun _ => rfl) (ls := [some (qR 143)]) rfl (Nat.le_of_ble_eq_true rfl) (fun d hd => ?_)
  refine qr_aload_n 0 1 rfl (x := 143) rfl dX4_init_0 ?_
  refine qr_oinit 1 4 rfl (by decide) wm_36 wm_29 wm_30 (by omega) (Nat.le_of_ble_eq_true rfl) dX4_init_1 ?_
  refine qr_aload_n 4 5 rfl (x := 143) rfl dX4_init_4 ?_
  refine qr_bipush 5 7 rfl (q_l32 _ rfl) (by decide) dX4_init_5 ?_
  refine cn_a 7 9 rfl q_nw14 144 rfl 144 rfl (by decide +kernel) (by decide +kernel) (by decide) (by decide) (by decide) wx_int dX4_init_7 ?_
  refine cp_f 9 12 rfl ck4 4 (by decide) (by decide +kernel) rfl (by decide) (by decide +kernel) rfl rfl 143 (by decide +kernel) wm_74 rfl dX4_init_9 ?_
  refine qr_aload_n 12 13 rfl (x := 143) rfl dX4_init_12 ?_
  refine qr_bipush 13 15 rfl (q_l32 _ rfl) (by decide) dX4_init_13 ?_
  refine cn_a 15 17 rfl q_nw14 145 rfl 145 rfl (by decide +kernel) (by decide +kernel) (by decide) (by decide) (by decide) wx_int dX4_init_15 ?_
  refine cp_f 17 20 rfl ck4 5 (by decide) (by decide +kernel) rfl (by decide) (by decide +kernel) rfl rfl 144 (by decide +kernel) wm_78 rfl dX4_init_17 ?_
  refine qr_aload_n 20 21 rfl (x := 143) rfl dX4_init_20 ?_
  refine qr_bipush 21 23 rfl (q_l32 _ rfl) (by decide) dX4_init_21 ?_
  refine cn_a 23 25 rfl q_nw14 146 rfl 146 rfl (by decide +kernel) (by decide +kernel) (by decide) (by decide) (by decide) wx_int dX4_init_23 ?_
  refine cp_f 25 28 rfl ck4 6 (by decide) (by decide +kernel) rfl (by decide) (by decide +kernel) rfl rfl 145 (by decide +kernel) wm_82 rfl dX4_init_25 ?_
  refine qr_aload_n 28 29 rfl (x := 143) rfl dX4_init_28 ?_
  refine qr_bipush 29 31 rfl (q_l32 _ rfl) (by decide) dX4_init_29 ?_
  refine cn_a 31 33 rfl q_nw14 147 rfl 147 rfl (by decide +kernel) (by decide +kernel) (by decide) (by decide) (by decide) wx_int dX4_init_31 ?_
  refine cp_f 33 36 rfl ck4 7 (by decide) (by decide +kernel) rfl (by decide) (by decide +kernel) rfl rfl 146 (by decide +kernel) wm_83 rfl dX4_init_33 ?_
  refine qr_aload_n 36 37 rfl (x := 143) rfl dX4_init_36 ?_
  refine qr_sipush 37 40 rfl (q_l32 _ rfl) (by decide) dX4_init_37 ?_
  refine cn_a 40 42 rfl q_nw14 148 rfl 148 rfl (by decide +kernel) (by decide +kernel) (by decide) (by decide) (by decide) wx_int dX4_init_40 ?_
  refine cp_f 42 45 rfl ck4 8 (by decide) (by decide +kernel) rfl (by decide) (by decide +kernel) rfl rfl 147 (by decide +kernel) wm_86 rfl dX4_init_42 ?_
  refine qr_aload_n 45 46 rfl (x := 143) rfl dX4_init_45 ?_
  refine qr_bipush 46 48 rfl (q_l32 _ rfl) (by decide) dX4_init_46 ?_
  refine cn_a 48 50 rfl q_nw14 149 rfl 149 rfl (by decide +kernel) (by decide +kernel) (by decide) (by decide) (by decide) wx_int dX4_init_48 ?_
  refine cp_f 50 53 rfl ck4 9 (by decide) (by decide +kernel) rfl (by decide) (by decide +kernel) rfl rfl 148 (by decide +kernel) wm_87 rfl dX4_init_50 ?_
  refine qr_aload_n 53 54 rfl (x := 143) rfl dX4_init_53 ?_
  refine cn_o 54 57 rfl ck2 150 rfl 150 rfl (by decide +kernel) (by decide) (by decide) wm_37 wm_38 wm_3 dX4_init_54 cdf2 ?_
  refine qr_dup 57 58 rfl rfl dX4_init_57 ?_
  refine cc_N 58 61 rfl (av := []) ca_X2_init rfl wm_40 wn_39 (by decide) (by omega) rfl rfl (Nat.le_of_ble_eq_true rfl) (by decide) (by decide) dX4_init_58 iX2_150 ?_
  refine cp_f 61 64 rfl ck4 10 (by decide) (by decide +kernel) rfl (by decide) (by decide +kernel) rfl rfl 152 (by decide +kernel) wm_90 rfl dX4_init_61 ?_
  refine qr_aload_n 64 65 rfl (x := 143) rfl dX4_init_64 ?_
  refine cn_o 65 68 rfl ck2 154 rfl 154 rfl (by decide +kernel) (by decide) (by decide) wm_37 wm_38 wm_3 dX4_init_65 cdf2 ?_
  refine qr_dup 68 69 rfl rfl dX4_init_68 ?_
  refine cc_N 69 72 rfl (av := []) ca_X2_init rfl wm_40 wn_39 (by decide) (by omega) rfl rfl (Nat.le_of_ble_eq_true rfl) (by decide) (by decide) dX4_init_69 iX2_154 ?_
  refine cp_f 72 75 rfl ck4 11 (by decide) (by decide +kernel) rfl (by decide) (by decide +kernel) rfl rfl 156 (by decide +kernel) wm_91 rfl dX4_init_72 ?_
  exact qr_return 75 rfl dX4_init_75 ⟨rfl, rfl⟩

theorem iX7_158 : q_Con yX7_init mX7_init 1 [qR 158] 158 (q_Mz 158) 160 (q_pz 160) := by
  refine q_start (by decide +kernel) rfl (fun _ => rfl) (ls := [some (qR 158)]) rfl (Nat.le_of_ble_eq_true rfl) (fun d hd => ?_)
  refine qr_aload_n 0 1 rfl (x := 158) rfl dX7_init_0 ?_
  refine qr_oinit 1 4 rfl (by decide) wm_164 wm_29 wm_30 (by omega) (Nat.le_of_ble_eq_true rfl) dX7_init_1 ?_
  refine qr_aload_n 4 5 rfl (x := 158) rfl dX7_init_4 ?_
  refine qr_bipush 5 7 rfl (q_l32 _ rfl) (by decide) dX7_init_5 ?_
  refine cn_a 7 9 rfl q_nw14 159 rfl 159 rfl (by decide +kernel) (by decide +kernel) (by decide) (by decide) (by decide) wx_int dX7_init_7 ?_
  refine cp_f 9 12 rfl ck7 2 (by decide) (by decide +kernel) rfl (by decide) (by decide +kernel) rfl rfl 158 (by decide +kernel) wm_171 rfl dX7_init_9 ?_
  refine qr_aload_n 12 13 rfl (x := 158) rfl dX7_init_12 ?_
  refine qr_sipush 13 16 rfl (q_l32 _ rfl) (by decide) dX7_init_13 ?_
  refine cn_a 16 18 rfl q_nw14 160 rfl 160 rfl (by decide +kernel) (by decide +kernel) (by decide) (by decide) (by decide) wx_int dX7_init_16 ?_
  refine cp_f 18 21 rfl ck7 3 (by decide) (by decide +kernel) rfl (by decide) (by decide +kernel) rfl rfl 159 (by decide +kernel) wm_174 rfl dX7_init_18 ?_
  exact qr_return 21 rfl dX7_init_21 ⟨rfl, rfl⟩

theorem iX1_142 : q_Con yX1_init mX1_init 3 [qR 142] 142 (q_Mz 143) 160 (q_pz 161) := by
  refine q_start (by decide +kernel) rfl (fun _ => rfl) (ls := [some (qR 142)]) rfl (Nat.le_of_ble_eq_true rfl) (fun d hd => ?_)
  refine qr_aload_n 0 1 rfl (x := 142) rfl dX1_init_0 ?_
  refine qr_oinit 1 4 rfl (by decide) wm_313 wm_29 wm_30 (by omega) (Nat.le_of_ble_eq_true rfl) dX1_init_1 ?_
  refine qr_aload_n 4 5 rfl (x := 142) rfl dX1_init_4 ?_
  refine cn_o 5 8 rfl ck4 143 rfl 143 rfl (by decide +kernel) (by decide) (by decide) wm_314 wm_32 wm_2 dX1_init_5 cdf4 ?_
  refine qr_dup 8 9 rfl rfl dX1_init_8 ?_
  refine cc_N 9 12 rfl (av := []) ca_X4_init rfl wm_34 wn_315 (by decide) (by omega) rfl rfl (Nat.le_of_ble_eq_true rfl) (by decide) (by decide) dX1_init_9 iX4_143 ?_
  refine cp_f 12 15 rfl ck1 1 (by decide) (by decide +kernel) rfl (by decide) (by decide +kernel) rfl rfl 157 (by decide +kernel) wm_319 rfl dX1_init_12 ?_
  refine qr_aload_n 15 16 rfl (x := 142) rfl dX1_init_15 ?_
  refine cn_o 16 19 rfl ck7 158 rfl 158 rfl (by decide +kernel) (by decide) (by decide) wm_316 wm_160 wm_5 dX1_init_16 cdf7 ?_
  refine qr_dup 19 20 rfl rfl dX1_init_19 ?_
  refine cc_N 20 23 rfl (av := []) ca_X7_init rfl wm_162 wn_317 (by decide) (by omega) rfl rfl (Nat.le_of_ble_eq_true rfl) (by decide) (by decide) dX1_init_20 iX7_158 ?_
  refine cp_f 23 26 rfl ck1 2 (by decide) (by decide +kernel) rfl (by decide) (by decide +kernel) rfl rfl 160 (by decide +kernel) wm_321 rfl dX1_init_23 ?_
  exact qr_return 26 rfl dX1_init_26 ⟨rfl, rfl⟩

theorem iX9_161 : q_Con yX9_init mX9_init 1 [qR 161] 161 (q_Mz 162) 162 (q_pz 164) := by
  refine q_start (by decide +kernel) rfl (fun _ => rfl) (ls := [some (qR 161)]) rfl (Nat.le_of_ble_eq_true rfl) (fun d hd => ?_)
  refine qr_aload_n 0 1 rfl (x := 161) rfl dX9_init_0 ?_
  refine qr_oinit 1 4 rfl (by decide) wm_334 wm_29 wm_30 (by omega) (Nat.le_of_ble_eq_true rfl) dX9_init_1 ?_
  refine qr_aload_n 4 5 rfl (x := 161) rfl dX9_init_4 ?_
  refine qr_iconst 5 6 rfl (q_l32 _ rfl) dX9_init_5 ?_
  refine cp_i 6 9 rfl ck9 0 (by decide) (by decide +kernel) rfl rfl 162 (by decide +kernel) wm_335 rfl dX9_init_6 ?_
  refine qr_aload_n 9 10 rfl (x := 161) rfl dX9_init_9 ?_
  refine qr_bipush 10 12 rfl (q_l32 _ rfl) (by decide) dX9_init_10 ?_
  refine cn_a 12 14 rfl q_nw15 162 rfl 162 rfl (by decide +kernel) (by decide +kernel) (by decide) (by decide) (by decide) wx_long dX9_init_12 ?_
  refine cp_f 14 17 rfl ck9 2 (by decide) (by decide +kernel) rfl (by decide) (by decide +kernel) rfl rfl 163 (by decide +kernel) wm_338 rfl dX9_init_14 ?_
  exact qr_return 17 rfl dX9_init_17 ⟨rfl, rfl⟩

theorem iX9_163 : q_Con yX9_init mX9_init 1 [qR 163] 163 (q_Mz 165) 164 (q_pz 167) := by
  refine q_start (by decide +kernel) rfl (fun _ => rfl) (ls := [some (qR 163)]) rfl (Nat.le_of_ble_eq_true rfl) (fun d hd => ?_)
  refine qr_aload_n 0 1 rfl (x := 163) rfl dX9_init_0 ?_
  refine qr_oinit 1 4 rfl (by decide) wm_334 wm_29 wm_30 (by omega) (Nat.le_of_ble_eq_true rfl) dX9_init_1 ?_
  refine qr_aload_n 4 5 rfl (x := 163) rfl dX9_init_4 ?_
  refine qr_iconst 5 6 rfl (q_l32 _ rfl) dX9_init_5 ?_
  refine cp_i 6 9 rfl ck9 0 (by decide) (by decide +kernel) rfl rfl 165 (by decide +kernel) wm_335 rfl dX9_init_6 ?_
  refine qr_aload_n 9 10 rfl (x := 163) rfl dX9_init_9 ?_
  refine qr_bipush 10 12 rfl (q_l32 _ rfl) (by decide) dX9_init_10 ?_
  refine cn_a 12 14 rfl q_nw15 164 rfl 164 rfl (by decide +kernel) (by decide +kernel) (by decide) (by decide) (by decide) wx_long dX9_init_12 ?_
  refine cp_f 14 17 rfl ck9 2 (by decide) (by decide +kernel) rfl (by decide) (by decide +kernel) rfl rfl 166 (by decide +kernel) wm_338 rfl dX9_init_14 ?_
  exact qr_return 17 rfl dX9_init_17 ⟨rfl, rfl⟩

theorem iX9_165 : q_Con yX9_init mX9_init 1 [qR 165] 165 (q_Mz 168) 166 (q_pz 170) := by
  refine q_start (by decide +kernel) rfl (fun _ => rfl) (ls := [some (qR 165)]) rfl (Nat.le_of_ble_eq_true rfl) (fun d hd => ?_)
  refine qr_aload_n 0 1 rfl (x := 165) rfl dX9_init_0 ?_
  refine qr_oinit 1 4 rfl (by decide) wm_334 wm_29 wm_30 (by omega) (Nat.le_of_ble_eq_true rfl) dX9_init_1 ?_
  refine qr_aload_n 4 5 rfl (x := 165) rfl dX9_init_4 ?_
  refine qr_iconst 5 6 rfl (q_l32 _ rfl) dX9_init_5 ?_
  refine cp_i 6 9 rfl ck9 0 (by decide) (by decide +kernel) rfl rfl 168 (by decide +kernel) wm_335 rfl dX9_init_6 ?_
  refine qr_aload_n 9 10 rfl (x := 165) rfl dX9_init_9 ?_
  refine qr_bipush 10 12 rfl (q_l32 _ rfl) (by decide) dX9_init_10 ?_
  refine cn_a 12 14 rfl q_nw15 166 rfl 166 rfl (by decide +kernel) (by decide +kernel) (by decide) (by decide) (by decide) wx_long dX9_init_12 ?_
  refine cp_f 14 17 rfl ck9 2 (by decide) (by decide +kernel) rfl (by decide) (by decide +kernel) rfl rfl 169 (by decide +kernel) wm_338 rfl dX9_init_14 ?_
  exact qr_return 17 rfl dX9_init_17 ⟨rfl, rfl⟩

theorem iX9_167 : q_Con yX9_init mX9_init 1 [qR 167] 167 (q_Mz 171) 168 (q_pz 173) := by
  refine q_start (by decide +kernel) rfl (fun _ => rfl) (ls := [some (qR 167)]) rfl (Nat.le_of_ble_eq_true rfl) (fun d hd => ?_)
  refine qr_aload_n 0 1 rfl (x := 167) rfl dX9_init_0 ?_
  refine qr_oinit 1 4 rfl (by decide) wm_334 wm_29 wm_30 (by omega) (Nat.le_of_ble_eq_true rfl) dX9_init_1 ?_
  refine qr_aload_n 4 5 rfl (x := 167) rfl dX9_init_4 ?_
  refine qr_iconst 5 6 rfl (q_l32 _ rfl) dX9_init_5 ?_
  refine cp_i 6 9 rfl ck9 0 (by decide) (by decide +kernel) rfl rfl 171 (by decide +kernel) wm_335 rfl dX9_init_6 ?_
  refine qr_aload_n 9 10 rfl (x := 167) rfl dX9_init_9 ?_
  refine qr_bipush 10 12 rfl (q_l32 _ rfl) (by decide) dX9_init_10 ?_
  refine cn_a 12 14 rfl q_nw15 168 rfl 168 rfl (by decide +kernel) (by decide +kernel) (by decide) (by decide) (by decide) wx_long dX9_init_12 ?_
  refine cp_f 14 17 rfl ck9 2 (by decide) (by decide +kernel) rfl (by decide) (by decide +kernel) rfl rfl 172 (by decide +kernel) wm_338 rfl dX9_init_14 ?_
  exact qr_return 17 rfl dX9_init_17 ⟨rfl, rfl⟩

theorem iX3_170 : q_Con yX3_init mX3_init 1 [qR 170, qR 169] 170 (q_Mz 174) 173 (q_pz 178) := by
  refine q_start (by decide +kernel) rfl (fun _ => rfl) (ls := [some (qR 170), some (qR 169)]) rfl (Nat.le_of_ble_eq_true rfl) (fun d hd => ?_)
  refine qr_aload_n 0 1 rfl (x := 170) rfl dX3_init_0 ?_
  refine qr_oinit 1 4 rfl (by decide) wm_354 wm_29 wm_30 (by omega) (Nat.le_of_ble_eq_true rfl) dX3_init_1 ?_
  refine qr_aload_n 4 5 rfl (x := 170) rfl dX3_init_4 ?_
  refine qr_bipush 5 7 rfl (q_l32 _ rfl) (by decide) dX3_init_5 ?_
  refine cn_a 7 9 rfl q_nw14 171 rfl 171 rfl (by decide +kernel) (by decide +kernel) (by decide) (by decide) (by decide) wx_int dX3_init_7 ?_
  refine cp_f 9 12 rfl ck3 1 (by decide) (by decide +kernel) rfl (by decide) (by decide +kernel) rfl rfl 174 (by decide +kernel) wm_358 rfl dX3_init_9 ?_
  refine qr_aload_n 12 13 rfl (x := 170) rfl dX3_init_12 ?_
  refine qr_iconst 13 14 rfl (q_l32 _ rfl) dX3_init_13 ?_
  refine qr_iconst 14 15 rfl (q_l32 _ rfl) dX3_init_14 ?_
  refine cn_m 15 19 rfl (N := 0) (K := 0) 172 rfl 172 rfl 175 175 rfl (by decide +kernel) (by decide +kernel) (by decide +kernel) (by decide +kernel) (by decide +kernel) (by decide +kernel) (by decide) (by decide) (by decide +kernel) (by decide) (by decide) wx_over wx_int wm_355 dX3_init_15 ?_
  refine cp_r 19 22 rfl ck3 2 (by decide) (by decide +kernel) rfl (by decide +kernel) 175 (by decide +kernel) wm_360 rfl dX3_init_19 ?_
  refine qr_aload_n 22 23 rfl (x := 170) rfl dX3_init_22 ?_
  refine qr_bipush 23 25 rfl (q_l32 _ rfl) (by decide) dX3_init_23 ?_
  refine cn_a 25 27 rfl q_nw14 173 rfl 173 rfl (by decide +kernel) (by decide +kernel) (by decide) (by decide) (by decide) wx_int dX3_init_25 ?_
  refine cp_f 27 30 rfl ck3 4 (by decide) (by decide +kernel) rfl (by decide) (by decide +kernel) rfl rfl 176 (by decide +kernel) wm_362 rfl dX3_init_27 ?_
  refine qr_aload_n 30 31 rfl (x := 170) rfl dX3_init_30 ?_
  refine qr_aload_n 31 32 rfl (x := 169) rfl dX3_init_31 ?_
  refine cp_f 32 35 rfl ck3 3 (by decide) (by decide +kernel) rfl (by decide) (by decide +kernel) rfl rfl 177 (by decide +kernel) wm_361 rfl dX3_init_32 ?_
  exact qr_return 35 rfl dX3_init_35 ⟨rfl, rfl⟩

theorem iX3_174 : q_Con yX3_init mX3_init 1 [qR 174, qR 169] 174 (q_Mz 179) 177 (q_pz 183) := by
  refine q_start (by decide +kernel) rfl (fun _ => rfl) (ls := [some (qR 174), some (qR 169)]) rfl (Nat.le_of_ble_eq_true rfl) (fun d hd => ?_)
  refine qr_aload_n 0 1 rfl (x := 174) rfl dX3_init_0 ?_
  refine qr_oinit 1 4 rfl (by decide) wm_354 wm_29 wm_30 (by omega) (Nat.le_of_ble_eq_true rfl) dX3_init_1 ?_
  refine qr_aload_n 4 5 rfl (x := 174) rfl dX3_init_4 ?_
  refine qr_bipush 5 7 rfl (q_l32 _ rfl) (by decide) dX3_init_5 ?_
  refine cn_a 7 9 rfl q_nw14 175 rfl 175 rfl (by decide +kernel) (by decide +kernel) (by decide) (by decide) (by decide) wx_int dX3_init_7 ?_
  refine cp_f 9 12 rfl ck3 1 (by decide) (by decide +kernel) rfl (by decide) (by decide +kernel) rfl rfl 179 (by decide +kernel) wm_358 rfl dX3_init_9 ?_
  refine qr_aload_n 12 13 rfl (x := 174) rfl dX3_init_12 ?_
  refine qr_iconst 13 14 rfl (q_l32 _ rfl) dX3_init_13 ?_
  refine qr_iconst 14 15 rfl (q_l32 _ rfl) dX3_init_14 ?_
  refine cn_m 15 19 rfl (N := 0) (K := 0) 176 rfl 176 rfl 180 180 rfl (by decide +kernel) (by decide +kernel) (by decide +kernel) (by decide +kernel) (by decide +kernel) (by decide +kernel) (by decide) (by decide) (by decide +kernel) (by decide) (by decide) wx_over wx_int wm_355 dX3_init_15 ?_
  refine cp_r 19 22 rfl ck3 2 (by decide) (by decide +kernel) rfl (by decide +kernel) 180 (by decide +kernel) wm_360 rfl dX3_init_19 ?_
  refine qr_aload_n 22 23 rfl (x := 174) rfl dX3_init_22 ?_
  refine qr_bipush 23 25 rfl (q_l32 _ rfl) (by decide) dX3_init_23 ?_
  refine cn_a 25 27 rfl q_nw14 177 rfl 177 rfl (by decide +kernel) (by decide +kernel) (by decide) (by decide) (by decide) wx_int dX3_init_25 ?_
  refine cp_f 27 30 rfl ck3 4 (by decide) (by decide +kernel) rfl (by decide) (by decide +kernel) rfl rfl 181 (by decide +kernel) wm_362 rfl dX3_init_27 ?_
  refine qr_aload_n 30 31 rfl (x := 174) rfl dX3_init_30 ?_
  refine qr_aload_n 31 32 rfl (x := 169) rfl dX3_init_31 ?_
  refine cp_f 32 35 rfl ck3 3 (by decide) (by decide +kernel) rfl (by decide) (by decide +kernel) rfl rfl 182 (by decide +kernel) wm_361 rfl dX3_init_32 ?_
  exact qr_return 35 rfl dX3_init_35 ⟨rfl, rfl⟩

theorem iX11_1 : q_Con yX11_init mX11_init 4 [qR 1] 1 (q_Mz 0) 177 (q_pz 184) := by
  refine q_start (by decide +kernel) rfl (fun _ => rfl) (ls := [some (qR 1), none]) rfl (Nat.le_of_ble_eq_true rfl) (fun d hd => ?_)
  refine qr_aload_n 0 1 rfl (x := 1) rfl dX11_init_0 ?_
  refine qr_oinit 1 4 rfl (by decide) wm_28 wm_29 wm_30 (by omega) (Nat.le_of_ble_eq_true rfl) dX11_init_1 ?_
  refine qr_aload_n 4 5 rfl (x := 1) rfl dX11_init_4 ?_
  refine qr_sipush 5 8 rfl (q_l32 _ rfl) (by decide) dX11_init_5 ?_
  refine cn_a 8 10 rfl q_nw13 2 rfl 2 rfl (by decide +kernel) (by decide +kernel) (by decide) (by decide) (by decide) wx_byte dX11_init_8 ?_
  refine cp_f 10 13 rfl ck11 0 (by decide) (by decide +kernel) rfl (by decide) (by decide +kernel) rfl rfl 0 (by decide +kernel) wm_377 rfl dX11_init_10 ?_
  refine qr_aload_n 13 14 rfl (x := 1) rfl dX11_init_13 ?_
  refine qr_iconst 14 15 rfl (q_l32 _ rfl) dX11_init_14 ?_
  refine cp_i 15 18 rfl ck11 3 (by decide) (by decide +kernel) rfl rfl 1 (by decide +kernel) wm_380 rfl dX11_init_15 ?_
  refine qr_aload_n 18 19 rfl (x := 1) rfl dX11_init_18 ?_
  refine cn_o 19 22 rfl ck4 3 rfl 3 rfl (by decide +kernel) (by decide) (by decide) wm_31 wm_32 wm_2 dX11_init_19 cdf4 ?_
  refine qr_dup 22 23 rfl rfl dX11_init_22 ?_
  refine cc_N 23 26 rfl (av := []) ca_X4_init rfl wm_34 wn_33 (by decide) (by omega) rfl rfl (Nat.le_of_ble_eq_true rfl) (by decide) (by decide) dX11_init_23 iX4_3 ?_
  refine cp_r 26 29 rfl ck11 4 (by decide) (by decide +kernel) rfl (by decide +kernel) 16 (by decide +kernel) wm_381 rfl dX11_init_26 ?_
  refine qr_aload_n 29 30 rfl (x := 1) rfl dX11_init_29 ?_
  refine cn_o 30 33 rfl ck4 18 rfl 18 rfl (by decide +kernel) (by decide) (by decide) wm_31 wm_32 wm_2 dX11_init_30 cdf4 ?_
  refine qr_dup 33 34 rfl rfl dX11_init_33 ?_
  refine cc_N 34 37 rfl (av := []) ca_X4_init rfl wm_34 wn_33 (by decide) (by omega) rfl rfl (Nat.le_of_ble_eq_true rfl) (by decide) (by decide) dX11_init_34 iX4_18 ?_
  refine cp_r 37 40 rfl ck11 5 (by decide) (by decide +kernel) rfl (by decide +kernel) 31 (by decide +kernel) wm_382 rfl dX11_init_37 ?_
  refine qr_aload_n 40 41 rfl (x := 1) rfl dX11_init_40 ?_
  refine cn_o 41 44 rfl ck5 33 rfl 33 rfl (by decide +kernel) (by decide) (by decide) wm_118 wm_119 wm_4 dX11_init_41 cdf5 ?_
  refine qr_dup 44 45 rfl rfl dX11_init_44 ?_
  refine cc_N 45 48 rfl (av := []) ca_X5_init rfl wm_121 wn_120 (by decide) (by omega) rfl rfl (Nat.le_of_ble_eq_true rfl) (by decide) (by decide) dX11_init_45 iX5_33 ?_
  refine cp_f 48 51 rfl ck11 6 (by decide) (by decide +kernel) rfl (by decide) (by decide +kernel) rfl rfl 50 (by decide +kernel) wm_383 rfl dX11_init_48 ?_
  refine qr_aload_n 51 52 rfl (x := 1) rfl dX11_init_51 ?_
  refine cn_o 52 55 rfl ck7 50 rfl 50 rfl (by decide +kernel) (by decide) (by decide) wm_159 wm_160 wm_5 dX11_init_52 cdf7 ?_
  refine qr_dup 55 56 rfl rfl dX11_init_55 ?_
  refine cc_N 56 59 rfl (av := []) ca_X7_init rfl wm_162 wn_161 (by decide) (by omega) rfl rfl (Nat.le_of_ble_eq_true rfl) (by decide) (by decide) dX11_init_56 iX7_50 ?_
  refine cp_f 59 62 rfl ck11 7 (by decide) (by decide +kernel) rfl (by decide) (by decide +kernel) rfl rfl 53 (by decide +kernel) wm_384 rfl dX11_init_59 ?_
  refine qr_aload_n 62 63 rfl (x := 1) rfl dX11_init_62 ?_
  refine cn_o 63 66 rfl ck7 53 rfl 53 rfl (by decide +kernel) (by decide) (by decide) wm_159 wm_160 wm_5 dX11_init_63 cdf7 ?_
  refine qr_dup 66 67 rfl rfl dX11_init_66 ?_
  refine cc_N 67 70 rfl (av := []) ca_X7_init rfl wm_162 wn_161 (by decide) (by omega) rfl rfl (Nat.le_of_ble_eq_true rfl) (by decide) (by decide) dX11_init_67 iX7_53 ?_
  refine cp_f 70 73 rfl ck11 8 (by decide) (by decide +kernel) rfl (by decide) (by decide +kernel) rfl rfl 56 (by decide +kernel) wm_385 rfl dX11_init_70 ?_
  refine qr_aload_n 73 74 rfl (x := 1) rfl dX11_init_73 ?_
  refine cn_o 74 77 rfl ck0 56 rfl 56 rfl (by decide +kernel) (by decide) (by decide) wm_186 wm_187 wm_6 dX11_init_74 cdf0 ?_
  refine qr_dup 77 78 rfl rfl dX11_init_77 ?_
  refine cc_C 78 81 rfl (av := []) ca_X0_init rfl wm_189 wm_188 (by decide) (by omega) rfl rfl (Nat.le_of_ble_eq_true rfl) (by decide) (by decide) dX11_init_78 iX0_56 ?_
  refine cp_f 81 84 rfl ck11 9 (by decide) (by decide +kernel) rfl (by decide) (by decide +kernel) rfl rfl 88 (by decide +kernel) wm_386 rfl dX11_init_81 ?_
  refine qr_aload_n 84 85 rfl (x := 1) rfl dX11_init_84 ?_
  refine qr_iconst 85 86 rfl (q_l32 _ rfl) dX11_init_85 ?_
  refine cn_q 86 89 rfl (kd := 17) (i := 4) (by decide) (Or.inl ⟨rfl, rfl, rfl⟩) 88 rfl 88 rfl (by decide +kernel) (by decide +kernel) (by decide) (by decide) (by decide) wm_206 dX11_init_86 ?_
  refine cp_f 89 92 rfl ck11 10 (by decide) (by decide +kernel) rfl (by decide) (by decide +kernel) rfl rfl 89 (by decide +kernel) wm_387 rfl dX11_init_89 ?_
  refine qr_aload_n 92 93 rfl (x := 1) rfl dX11_init_92 ?_
  refine qr_iconst 93 94 rfl (q_l32 _ rfl) dX11_init_93 ?_
  refine cn_q 94 97 rfl (kd := 19) (i := 6) (by decide) (Or.inr (Or.inr ⟨rfl, rfl, rfl⟩)) 89 rfl 89 rfl (by decide +kernel) (by decide +kernel) (by decide) (by decide) (by decide) wm_208 dX11_init_94 ?_
  refine cp_f 97 100 rfl ck11 11 (by decide) (by decide +kernel) rfl (by decide) (by decide +kernel) rfl rfl 90 (by decide +kernel) wm_388 rfl dX11_init_97 ?_
  refine qr_aload_n 100 101 rfl (x := 1) rfl dX11_init_100 ?_
  refine qr_bipush 101 103 rfl (q_l32 _ rfl) (by decide) dX11_init_101 ?_
  refine cn_a 103 105 rfl q_nw14 90 rfl 90 rfl (by decide +kernel) (by decide +kernel) (by decide) (by decide) (by decide) wx_int dX11_init_103 ?_
  refine cp_f 105 108 rfl ck11 12 (by decide) (by decide +kernel) rfl (by decide) (by decide +kernel) rfl rfl 91 (by decide +kernel) wm_389 rfl dX11_init_105 ?_
  refine qr_aload_n 108 109 rfl (x := 1) rfl dX11_init_108 ?_
  refine cn_o 109 112 rfl ck6 91 rfl 91 rfl (by decide +kernel) (by decide) (by decide) wm_210 wm_211 wm_7 dX11_init_109 cdf6 ?_
  refine qr_dup 112 113 rfl rfl dX11_init_112 ?_
  refine cc_N 113 116 rfl (av := []) ca_X6_init rfl wm_213 wn_212 (by decide) (by omega) rfl rfl (Nat.le_of_ble_eq_true rfl) (by decide) (by decide) dX11_init_113 iX6_91 ?_
  refine cp_f 116 119 rfl ck11 13 (by decide) (by decide +kernel) rfl (by decide) (by decide +kernel) rfl rfl 98 (by decide +kernel) wm_390 rfl dX11_init_116 ?_
  refine qr_aload_n 119 120 rfl (x := 1) rfl dX11_init_119 ?_
  refine cn_o 120 123 rfl ck10 98 rfl 98 rfl (by decide +kernel) (by decide) (by decide) wm_254 wm_255 wm_8 dX11_init_120 cdf10 ?_
  refine qr_dup 123 124 rfl rfl dX11_init_123 ?_
  refine cc_N 124 127 rfl (av := []) ca_X10_init rfl wm_257 wn_256 (by decide) (by omega) rfl rfl (Nat.le_of_ble_eq_true rfl) (by decide) (by decide) dX11_init_124 iX10_98 ?_
  refine cp_f 127 130 rfl ck11 14 (by decide) (by decide +kernel) rfl (by decide) (by decide +kernel) rfl rfl 117 (by decide +kernel) wm_391 rfl dX11_init_127 ?_
  refine qr_aload_n 130 131 rfl (x := 1) rfl dX11_init_130 ?_
  refine cn_o 131 134 rfl ck8 117 rfl 117 rfl (by decide +kernel) (by decide) (by decide) wm_273 wm_274 wm_9 dX11_init_131 cdf8 ?_
  refine qr_dup 134 135 rfl rfl dX11_init_134 ?_
  refine cc_N 135 138 rfl (av := []) ca_X8_init rfl wm_276 wn_275 (by decide) (by omega) rfl rfl (Nat.le_of_ble_eq_true rfl) (by decide) (by decide) dX11_init_135 iX8_117 ?_
  refine cp_f 138 141 rfl ck11 17 (by decide) (by decide +kernel) rfl (by decide) (by decide +kernel) rfl rfl 123 (by decide +kernel) wm_394 rfl dX11_init_138 ?_
  refine qr_iconst 141 142 rfl (q_l32 _ rfl) dX11_init_141 ?_
  refine qr_istore_n 142 143 rfl (by decide) rfl rfl dX11_init_142 ?_
  refine qr_iload_n 143 144 rfl (x := 0) rfl dX11_init_143 ?_
  refine qr_iconst 144 145 rfl (q_l32 _ rfl) dX11_init_144 ?_
  refine qr_icmp_ge 145 148 167 rfl (by decide) dX11_init_145 (fun h => absurd h (by decide)) (fun _ => ?_)
  refine qr_aload_n 148 149 rfl (x := 1) rfl dX11_init_148 ?_
  refine cg_r 149 152 rfl ck11 10 (by decide) (by decide +kernel) (by decide +kernel) (v := 88) (by decide +kernel) wm_387 rfl dX11_init_149 ?_
  refine qr_iload_n 152 153 rfl (x := 0) rfl dX11_init_152 ?_
  refine cn_o 153 156 rfl ck1 123 rfl 123 rfl (by decide +kernel) (by decide) (by decide) wm_206 wm_309 wm_10 dX11_init_153 cdf1 ?_
  refine qr_dup 156 157 rfl rfl dX11_init_156 ?_
  refine cc_N 157 160 rfl (av := []) ca_X1_init rfl wm_311 wn_310 (by decide) (by omega) rfl rfl (Nat.le_of_ble_eq_true rfl) (by decide) (by decide) dX11_init_157 iX1_123 ?_
  refine ca_s 160 161 rfl ck1 (kd := 17) (t0 := 4) (by decide +kernel) (by decide) (fun _ => rfl) (by decide) (by decide +kernel) (by decide +kernel) (by decide) 142 (by decide +kernel) dX11_init_160 ?_
  refine ci_inc 161 164 rfl (by decide) (x := 0) (y := 1) rfl (by decide +kernel) rfl rfl dX11_init_161 ?_
  refine qr_goto 164 143 (by decide) dX11_init_164 ?_
  refine qr_iload_n 143 144 rfl (x := 1) rfl dX11_init_143 ?_
  refine qr_iconst 144 145 rfl (q_l32 _ rfl) dX11_init_144 ?_
  refine qr_icmp_ge 145 148 167 rfl (by decide) dX11_init_145 (fun h => absurd h (by decide)) (fun _ => ?_)
  refine qr_aload_n 148 149 rfl (x := 1) rfl dX11_init_148 ?_
  refine cg_r 149 152 rfl ck11 10 (by decide) (by decide +kernel) (by decide +kernel) (v := 88) (by decide +kernel) wm_387 rfl dX11_init_149 ?_
  refine qr_iload_n 152 153 rfl (x := 1) rfl dX11_init_152 ?_
  refine cn_o 153 156 rfl ck1 142 rfl 142 rfl (by decide +kernel) (by decide) (by decide) wm_206 wm_309 wm_10 dX11_init_153 cdf1 ?_
  refine qr_dup 156 157 rfl rfl dX11_init_156 ?_
  refine cc_N 157 160 rfl (av := []) ca_X1_init rfl wm_311 wn_310 (by decide) (by omega) rfl rfl (Nat.le_of_ble_eq_true rfl) (by decide) (by decide) dX11_init_157 iX1_142 ?_
  refine ca_s 160 161 rfl ck1 (kd := 17) (t0 := 4) (by decide +kernel) (by decide) (fun _ => rfl) (by decide) (by decide +kernel) (by decide +kernel) (by decide) 161 (by decide +kernel) dX11_init_160 ?_
  refine ci_inc 161 164 rfl (by decide) (x := 1) (y := 2) rfl (by decide +kernel) rfl rfl dX11_init_161 ?_
  refine qr_goto 164 143 (by decide) dX11_init_164 ?_
  refine qr_iload_n 143 144 rfl (x := 2) rfl dX11_init_143 ?_
  refine qr_iconst 144 145 rfl (q_l32 _ rfl) dX11_init_144 ?_
  refine qr_icmp_ge 145 148 167 rfl (by decide) dX11_init_145 (fun _ => ?_) (fun h => absurd (by decide) h)
  refine qr_iconst 167 168 rfl (q_l32 _ rfl) dX11_init_167 ?_
  refine qr_istore_n 168 169 rfl (by decide) rfl rfl dX11_init_168 ?_
  refine qr_iload_n 169 170 rfl (x := 0) rfl dX11_init_169 ?_
  refine qr_iconst 170 171 rfl (q_l32 _ rfl) dX11_init_170 ?_
  refine qr_icmp_ge 171 174 193 rfl (by decide) dX11_init_171 (fun h => absurd h (by decide)) (fun _ => ?_)
  refine qr_aload_n 174 175 rfl (x := 1) rfl dX11_init_174 ?_
  refine cg_r 175 178 rfl ck11 11 (by decide) (by decide +kernel) (by decide +kernel) (v := 89) (by decide +kernel) wm_388 rfl dX11_init_175 ?_
  refine qr_iload_n 178 179 rfl (x := 0) rfl dX11_init_178 ?_
  refine cn_o 179 182 rfl ck9 161 rfl 161 rfl (by decide +kernel) (by decide) (by decide) wm_208 wm_330 wm_11 dX11_init_179 cdf9 ?_
  refine qr_dup 182 183 rfl rfl dX11_init_182 ?_
  refine cc_N 183 186 rfl (av := []) ca_X9_init rfl wm_332 wn_331 (by decide) (by omega) rfl rfl (Nat.le_of_ble_eq_true rfl) (by decide) (by decide) dX11_init_183 iX9_161 ?_
  refine ca_s 186 187 rfl ck9 (kd := 19) (t0 := 6) (by decide +kernel) (by decide) (fun _ => rfl) (by decide) (by decide +kernel) (by decide +kernel) (by decide) 164 (by decide +kernel) dX11_init_186 ?_
  refine ci_inc 187 190 rfl (by decide) (x := 0) (y := 1) rfl (by decide +kernel) rfl rfl dX11_init_187 ?_
  refine qr_goto 190 169 (by decide) dX11_init_190 ?_
  refine qr_iload_n 169 170 rfl (x := 1) rfl dX11_init_169 ?_
  refine qr_iconst 170 171 rfl (q_l32 _ rfl) dX11_init_170 ?_
  refine qr_icmp_ge 171 174 193 rfl (by decide) dX11_init_171 (fun h => absurd h (by decide)) (fun _ => ?_)
  refine qr_aload_n 174 175 rfl (x := 1) rfl dX11_init_174 ?_
  refine cg_r 175 178 rfl ck11 11 (by decide) (by decide +kernel) (by decide +kernel) (v := 89) (by decide +kernel) wm_388 rfl dX11_init_175 ?_
  refine qr_iload_n 178 179 rfl (x := 1) rfl dX11_init_178 ?_
  refine cn_o 179 182 rfl ck9 163 rfl 163 rfl (by decide +kernel) (by decide) (by decide) wm_208 wm_330 wm_11 dX11_init_179 cdf9 ?_
  refine qr_dup 182 183 rfl rfl dX11_init_182 ?_
  refine cc_N 183 186 rfl (av := []) ca_X9_init rfl wm_332 wn_331 (by decide) (by omega) rfl rfl (Nat.le_of_ble_eq_true rfl) (by decide) (by decide) dX11_init_183 iX9_163 ?_
  refine ca_s 186 187 rfl ck9 (kd := 19) (t0 := 6) (by decide +kernel) (by decide) (fun _ => rfl) (by decide) (by decide +kernel) (by decide +kernel) (by decide) 167 (by decide +kernel) dX11_init_186 ?_
  refine ci_inc 187 190 rfl (by decide) (x := 1) (y := 2) rfl (by decide +kernel) rfl rfl dX11_init_187 ?_
  refine qr_goto 190 169 (by decide) dX11_init_190 ?_
  refine qr_iload_n 169 170 rfl (x := 2) rfl dX11_init_169 ?_
  refine qr_iconst 170 171 rfl (q_l32 _ rfl) dX11_init_170 ?_
  refine qr_icmp_ge 171 174 193 rfl (by decide) dX11_init_171 (fun h => absurd h (by decide)) (fun _ => ?_)
  refine qr_aload_n 174 175 rfl (x := 1) rfl dX11_init_174 ?_
  refine cg_r 175 178 rfl ck11 11 (by decide) (by decide +kernel) (by decide +kernel) (v := 89) (by decide +kernel) wm_388 rfl dX11_init_175 ?_
  refine qr_iload_n 178 179 rfl (x := 2) rfl dX11_init_178 ?_
  refine cn_o 179 182 rfl ck9 165 rfl 165 rfl (by decide +kernel) (by decide) (by decide) wm_208 wm_330 wm_11 dX11_init_179 cdf9 ?_
  refine qr_dup 182 183 rfl rfl dX11_init_182 ?_
  refine cc_N 183 186 rfl (av := []) ca_X9_init rfl wm_332 wn_331 (by decide) (by omega) rfl rfl (Nat.le_of_ble_eq_true rfl) (by decide) (by decide) dX11_init_183 iX9_165 ?_
  refine ca_s 186 187 rfl ck9 (kd := 19) (t0 := 6) (by decide +kernel) (by decide) (fun _ => rfl) (by decide) (by decide +kernel) (by decide +kernel) (by decide) 170 (by decide +kernel) dX11_init_186 ?_
  refine ci_inc 187 190 rfl (by decide) (x := 2) (y := 3) rfl (by decide +kernel) rfl rfl dX11_init_187 ?_
  refine qr_goto 190 169 (by decide) dX11_init_190 ?_
  refine qr_iload_n 169 170 rfl (x := 3) rfl dX11_init_169 ?_
  refine qr_iconst 170 171 rfl (q_l32 _ rfl) dX11_init_170 ?_
  refine qr_icmp_ge 171 174 193 rfl (by decide) dX11_init_171 (fun h => absurd h (by decide)) (fun _ => ?_)
  refine qr_aload_n 174 175 rfl (x := 1) rfl dX11_init_174 ?_
  refine cg_r 175 178 rfl ck11 11 (by decide) (by decide +kernel) (by decide +kernel) (v := 89) (by decide +kernel) wm_388 rfl dX11_init_175 ?_
  refine qr_iload_n 178 179 rfl (x := 3) rfl dX11_init_178 ?_
  refine cn_o 179 182 rfl ck9 167 rfl 167 rfl (by decide +kernel) (by decide) (by decide) wm_208 wm_330 wm_11 dX11_init_179 cdf9 ?_
  refine qr_dup 182 183 rfl rfl dX11_init_182 ?_
  refine cc_N 183 186 rfl (av := []) ca_X9_init rfl wm_332 wn_331 (by decide) (by omega) rfl rfl (Nat.le_of_ble_eq_true rfl) (by decide) (by decide) dX11_init_183 iX9_167 ?_
  refine ca_s 186 187 rfl ck9 (kd := 19) (t0 := 6) (by decide +kernel) (by decide) (fun _ => rfl) (by decide) (by decide +kernel) (by decide +kernel) (by decide) 173 (by decide +kernel) dX11_init_186 ?_
  refine ci_inc 187 190 rfl (by decide) (x := 3) (y := 4) rfl (by decide +kernel) rfl rfl dX11_init_187 ?_
  refine qr_goto 190 169 (by decide) dX11_init_190 ?_
  refine qr_iload_n 169 170 rfl (x := 4) rfl dX11_init_169 ?_
  refine qr_iconst 170 171 rfl (q_l32 _ rfl) dX11_init_170 ?_
  refine qr_icmp_ge 171 174 193 rfl (by decide) dX11_init_171 (fun _ => ?_) (fun h => absurd (by decide) h)
  refine qr_ldc 193 195 rfl (v := 65536) (q_l32 _ rfl) wm_348 dX11_init_193 ?_
  refine cn_a 195 197 rfl q_nw14 169 rfl 169 rfl (by decide +kernel) (by decide +kernel) (by decide) (by decide) (by decide) wx_int dX11_init_195 ?_
  refine qr_astore_n 197 198 rfl (by decide) rfl rfl dX11_init_197 ?_
  refine qr_aload_n 198 199 rfl (x := 1) rfl dX11_init_198 ?_
  refine cn_o 199 202 rfl ck3 170 rfl 170 rfl (by decide +kernel) (by decide) (by decide) wm_349 wm_350 wm_12 dX11_init_199 cdf3 ?_
  refine qr_dup 202 203 rfl rfl dX11_init_202 ?_
  refine qr_aload_n 203 204 rfl (x := 169) rfl dX11_init_203 ?_
  refine cc_C 204 207 rfl (av := [qR 169]) ca_X3_init rfl wm_352 wm_351 (by decide) (by omega) rfl rfl (Nat.le_of_ble_eq_true rfl) (by decide) (by decide) dX11_init_204 iX3_170 ?_
  refine cp_f 207 210 rfl ck11 15 (by decide) (by decide +kernel) rfl (by decide) (by decide +kernel) rfl rfl 178 (by decide +kernel) wm_392 rfl dX11_init_207 ?_
  refine qr_aload_n 210 211 rfl (x := 1) rfl dX11_init_210 ?_
  refine cn_o 211 214 rfl ck3 174 rfl 174 rfl (by decide +kernel) (by decide) (by decide) wm_349 wm_350 wm_12 dX11_init_211 cdf3 ?_
  refine qr_dup 214 215 rfl rfl dX11_init_214 ?_
  refine qr_aload_n 215 216 rfl (x := 169) rfl dX11_init_215 ?_
  refine cc_C 216 219 rfl (av := [qR 169]) ca_X3_init rfl wm_352 wm_351 (by decide) (by omega) rfl rfl (Nat.le_of_ble_eq_true rfl) (by decide) (by decide) dX11_init_216 iX3_174 ?_
  refine cp_f 219 222 rfl ck11 16 (by decide) (by decide +kernel) rfl (by decide) (by decide +kernel) rfl rfl 183 (by decide +kernel) wm_393 rfl dX11_init_219 ?_
  exact qr_return 222 rfl dX11_init_222 ⟨rfl, rfl⟩

theorem iX12_178 : q_Con yX12_init mX12_init 2 [qR 178] 178 (q_Mz 184) 207 (q_pz 218) := by
  refine q_start (by decide +kernel) rfl (fun _ => rfl) (ls := [some (qR 178)]) rfl (Nat.le_of_ble_eq_true rfl) (fun d hd => ?_)
  refine qr_aload_n 0 1 rfl (x := 178) rfl dX12_init_0 ?_
  refine qr_oinit 1 4 rfl (by decide) wm_1321 wm_29 wm_30 (by omega) (Nat.le_of_ble_eq_true rfl) dX12_init_1 ?_
  refine qr_aload_n 4 5 rfl (x := 178) rfl dX12_init_4 ?_
  refine qr_sipush 5 8 rfl (q_l32 _ rfl) (by decide) dX12_init_5 ?_
  refine cn_a 8 10 rfl q_nw14 179 rfl 179 rfl (by decide +kernel) (by decide +kernel) (by decide) (by decide) (by decide) wx_int dX12_init_8 ?_
  refine cp_f 10 13 rfl ck12 1 (by decide) (by decide +kernel) rfl (by decide) (by decide +kernel) rfl rfl 184 (by decide +kernel) wm_1327 rfl dX12_init_10 ?_
  refine qr_aload_n 13 14 rfl (x := 178) rfl dX12_init_13 ?_
  refine qr_iconst 14 15 rfl (q_l32 _ rfl) dX12_init_14 ?_
  refine cn_a 15 17 rfl q_nw16 180 rfl 180 rfl (by decide +kernel) (by decide +kernel) (by decide) (by decide) (by decide) wx_boolean dX12_init_15 ?_
  refine cp_f 17 20 rfl ck12 2 (by decide) (by decide +kernel) rfl (by decide) (by decide +kernel) rfl rfl 185 (by decide +kernel) wm_1328 rfl dX12_init_17 ?_
  refine qr_aload_n 20 21 rfl (x := 178) rfl dX12_init_20 ?_
  refine qr_sipush 21 24 rfl (q_l32 _ rfl) (by decide) dX12_init_21 ?_
  refine cn_a 24 26 rfl q_nw14 181 rfl 181 rfl (by decide +kernel) (by decide +kernel) (by decide) (by decide) (by decide) wx_int dX12_init_24 ?_
  refine cp_f 26 29 rfl ck12 3 (by decide) (by decide +kernel) rfl (by decide) (by decide +kernel) rfl rfl 186 (by decide +kernel) wm_1329 rfl dX12_init_26 ?_
  refine qr_aload_n 29 30 rfl (x := 178) rfl dX12_init_29 ?_
  refine qr_sipush 30 33 rfl (q_l32 _ rfl) (by decide) dX12_init_30 ?_
  refine cn_a 33 35 rfl q_nw14 182 rfl 182 rfl (by decide +kernel) (by decide +kernel) (by decide) (by decide) (by decide) wx_int dX12_init_33 ?_
  refine cp_f 35 38 rfl ck12 4 (by decide) (by decide +kernel) rfl (by decide) (by decide +kernel) rfl rfl 187 (by decide +kernel) wm_1330 rfl dX12_init_35 ?_
  refine qr_aload_n 38 39 rfl (x := 178) rfl dX12_init_38 ?_
  refine qr_bipush 39 41 rfl (q_l32 _ rfl) (by decide) dX12_init_39 ?_
  refine cn_a 41 43 rfl q_nw14 183 rfl 183 rfl (by decide +kernel) (by decide +kernel) (by decide) (by decide) (by decide) wx_int dX12_init_41 ?_
  refine cp_f 43 46 rfl ck12 5 (by decide) (by decide +kernel) rfl (by decide) (by decide +kernel) rfl rfl 188 (by decide +kernel) wm_1331 rfl dX12_init_43 ?_
  refine qr_aload_n 46 47 rfl (x := 178) rfl dX12_init_46 ?_
  refine qr_sipush 47 50 rfl (q_l32 _ rfl) (by decide) dX12_init_47 ?_
  refine cn_a 50 52 rfl q_nw14 184 rfl 184 rfl (by decide +kernel) (by decide +kernel) (by decide) (by decide) (by decide) wx_int dX12_init_50 ?_
  refine cp_f 52 55 rfl ck12 6 (by decide) (by decide +kernel) rfl (by decide) (by decide +kernel) rfl rfl 189 (by decide +kernel) wm_1332 rfl dX12_init_52 ?_
  refine qr_aload_n 55 56 rfl (x := 178) rfl dX12_init_55 ?_
  refine qr_iconst 56 57 rfl (q_l32 _ rfl) dX12_init_56 ?_
  refine cp_i 57 60 rfl ck12 16 (by decide) (by decide +kernel) rfl rfl 190 (by decide +kernel) wm_1342 rfl dX12_init_57 ?_
  refine qr_aload_n 60 61 rfl (x := 178) rfl dX12_init_60 ?_
  refine qr_sipush 61 64 rfl (q_l32 _ rfl) (by decide) dX12_init_61 ?_
  refine cn_a 64 66 rfl q_nw14 185 rfl 185 rfl (by decide +kernel) (by decide +kernel) (by decide) (by decide) (by decide) wx_int dX12_init_64 ?_
  refine cp_f 66 69 rfl ck12 17 (by decide) (by decide +kernel) rfl (by decide) (by decide +kernel) rfl rfl 191 (by decide +kernel) wm_1343 rfl dX12_init_66 ?_
  refine qr_aload_n 69 70 rfl (x := 178) rfl dX12_init_69 ?_
  refine qr_iconst 70 71 rfl (q_l32 _ rfl) dX12_init_70 ?_
  refine cn_a 71 73 rfl q_nw14 186 rfl 186 rfl (by decide +kernel) (by decide +kernel) (by decide) (by decide) (by decide) wx_int dX12_init_71 ?_
  refine cp_f 73 76 rfl ck12 18 (by decide) (by decide +kernel) rfl (by decide) (by decide +kernel) rfl rfl 192 (by decide +kernel) wm_1344 rfl dX12_init_73 ?_
  refine qr_aload_n 76 77 rfl (x := 178) rfl dX12_init_76 ?_
  refine qr_bipush 77 79 rfl (q_l32 _ rfl) (by decide) dX12_init_77 ?_
  refine cn_a 79 81 rfl q_nw14 187 rfl 187 rfl (by decide +kernel) (by decide +kernel) (by decide) (by decide) (by decide) wx_int dX12_init_79 ?_
  refine cp_f 81 84 rfl ck12 19 (by decide) (by decide +kernel) rfl (by decide) (by decide +kernel) rfl rfl 193 (by decide +kernel) wm_1345 rfl dX12_init_81 ?_
  refine qr_aload_n 84 85 rfl (x := 178) rfl dX12_init_84 ?_
  refine qr_bipush 85 87 rfl (q_l32 _ rfl) (by decide) dX12_init_85 ?_
  refine cn_a 87 89 rfl q_nw14 188 rfl 188 rfl (by decide +kernel) (by decide +kernel) (by decide) (by decide) (by decide) wx_int dX12_init_87 ?_
  refine cp_f 89 92 rfl ck12 20 (by decide) (by decide +kernel) rfl (by decide) (by decide +kernel) rfl rfl 194 (by decide +kernel) wm_1346 rfl dX12_init_89 ?_
  refine qr_aload_n 92 93 rfl (x := 178) rfl dX12_init_92 ?_
  refine qr_bipush 93 95 rfl (q_l32 _ rfl) (by decide) dX12_init_93 ?_
  refine cn_a 95 97 rfl q_nw14 189 rfl 189 rfl (by decide +kernel) (by decide +kernel) (by decide) (by decide) (by decide) wx_int dX12_init_95 ?_
  refine cp_f 97 100 rfl ck12 21 (by decide) (by decide +kernel) rfl (by decide) (by decide +kernel) rfl rfl 195 (by decide +kernel) wm_1347 rfl dX12_init_97 ?_
  refine qr_aload_n 100 101 rfl (x := 178) rfl dX12_init_100 ?_
  refine qr_bipush 101 103 rfl (q_l32 _ rfl) (by decide) dX12_init_101 ?_
  refine cn_a 103 105 rfl q_nw14 190 rfl 190 rfl (by decide +kernel) (by decide +kernel) (by decide) (by decide) (by decide) wx_int dX12_init_103 ?_
  refine cp_f 105 108 rfl ck12 22 (by decide) (by decide +kernel) rfl (by decide) (by decide +kernel) rfl rfl 196 (by decide +kernel) wm_1348 rfl dX12_init_105 ?_
  refine qr_aload_n 108 109 rfl (x := 178) rfl dX12_init_108 ?_
  refine qr_bipush 109 111 rfl (q_l32 _ rfl) (by decide) dX12_init_109 ?_
  refine cn_a 111 113 rfl q_nw14 191 rfl 191 rfl (by decide +kernel) (by decide +kernel) (by decide) (by decide) (by decide) wx_int dX12_init_111 ?_
  refine cp_f 113 116 rfl ck12 23 (by decide) (by decide +kernel) rfl (by decide) (by decide +kernel) rfl rfl 197 (by decide +kernel) wm_1349 rfl dX12_init_113 ?_
  refine qr_aload_n 116 117 rfl (x := 178) rfl dX12_init_116 ?_
  refine qr_bipush 117 119 rfl (q_l32 _ rfl) (by decide) dX12_init_117 ?_
  refine cn_a 119 121 rfl q_nw16 192 rfl 192 rfl (by decide +kernel) (by decide +kernel) (by decide) (by decide) (by decide) wx_boolean dX12_init_119 ?_
  refine cp_f 121 124 rfl ck12 24 (by decide) (by decide +kernel) rfl (by decide) (by decide +kernel) rfl rfl 198 (by decide +kernel) wm_1350 rfl dX12_init_121 ?_
  refine qr_aload_n 124 125 rfl (x := 178) rfl dX12_init_124 ?_
  refine qr_bipush 125 127 rfl (q_l32 _ rfl) (by decide) dX12_init_125 ?_
  refine cn_a 127 129 rfl q_nw14 193 rfl 193 rfl (by decide +kernel) (by decide +kernel) (by decide) (by decide) (by decide) wx_int dX12_init_127 ?_
  refine cp_f 129 132 rfl ck12 27 (by decide) (by decide +kernel) rfl (by decide) (by decide +kernel) rfl rfl 199 (by decide +kernel) wm_1353 rfl dX12_init_129 ?_
  refine qr_aload_n 132 133 rfl (x := 178) rfl dX12_init_132 ?_
  refine qr_sipush 133 136 rfl (q_l32 _ rfl) (by decide) dX12_init_133 ?_
  refine cn_a 136 138 rfl q_nw14 194 rfl 194 rfl (by decide +kernel) (by decide +kernel) (by decide) (by decide) (by decide) wx_int dX12_init_136 ?_
  refine cp_f 138 141 rfl ck12 29 (by decide) (by decide +kernel) rfl (by decide) (by decide +kernel) rfl rfl 200 (by decide +kernel) wm_1355 rfl dX12_init_138 ?_
  refine qr_aload_n 141 142 rfl (x := 178) rfl dX12_init_141 ?_
  refine qr_bipush 142 144 rfl (q_l32 _ rfl) (by decide) dX12_init_142 ?_
  refine cn_a 144 146 rfl q_nw14 195 rfl 195 rfl (by decide +kernel) (by decide +kernel) (by decide) (by decide) (by decide) wx_int dX12_init_144 ?_
  refine cp_f 146 149 rfl ck12 30 (by decide) (by decide +kernel) rfl (by decide) (by decide +kernel) rfl rfl 201 (by decide +kernel) wm_1356 rfl dX12_init_146 ?_
  refine qr_aload_n 149 150 rfl (x := 178) rfl dX12_init_149 ?_
  refine qr_bipush 150 152 rfl (q_l32 _ rfl) (by decide) dX12_init_150 ?_
  refine cn_a 152 154 rfl q_nw14 196 rfl 196 rfl (by decide +kernel) (by decide +kernel) (by decide) (by decide) (by decide) wx_int dX12_init_152 ?_
  refine cp_f 154 157 rfl ck12 31 (by decide) (by decide +kernel) rfl (by decide) (by decide +kernel) rfl rfl 202 (by decide +kernel) wm_1357 rfl dX12_init_154 ?_
  refine qr_aload_n 157 158 rfl (x := 178) rfl dX12_init_157 ?_
  refine qr_ldc 158 160 rfl (v := 65536) (q_l32 _ rfl) wm_1322 dX12_init_158 ?_
  refine cn_a 160 162 rfl q_nw14 197 rfl 197 rfl (by decide +kernel) (by decide +kernel) (by decide) (by decide) (by decide) wx_int dX12_init_160 ?_
  refine cp_f 162 165 rfl ck12 32 (by decide) (by decide +kernel) rfl (by decide) (by decide +kernel) rfl rfl 203 (by decide +kernel) wm_1358 rfl dX12_init_162 ?_
  refine qr_aload_n 165 166 rfl (x := 178) rfl dX12_init_165 ?_
  refine qr_bipush 166 168 rfl (q_l32 _ rfl) (by decide) dX12_init_166 ?_
  refine cn_a 168 170 rfl q_nw14 198 rfl 198 rfl (by decide +kernel) (by decide +kernel) (by decide) (by decide) (by decide) wx_int dX12_init_168 ?_
  refine cp_f 170 173 rfl ck12 33 (by decide) (by decide +kernel) rfl (by decide) (by decide +kernel) rfl rfl 204 (by decide +kernel) wm_1359 rfl dX12_init_170 ?_
  refine qr_aload_n 173 174 rfl (x := 178) rfl dX12_init_173 ?_
  refine qr_sipush 174 177 rfl (q_l32 _ rfl) (by decide) dX12_init_174 ?_
  refine cn_a 177 179 rfl q_nw14 199 rfl 199 rfl (by decide +kernel) (by decide +kernel) (by decide) (by decide) (by decide) wx_int dX12_init_177 ?_
  refine cp_f 179 182 rfl ck12 36 (by decide) (by decide +kernel) rfl (by decide) (by decide +kernel) rfl rfl 205 (by decide +kernel) wm_1362 rfl dX12_init_179 ?_
  refine qr_aload_n 182 183 rfl (x := 178) rfl dX12_init_182 ?_
  refine qr_sipush 183 186 rfl (q_l32 _ rfl) (by decide) dX12_init_183 ?_
  refine cn_a 186 188 rfl q_nw14 200 rfl 200 rfl (by decide +kernel) (by decide +kernel) (by decide) (by decide) (by decide) wx_int dX12_init_186 ?_
  refine cp_f 188 191 rfl ck12 37 (by decide) (by decide +kernel) rfl (by decide) (by decide +kernel) rfl rfl 206 (by decide +kernel) wm_1363 rfl dX12_init_188 ?_
  refine qr_aload_n 191 192 rfl (x := 178) rfl dX12_init_191 ?_
  refine qr_sipush 192 195 rfl (q_l32 _ rfl) (by decide) dX12_init_192 ?_
  refine cn_a 195 197 rfl q_nw14 201 rfl 201 rfl (by decide +kernel) (by decide +kernel) (by decide) (by decide) (by decide) wx_int dX12_init_195 ?_
  refine cp_f 197 200 rfl ck12 38 (by decide) (by decide +kernel) rfl (by decide) (by decide +kernel) rfl rfl 207 (by decide +kernel) wm_1364 rfl dX12_init_197 ?_
  refine qr_aload_n 200 201 rfl (x := 178) rfl dX12_init_200 ?_
  refine qr_bipush 201 203 rfl (q_l32 _ rfl) (by decide) dX12_init_201 ?_
  refine cn_a 203 205 rfl q_nw14 202 rfl 202 rfl (by decide +kernel) (by decide +kernel) (by decide) (by decide) (by decide) wx_int dX12_init_203 ?_
  refine cp_f 205 208 rfl ck12 42 (by decide) (by decide +kernel) rfl (by decide) (by decide +kernel) rfl rfl 208 (by decide +kernel) wm_1368 rfl dX12_init_205 ?_
  refine qr_aload_n 208 209 rfl (x := 178) rfl dX12_init_208 ?_
  refine qr_sipush 209 212 rfl (q_l32 _ rfl) (by decide) dX12_init_209 ?_
  refine cn_a 212 214 rfl q_nw15 203 rfl 203 rfl (by decide +kernel) (by decide +kernel) (by decide) (by decide) (by decide) wx_long dX12_init_212 ?_
  refine cp_f 214 217 rfl ck12 43 (by decide) (by decide +kernel) rfl (by decide) (by decide +kernel) rfl rfl 209 (by decide +kernel) wm_1369 rfl dX12_init_214 ?_
  refine qr_aload_n 217 218 rfl (x := 178) rfl dX12_init_217 ?_
  refine qr_sipush 218 221 rfl (q_l32 _ rfl) (by decide) dX12_init_218 ?_
  refine cn_a 221 223 rfl q_nw15 204 rfl 204 rfl (by decide +kernel) (by decide +kernel) (by decide) (by decide) (by decide) wx_long dX12_init_221 ?_
  refine cp_f 223 226 rfl ck12 44 (by decide) (by decide +kernel) rfl (by decide) (by decide +kernel) rfl rfl 210 (by decide +kernel) wm_1370 rfl dX12_init_223 ?_
  refine qr_aload_n 226 227 rfl (x := 178) rfl dX12_init_226 ?_
  refine qr_iconst 227 228 rfl (q_l32 _ rfl) dX12_init_227 ?_
  refine cn_a 228 230 rfl q_nw14 205 rfl 205 rfl (by decide +kernel) (by decide +kernel) (by decide) (by decide) (by decide) wx_int dX12_init_228 ?_
  refine qr_dup 230 231 rfl rfl dX12_init_230 ?_
  refine qr_iconst 231 232 rfl (q_l32 _ rfl) dX12_init_231 ?_
  refine qr_iconst 232 233 rfl (q_l32 _ rfl) dX12_init_232 ?_
  refine ca_i 233 234 rfl (by decide +kernel) (by decide) (by decide +kernel) 211 (by decide +kernel) dX12_init_233 ?_
  refine qr_dup 234 235 rfl rfl dX12_init_234 ?_
  refine qr_iconst 235 236 rfl (q_l32 _ rfl) dX12_init_235 ?_
  refine qr_iconst 236 237 rfl (q_l32 _ rfl) dX12_init_236 ?_
  refine ca_i 237 238 rfl (by decide +kernel) (by decide) (by decide +kernel) 212 (by decide +kernel) dX12_init_237 ?_
  refine qr_dup 238 239 rfl rfl dX12_init_238 ?_
  refine qr_iconst 239 240 rfl (q_l32 _ rfl) dX12_init_239 ?_
  refine qr_iconst 240 241 rfl (q_l32 _ rfl) dX12_init_240 ?_
  refine ca_i 241 242 rfl (by decide +kernel) (by decide) (by decide +kernel) 213 (by decide +kernel) dX12_init_241 ?_
  refine qr_dup 242 243 rfl rfl dX12_init_242 ?_
  refine qr_iconst 243 244 rfl (q_l32 _ rfl) dX12_init_243 ?_
  refine qr_iconst 244 245 rfl (q_l32 _ rfl) dX12_init_244 ?_
  refine ca_i 245 246 rfl (by decide +kernel) (by decide) (by decide +kernel) 214 (by decide +kernel) dX12_init_245 ?_
  refine cp_f 246 249 rfl ck12 45 (by decide) (by decide +kernel) rfl (by decide) (by decide +kernel) rfl rfl 215 (by decide +kernel) wm_1371 rfl dX12_init_246 ?_
  refine qr_aload_n 249 250 rfl (x := 178) rfl dX12_init_249 ?_
  refine qr_iconst 250 251 rfl (q_l32 _ rfl) dX12_init_250 ?_
  refine cn_a 251 253 rfl q_nw14 206 rfl 206 rfl (by decide +kernel) (by decide +kernel) (by decide) (by decide) (by decide) wx_int dX12_init_251 ?_
  refine cp_f 253 256 rfl ck12 46 (by decide) (by decide +kernel) rfl (by decide) (by decide +kernel) rfl rfl 216 (by decide +kernel) wm_1372 rfl dX12_init_253 ?_
  refine qr_aload_n 256 257 rfl (x := 178) rfl dX12_init_256 ?_
  refine qr_sipush 257 260 rfl (q_l32 _ rfl) (by decide) dX12_init_257 ?_
  refine cn_l 260 262 265 rfl rfl ck12 47 (by decide) (by decide +kernel) rfl rfl rfl rfl wm_1373 rfl 217 (by decide +kernel) 207 rfl 207 rfl (by decide +kernel) (by decide +kernel) (by decide) (by decide) wx_long dX12_init_260 dX12_init_262 rfl ?_
  refine qr_aload_n 265 266 rfl (x := 178) rfl dX12_init_265 ?_
  refine cg_r 266 269 rfl ck12 1 (by decide) (by decide +kernel) (by decide +kernel) (v := 179) (by decide +kernel) wm_1327 rfl dX12_init_266 ?_
  refine cc_pl 269 272 rfl wm_1324 wm_1323 (by omega) dX12_init_269 (by decide +kernel) (Nat.le_of_ble_eq_true rfl) ?_
  exact qr_return 272 rfl dX12_init_272 ⟨rfl, rfl⟩

