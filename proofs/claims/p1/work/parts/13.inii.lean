theorem dX2_init_0 : decode cX2_init 0 = .ok (.aload_n 0, 1) := by decide +kernel
theorem dX2_init_1 : decode cX2_init 1 = .ok (.invokespecial 3, 3) := by decide +kernel
theorem dX2_init_4 : decode cX2_init 4 = .ok (.aload_n 0, 1) := by decide +kernel
theorem dX2_init_5 : decode cX2_init 5 = .ok (.iconst 2, 1) := by decide +kernel
theorem dX2_init_6 : decode cX2_init 6 = .ok (.putfield 9, 3) := by decide +kernel
theorem dX2_init_9 : decode cX2_init 9 = .ok (.aload_n 0, 1) := by decide +kernel
theorem dX2_init_10 : decode cX2_init 10 = .ok (.iconst 0, 1) := by decide +kernel
theorem dX2_init_11 : decode cX2_init 11 = .ok (.putfield 15, 3) := by decide +kernel
theorem dX2_init_14 : decode cX2_init 14 = .ok (.aload_n 0, 1) := by decide +kernel
theorem dX2_init_15 : decode cX2_init 15 = .ok (.iconst 0, 1) := by decide +kernel
theorem dX2_init_16 : decode cX2_init 16 = .ok (.putfield 18, 3) := by decide +kernel
theorem dX2_init_19 : decode cX2_init 19 = .ok (.aload_n 0, 1) := by decide +kernel
theorem dX2_init_20 : decode cX2_init 20 = .ok (.iconst 0, 1) := by decide +kernel
theorem dX2_init_21 : decode cX2_init 21 = .ok (.putfield 21, 3) := by decide +kernel
theorem dX2_init_24 : decode cX2_init 24 = .ok (.aload_n 0, 1) := by decide +kernel
theorem dX2_init_25 : decode cX2_init 25 = .ok (.iconst 0, 1) := by decide +kernel
theorem dX2_init_26 : decode cX2_init 26 = .ok (.putfield 24, 3) := by decide +kernel
theorem dX2_init_29 : decode cX2_init 29 = .ok (.aload_n 0, 1) := by decide +kernel
theorem dX2_init_30 : decode cX2_init 30 = .ok (.iconst 0, 1) := by decide +kernel
theorem dX2_init_31 : decode cX2_init 31 = .ok (.putfield 27, 3) := by decide +kernel
theorem dX2_init_34 : decode cX2_init 34 = .ok (.aload_n 0, 1) := by decide +kernel
theorem dX2_init_35 : decode cX2_init 35 = .ok (.iconst 0, 1) := by decide +kernel
theorem dX2_init_36 : decode cX2_init 36 = .ok (.putfield 31, 3) := by decide +kernel
theorem dX2_init_39 : decode cX2_init 39 = .ok (.aload_n 0, 1) := by decide +kernel
theorem dX2_init_40 : decode cX2_init 40 = .ok (.iconst 0, 1) := by decide +kernel
theorem dX2_init_41 : decode cX2_init 41 = .ok (.putfield 34, 3) := by decide +kernel
theorem dX2_init_44 : decode cX2_init 44 = .ok (.aload_n 0, 1) := by decide +kernel
theorem dX2_init_45 : decode cX2_init 45 = .ok (.lconst 0, 1) := by decide +kernel
theorem dX2_init_46 : decode cX2_init 46 = .ok (.putfield 37, 3) := by decide +kernel
theorem dX2_init_49 : decode cX2_init 49 = .ok (.aload_n 0, 1) := by decide +kernel
theorem dX2_init_50 : decode cX2_init 50 = .ok (.bipush 30, 2) := by decide +kernel
theorem dX2_init_52 : decode cX2_init 52 = .ok (.newarray .int, 2) := by decide +kernel
theorem dX2_init_54 : decode cX2_init 54 = .ok (.putfield 41, 3) := by decide +kernel
theorem dX2_init_57 : decode cX2_init 57 = .ok (.aload_n 0, 1) := by decide +kernel
theorem dX2_init_58 : decode cX2_init 58 = .ok (.bipush 30, 2) := by decide +kernel
theorem dX2_init_60 : decode cX2_init 60 = .ok (.newarray .int, 2) := by decide +kernel
theorem dX2_init_62 : decode cX2_init 62 = .ok (.putfield 45, 3) := by decide +kernel
theorem dX2_init_65 : decode cX2_init 65 = .ok (.aload_n 0, 1) := by decide +kernel
theorem dX2_init_66 : decode cX2_init 66 = .ok (.iconst 4, 1) := by decide +kernel
theorem dX2_init_67 : decode cX2_init 67 = .ok (.newarray .int, 2) := by decide +kernel
theorem dX2_init_69 : decode cX2_init 69 = .ok (.dup, 1) := by decide +kernel
theorem dX2_init_70 : decode cX2_init 70 = .ok (.iconst 0, 1) := by decide +kernel
theorem dX2_init_71 : decode cX2_init 71 = .ok (.iconst 0, 1) := by decide +kernel
theorem dX2_init_72 : decode cX2_init 72 = .ok (.iastore, 1) := by decide +kernel
theorem dX2_init_73 : decode cX2_init 73 = .ok (.dup, 1) := by decide +kernel
theorem dX2_init_74 : decode cX2_init 74 = .ok (.iconst 1, 1) := by decide +kernel
theorem dX2_init_75 : decode cX2_init 75 = .ok (.iconst 1, 1) := by decide +kernel
theorem dX2_init_76 : decode cX2_init 76 = .ok (.iastore, 1) := by decide +kernel
theorem dX2_init_77 : decode cX2_init 77 = .ok (.dup, 1) := by decide +kernel
theorem dX2_init_78 : decode cX2_init 78 = .ok (.iconst 2, 1) := by decide +kernel
theorem dX2_init_79 : decode cX2_init 79 = .ok (.iconst 2, 1) := by decide +kernel
theorem dX2_init_80 : decode cX2_init 80 = .ok (.iastore, 1) := by decide +kernel
theorem dX2_init_81 : decode cX2_init 81 = .ok (.dup, 1) := by decide +kernel
theorem dX2_init_82 : decode cX2_init 82 = .ok (.iconst 3, 1) := by decide +kernel
theorem dX2_init_83 : decode cX2_init 83 = .ok (.iconst 3, 1) := by decide +kernel
theorem dX2_init_84 : decode cX2_init 84 = .ok (.iastore, 1) := by decide +kernel
theorem dX2_init_85 : decode cX2_init 85 = .ok (.putfield 48, 3) := by decide +kernel
theorem dX2_init_88 : decode cX2_init 88 = .ok (.aload_n 0, 1) := by decide +kernel
theorem dX2_init_89 : decode cX2_init 89 = .ok (.sipush 384, 3) := by decide +kernel
theorem dX2_init_92 : decode cX2_init 92 = .ok (.newarray .byte, 2) := by decide +kernel
theorem dX2_init_94 : decode cX2_init 94 = .ok (.putfield 51, 3) := by decide +kernel
theorem dX2_init_97 : decode cX2_init 97 = .ok (.aload_n 0, 1) := by decide +kernel
theorem dX2_init_98 : decode cX2_init 98 = .ok (.iconst 0, 1) := by decide +kernel
theorem dX2_init_99 : decode cX2_init 99 = .ok (.newarray .byte, 2) := by decide +kernel
theorem dX2_init_101 : decode cX2_init 101 = .ok (.putfield 55, 3) := by decide +kernel
theorem dX2_init_104 : decode cX2_init 104 = .ok (.aload_n 0, 1) := by decide +kernel
theorem dX2_init_105 : decode cX2_init 105 = .ok (.iconst 0, 1) := by decide +kernel
theorem dX2_init_106 : decode cX2_init 106 = .ok (.newarray .byte, 2) := by decide +kernel
theorem dX2_init_108 : decode cX2_init 108 = .ok (.putfield 58, 3) := by decide +kernel
theorem dX2_init_111 : decode cX2_init 111 = .ok (.return_, 1) := by decide +kernel
theorem dX7_init_0 : decode cX7_init 0 = .ok (.aload_n 0, 1) := by decide +kernel
theorem dX7_init_1 : decode cX7_init 1 = .ok (.invokespecial 3, 3) := by decide +kernel
theorem dX7_init_4 : decode cX7_init 4 = .ok (.aload_n 0, 1) := by decide +kernel
theorem dX7_init_5 : decode cX7_init 5 = .ok (.iconst 0, 1) := by decide +kernel
theorem dX7_init_6 : decode cX7_init 6 = .ok (.newarray .int, 2) := by decide +kernel
theorem dX7_init_8 : decode cX7_init 8 = .ok (.putfield 9, 3) := by decide +kernel
theorem dX7_init_11 : decode cX7_init 11 = .ok (.aload_n 0, 1) := by decide +kernel
theorem dX7_init_12 : decode cX7_init 12 = .ok (.bipush 6, 2) := by decide +kernel
theorem dX7_init_14 : decode cX7_init 14 = .ok (.newarray .long, 2) := by decide +kernel
theorem dX7_init_16 : decode cX7_init 16 = .ok (.putfield 15, 3) := by decide +kernel
theorem dX7_init_19 : decode cX7_init 19 = .ok (.aload_n 0, 1) := by decide +kernel
theorem dX7_init_20 : decode cX7_init 20 = .ok (.sipush 1920, 3) := by decide +kernel
theorem dX7_init_23 : decode cX7_init 23 = .ok (.newarray .int, 2) := by decide +kernel
theorem dX7_init_25 : decode cX7_init 25 = .ok (.putfield 19, 3) := by decide +kernel
theorem dX7_init_28 : decode cX7_init 28 = .ok (.return_, 1) := by decide +kernel
theorem dX3_init_0 : decode cX3_init 0 = .ok (.aload_n 0, 1) := by decide +kernel
theorem dX3_init_1 : decode cX3_init 1 = .ok (.invokespecial 3, 3) := by decide +kernel
theorem dX3_init_4 : decode cX3_init 4 = .ok (.aload_n 0, 1) := by decide +kernel
theorem dX3_init_5 : decode cX3_init 5 = .ok (.bipush 41, 2) := by decide +kernel
theorem dX3_init_7 : decode cX3_init 7 = .ok (.newarray .long, 2) := by decide +kernel
theorem dX3_init_9 : decode cX3_init 9 = .ok (.putfield 9, 3) := by decide +kernel
theorem dX3_init_12 : decode cX3_init 12 = .ok (.aload_n 0, 1) := by decide +kernel
theorem dX3_init_13 : decode cX3_init 13 = .ok (.bipush 41, 2) := by decide +kernel
theorem dX3_init_15 : decode cX3_init 15 = .ok (.newarray .int, 2) := by decide +kernel
theorem dX3_init_17 : decode cX3_init 17 = .ok (.putfield 15, 3) := by decide +kernel
theorem dX3_init_20 : decode cX3_init 20 = .ok (.aload_n 0, 1) := by decide +kernel
theorem dX3_init_21 : decode cX3_init 21 = .ok (.iconst 0, 1) := by decide +kernel
theorem dX3_init_22 : decode cX3_init 22 = .ok (.putfield 19, 3) := by decide +kernel
theorem dX3_init_25 : decode cX3_init 25 = .ok (.aload_n 0, 1) := by decide +kernel
theorem dX3_init_26 : decode cX3_init 26 = .ok (.iconst 0, 1) := by decide +kernel
theorem dX3_init_27 : decode cX3_init 27 = .ok (.putfield 23, 3) := by decide +kernel
theorem dX3_init_30 : decode cX3_init 30 = .ok (.return_, 1) := by decide +kernel
theorem dX6_init_0 : decode cX6_init 0 = .ok (.aload_n 0, 1) := by decide +kernel
theorem dX6_init_1 : decode cX6_init 1 = .ok (.invokespecial 3, 3) := by decide +kernel
theorem dX6_init_4 : decode cX6_init 4 = .ok (.aload_n 0, 1) := by decide +kernel
theorem dX6_init_5 : decode cX6_init 5 = .ok (.bipush 30, 2) := by decide +kernel
theorem dX6_init_7 : decode cX6_init 7 = .ok (.newarray .int, 2) := by decide +kernel
theorem dX6_init_9 : decode cX6_init 9 = .ok (.putfield 9, 3) := by decide +kernel
theorem dX6_init_12 : decode cX6_init 12 = .ok (.aload_n 0, 1) := by decide +kernel
theorem dX6_init_13 : decode cX6_init 13 = .ok (.iconst 0, 1) := by decide +kernel
theorem dX6_init_14 : decode cX6_init 14 = .ok (.putfield 15, 3) := by decide +kernel
theorem dX6_init_17 : decode cX6_init 17 = .ok (.return_, 1) := by decide +kernel
theorem dX1_init_0 : decode cX1_init 0 = .ok (.aload_n 0, 1) := by decide +kernel
theorem dX1_init_1 : decode cX1_init 1 = .ok (.invokespecial 3, 3) := by decide +kernel
theorem dX1_init_4 : decode cX1_init 4 = .ok (.aload_n 0, 1) := by decide +kernel
theorem dX1_init_5 : decode cX1_init 5 = .ok (.iconst 0, 1) := by decide +kernel
theorem dX1_init_6 : decode cX1_init 6 = .ok (.newarray .long, 2) := by decide +kernel
theorem dX1_init_8 : decode cX1_init 8 = .ok (.putfield 9, 3) := by decide +kernel
theorem dX1_init_11 : decode cX1_init 11 = .ok (.aload_n 0, 1) := by decide +kernel
theorem dX1_init_12 : decode cX1_init 12 = .ok (.iconst 0, 1) := by decide +kernel
theorem dX1_init_13 : decode cX1_init 13 = .ok (.putfield 15, 3) := by decide +kernel
theorem dX1_init_16 : decode cX1_init 16 = .ok (.return_, 1) := by decide +kernel
theorem dX5_init_0 : decode cX5_init 0 = .ok (.aload_n 0, 1) := by decide +kernel
theorem dX5_init_1 : decode cX5_init 1 = .ok (.invokespecial 3, 3) := by decide +kernel
theorem dX5_init_4 : decode cX5_init 4 = .ok (.aload_n 0, 1) := by decide +kernel
theorem dX5_init_5 : decode cX5_init 5 = .ok (.iconst 0, 1) := by decide +kernel
theorem dX5_init_6 : decode cX5_init 6 = .ok (.newarray .long, 2) := by decide +kernel
theorem dX5_init_8 : decode cX5_init 8 = .ok (.putfield 9, 3) := by decide +kernel
theorem dX5_init_11 : decode cX5_init 11 = .ok (.return_, 1) := by decide +kernel
theorem dX4_init_0 : decode cX4_init 0 = .ok (.aload_n 0, 1) := by decide +kernel
theorem dX4_init_1 : decode cX4_init 1 = .ok (.invokespecial 5, 3) := by decide +kernel
theorem dX4_init_4 : decode cX4_init 4 = .ok (.aload_n 0, 1) := by decide +kernel
theorem dX4_init_5 : decode cX4_init 5 = .ok (.bipush 64, 2) := by decide +kernel
theorem dX4_init_7 : decode cX4_init 7 = .ok (.newarray .long, 2) := by decide +kernel
theorem dX4_init_9 : decode cX4_init 9 = .ok (.putfield 11, 3) := by decide +kernel
theorem dX4_init_12 : decode cX4_init 12 = .ok (.aload_n 0, 1) := by decide +kernel
theorem dX4_init_13 : decode cX4_init 13 = .ok (.bipush 64, 2) := by decide +kernel
theorem dX4_init_15 : decode cX4_init 15 = .ok (.newarray .int, 2) := by decide +kernel
theorem dX4_init_17 : decode cX4_init 17 = .ok (.putfield 15, 3) := by decide +kernel
theorem dX4_init_20 : decode cX4_init 20 = .ok (.aload_n 0, 1) := by decide +kernel
theorem dX4_init_21 : decode cX4_init 21 = .ok (.iconst 0, 1) := by decide +kernel
theorem dX4_init_22 : decode cX4_init 22 = .ok (.newarray .int, 2) := by decide +kernel
theorem dX4_init_24 : decode cX4_init 24 = .ok (.putfield 19, 3) := by decide +kernel
theorem dX4_init_27 : decode cX4_init 27 = .ok (.aload_n 0, 1) := by decide +kernel
theorem dX4_init_28 : decode cX4_init 28 = .ok (.bipush 16, 2) := by decide +kernel
theorem dX4_init_30 : decode cX4_init 30 = .ok (.newarray .int, 2) := by decide +kernel
theorem dX4_init_32 : decode cX4_init 32 = .ok (.putfield 22, 3) := by decide +kernel
theorem dX4_init_35 : decode cX4_init 35 = .ok (.aload_n 0, 1) := by decide +kernel
theorem dX4_init_36 : decode cX4_init 36 = .ok (.bipush 64, 2) := by decide +kernel
theorem dX4_init_38 : decode cX4_init 38 = .ok (.newarray .int, 2) := by decide +kernel
theorem dX4_init_40 : decode cX4_init 40 = .ok (.putfield 25, 3) := by decide +kernel
theorem dX4_init_43 : decode cX4_init 43 = .ok (.return_, 1) := by decide +kernel
theorem dX0_init_0 : decode cX0_init 0 = .ok (.aload_n 0, 1) := by decide +kernel
theorem dX0_init_1 : decode cX0_init 1 = .ok (.invokespecial 3, 3) := by decide +kernel
theorem dX0_init_4 : decode cX0_init 4 = .ok (.aload_n 0, 1) := by decide +kernel
theorem dX0_init_5 : decode cX0_init 5 = .ok (.bipush 31, 2) := by decide +kernel
theorem dX0_init_7 : decode cX0_init 7 = .ok (.newarray .long, 2) := by decide +kernel
theorem dX0_init_9 : decode cX0_init 9 = .ok (.putfield 9, 3) := by decide +kernel
theorem dX0_init_12 : decode cX0_init 12 = .ok (.aload_n 0, 1) := by decide +kernel
theorem dX0_init_13 : decode cX0_init 13 = .ok (.iconst 3, 1) := by decide +kernel
theorem dX0_init_14 : decode cX0_init 14 = .ok (.newarray .int, 2) := by decide +kernel
theorem dX0_init_16 : decode cX0_init 16 = .ok (.putfield 15, 3) := by decide +kernel
theorem dX0_init_19 : decode cX0_init 19 = .ok (.aload_n 0, 1) := by decide +kernel
theorem dX0_init_20 : decode cX0_init 20 = .ok (.iconst 3, 1) := by decide +kernel
theorem dX0_init_21 : decode cX0_init 21 = .ok (.newarray .int, 2) := by decide +kernel
theorem dX0_init_23 : decode cX0_init 23 = .ok (.putfield 19, 3) := by decide +kernel
theorem dX0_init_26 : decode cX0_init 26 = .ok (.return_, 1) := by decide +kernel
theorem dX8_init_0 : decode cX8_init 0 = .ok (.aload_n 0, 1) := by decide +kernel
theorem dX8_init_1 : decode cX8_init 1 = .ok (.invokespecial 3, 3) := by decide +kernel
theorem dX8_init_4 : decode cX8_init 4 = .ok (.aload_n 0, 1) := by decide +kernel
theorem dX8_init_5 : decode cX8_init 5 = .ok (.bipush 30, 2) := by decide +kernel
theorem dX8_init_7 : decode cX8_init 7 = .ok (.newarray .int, 2) := by decide +kernel
theorem dX8_init_9 : decode cX8_init 9 = .ok (.putfield 9, 3) := by decide +kernel
theorem dX8_init_12 : decode cX8_init 12 = .ok (.aload_n 0, 1) := by decide +kernel
theorem dX8_init_13 : decode cX8_init 13 = .ok (.bipush 30, 2) := by decide +kernel
theorem dX8_init_15 : decode cX8_init 15 = .ok (.newarray .int, 2) := by decide +kernel
theorem dX8_init_17 : decode cX8_init 17 = .ok (.putfield 15, 3) := by decide +kernel
theorem dX8_init_20 : decode cX8_init 20 = .ok (.aload_n 0, 1) := by decide +kernel
theorem dX8_init_21 : decode cX8_init 21 = .ok (.bipush 30, 2) := by decide +kernel
theorem dX8_init_23 : decode cX8_init 23 = .ok (.newarray .int, 2) := by decide +kernel
theorem dX8_init_25 : decode cX8_init 25 = .ok (.putfield 18, 3) := by decide +kernel
theorem dX8_init_28 : decode cX8_init 28 = .ok (.aload_n 0, 1) := by decide +kernel
theorem dX8_init_29 : decode cX8_init 29 = .ok (.bipush 30, 2) := by decide +kernel
theorem dX8_init_31 : decode cX8_init 31 = .ok (.newarray .int, 2) := by decide +kernel
theorem dX8_init_33 : decode cX8_init 33 = .ok (.putfield 21, 3) := by decide +kernel
theorem dX8_init_36 : decode cX8_init 36 = .ok (.aload_n 0, 1) := by decide +kernel
theorem dX8_init_37 : decode cX8_init 37 = .ok (.bipush 30, 2) := by decide +kernel
theorem dX8_init_39 : decode cX8_init 39 = .ok (.newarray .int, 2) := by decide +kernel
theorem dX8_init_41 : decode cX8_init 41 = .ok (.putfield 24, 3) := by decide +kernel
theorem dX8_init_44 : decode cX8_init 44 = .ok (.aload_n 0, 1) := by decide +kernel
theorem dX8_init_45 : decode cX8_init 45 = .ok (.iconst 0, 1) := by decide +kernel
theorem dX8_init_46 : decode cX8_init 46 = .ok (.putfield 27, 3) := by decide +kernel
theorem dX8_init_49 : decode cX8_init 49 = .ok (.aload_n 0, 1) := by decide +kernel
theorem dX8_init_50 : decode cX8_init 50 = .ok (.iconst 0, 1) := by decide +kernel
theorem dX8_init_51 : decode cX8_init 51 = .ok (.putfield 31, 3) := by decide +kernel
theorem dX8_init_54 : decode cX8_init 54 = .ok (.aload_n 0, 1) := by decide +kernel
theorem dX8_init_55 : decode cX8_init 55 = .ok (.bipush 31, 2) := by decide +kernel
theorem dX8_init_57 : decode cX8_init 57 = .ok (.newarray .long, 2) := by decide +kernel
theorem dX8_init_59 : decode cX8_init 59 = .ok (.putfield 34, 3) := by decide +kernel
theorem dX8_init_62 : decode cX8_init 62 = .ok (.aload_n 0, 1) := by decide +kernel
theorem dX8_init_63 : decode cX8_init 63 = .ok (.bipush 31, 2) := by decide +kernel
theorem dX8_init_65 : decode cX8_init 65 = .ok (.newarray .long, 2) := by decide +kernel
theorem dX8_init_67 : decode cX8_init 67 = .ok (.putfield 38, 3) := by decide +kernel
theorem dX8_init_70 : decode cX8_init 70 = .ok (.aload_n 0, 1) := by decide +kernel
theorem dX8_init_71 : decode cX8_init 71 = .ok (.bipush 6, 2) := by decide +kernel
theorem dX8_init_73 : decode cX8_init 73 = .ok (.newarray .int, 2) := by decide +kernel
theorem dX8_init_75 : decode cX8_init 75 = .ok (.putfield 41, 3) := by decide +kernel
theorem dX8_init_78 : decode cX8_init 78 = .ok (.aload_n 0, 1) := by decide +kernel
theorem dX8_init_79 : decode cX8_init 79 = .ok (.iconst 0, 1) := by decide +kernel
theorem dX8_init_80 : decode cX8_init 80 = .ok (.putfield 44, 3) := by decide +kernel
theorem dX8_init_83 : decode cX8_init 83 = .ok (.aload_n 0, 1) := by decide +kernel
theorem dX8_init_84 : decode cX8_init 84 = .ok (.bipush 30, 2) := by decide +kernel
theorem dX8_init_86 : decode cX8_init 86 = .ok (.newarray .int, 2) := by decide +kernel
theorem dX8_init_88 : decode cX8_init 88 = .ok (.putfield 48, 3) := by decide +kernel
theorem dX8_init_91 : decode cX8_init 91 = .ok (.return_, 1) := by decide +kernel
set_option maxHeartbeats 4000000 in
set_option maxRecDepth 100000 in
theorem k_X2_init (l : Launch) (D : va_G) (cyB cyI cyJ cyZ : ClassId) (sz : Nat) (dd : Nat) : KV l yX2_init cX2_init 1 1 6 448 D (TYS cyB cyI cyJ cyZ) [(dd, .inr (2, [.int 0, .int 0, .int 0, .int 0, .int 0, .int 0, .int 0, .int 0, .long 0, .null, .null, .null, .null, .null, .null]))] sz [.ref dd] (fun (u : List Value × Nat × Nat × Nat × (Nat → Int32) × (Nat → Int32) × (Nat → Int32)) => u.1.length = 15 ∧ u.1[0]? = some (.int 2) ∧ u.1[1]? = some (.int 0) ∧ u.1[2]? = some (.int 0) ∧ u.1[3]? = some (.int 0) ∧ u.1[5]? = some (.int 0) ∧ u.1[8]? = some (.long 0) ∧ u.1[9]? = some (.ref u.2.1) ∧ u.1[10]? = some (.ref u.2.2.1) ∧ u.1[11]? = some (.ref u.2.2.2.1)) (fun (u : List Value × Nat × Nat × Nat × (Nat → Int32) × (Nat → Int32) × (Nat → Int32)) => ([(dd, .inr (2, u.1)), (u.2.1, .inl (cyI, 30, .inl u.2.2.2.2.1)), (u.2.2.1, .inl (cyI, 30, .inl u.2.2.2.2.2.1)), (u.2.2.2.1, .inl (cyI, 4, .inl u.2.2.2.2.2.2))] : va_W)) := by
  refine entV (by decide) (Nat.le_of_ble_eq_true rfl) ?_
  intro p e s m below meth c ls A hC hl hP hK hD hA
  obtain ⟨hx, hb, hr, hml, hown, hts, hlk, hnm⟩ := id hC
  have hS : va_S A s.heap s.heap [] := va_S.rf
  have hl : lv_has ls 1 [(0, .ref dd)] := hl
  generalize hHe : s.heap = H at hP ⊢
  rw [hHe] at hS
  have hS : va_S A s.heap H [] := by rw [hHe]; exact hS
  refine lv_aload_n hx hb dX2_init_0 rfl (lv_at hl 0 rfl) ?_
  refine W.objInit hx hb hown (hts _ mw_methodLink_RX2_3_objectInit) (hts _ mw_instanceMethod_objectInit) (hts _ mw_code_objectInit_0xb1_1_none) rfl (by rw [hml]; exact hl.1) rfl dX2_init_1 (Nat.le_of_ble_eq_true rfl) (Nat.le_of_ble_eq_true rfl) ?_
  refine W.eq (g2 := F0 m 4 ls []) rfl ?_
  refine lv_aload_n hx hb dX2_init_4 rfl (lv_at hl 0 rfl) ?_
  refine lv_iconst (v := 2) hx hb dX2_init_5 (by decide) ?_
  refine pf (v := .int 2) hC hK hP hD hS iX2 tyX2_ok nmX2 0 rfl rfl 0 (by decide) mw_fieldLink_RX2_9_MirrorDrill_Drill_moves_I rfl rfl rfl (Nat.le_of_ble_eq_true rfl) dX2_init_6 (fun H locs hP hD hS => ?_)
  have hP : va_P D classes [(dd, .inr (2, [.int 2, .int 0, .int 0, .int 0, .int 0, .int 0, .int 0, .int 0, .long 0, .null, .null, .null, .null, .null, .null]))] H := hP
  have hD : va_D A [(dd, .inr (2, [.int 2, .int 0, .int 0, .int 0, .int 0, .int 0, .int 0, .int 0, .long 0, .null, .null, .null, .null, .null, .null]))] := hD
  refine lv_aload_n hx hb dX2_init_9 rfl (lv_at hl 0 rfl) ?_
  refine lv_iconst (v := 0) hx hb dX2_init_10 (by decide) ?_
  refine pf (v := .int 0) hC hK hP hD hS iX2 tyX2_ok nmX2 0 rfl rfl 1 (by decide) mw_fieldLink_RX2_15_MirrorDrill_Drill_men_I rfl rfl rfl (Nat.le_of_ble_eq_true rfl) dX2_init_11 (fun H locs hP hD hS => ?_)
  have hP : va_P D classes [(dd, .inr (2, [.int 2, .int 0, .int 0, .int 0, .int 0, .int 0, .int 0, .int 0, .long 0, .null, .null, .null, .null, .null, .null]))] H := hP
  have hD : va_D A [(dd, .inr (2, [.int 2, .int 0, .int 0, .int 0, .int 0, .int 0, .int 0, .int 0, .long 0, .null, .null, .null, .null, .null, .null]))] := hD
  refine lv_aload_n hx hb dX2_init_14 rfl (lv_at hl 0 rfl) ?_
  refine lv_iconst (v := 0) hx hb dX2_init_15 (by decide) ?_
  refine pf (v := .int 0) hC hK hP hD hS iX2 tyX2_ok nmX2 0 rfl rfl 2 (by decide) mw_fieldLink_RX2_18_MirrorDrill_Drill_rules_I rfl rfl rfl (Nat.le_of_ble_eq_true rfl) dX2_init_16 (fun H locs hP hD hS => ?_)
  have hP : va_P D classes [(dd, .inr (2, [.int 2, .int 0, .int 0, .int 0, .int 0, .int 0, .int 0, .int 0, .long 0, .null, .null, .null, .null, .null, .null]))] H := hP
  have hD : va_D A [(dd, .inr (2, [.int 2, .int 0, .int 0, .int 0, .int 0, .int 0, .int 0, .int 0, .long 0, .null, .null, .null, .null, .null, .null]))] := hD
  refine lv_aload_n hx hb dX2_init_19 rfl (lv_at hl 0 rfl) ?_
  refine lv_iconst (v := 0) hx hb dX2_init_20 (by decide) ?_
  refine pf (v := .int 0) hC hK hP hD hS iX2 tyX2_ok nmX2 0 rfl rfl 3 (by decide) mw_fieldLink_RX2_21_MirrorDrill_Drill_units_I rfl rfl rfl (Nat.le_of_ble_eq_true rfl) dX2_init_21 (fun H locs hP hD hS => ?_)
  have hP : va_P D classes [(dd, .inr (2, [.int 2, .int 0, .int 0, .int 0, .int 0, .int 0, .int 0, .int 0, .long 0, .null, .null, .null, .null, .null, .null]))] H := hP
  have hD : va_D A [(dd, .inr (2, [.int 2, .int 0, .int 0, .int 0, .int 0, .int 0, .int 0, .int 0, .long 0, .null, .null, .null, .null, .null, .null]))] := hD
  refine lv_aload_n hx hb dX2_init_24 rfl (lv_at hl 0 rfl) ?_
  refine lv_iconst (v := 0) hx hb dX2_init_25 (by decide) ?_
  refine pf (v := .int 0) hC hK hP hD hS iX2 tyX2_ok nmX2 0 rfl rfl 4 (by decide) mw_fieldLink_RX2_24_MirrorDrill_Drill_edge_I rfl rfl rfl (Nat.le_of_ble_eq_true rfl) dX2_init_26 (fun H locs hP hD hS => ?_)
  have hP : va_P D classes [(dd, .inr (2, [.int 2, .int 0, .int 0, .int 0, .int 0, .int 0, .int 0, .int 0, .long 0, .null, .null, .null, .null, .null, .null]))] H := hP
  have hD : va_D A [(dd, .inr (2, [.int 2, .int 0, .int 0, .int 0, .int 0, .int 0, .int 0, .int 0, .long 0, .null, .null, .null, .null, .null, .null]))] := hD
  refine lv_aload_n hx hb dX2_init_29 rfl (lv_at hl 0 rfl) ?_
  refine lv_iconst (v := 0) hx hb dX2_init_30 (by decide) ?_
  refine pf (v := .int 0) hC hK hP hD hS iX2 tyX2_ok nmX2 0 rfl rfl 5 (by decide) mw_fieldLink_RX2_27_MirrorDrill_Drill_ring_Z rfl rfl rfl (Nat.le_of_ble_eq_true rfl) dX2_init_31 (fun H locs hP hD hS => ?_)
  have hP : va_P D classes [(dd, .inr (2, [.int 2, .int 0, .int 0, .int 0, .int 0, .int 0, .int 0, .int 0, .long 0, .null, .null, .null, .null, .null, .null]))] H := hP
  have hD : va_D A [(dd, .inr (2, [.int 2, .int 0, .int 0, .int 0, .int 0, .int 0, .int 0, .int 0, .long 0, .null, .null, .null, .null, .null, .null]))] := hD
  refine lv_aload_n hx hb dX2_init_34 rfl (lv_at hl 0 rfl) ?_
  refine lv_iconst (v := 0) hx hb dX2_init_35 (by decide) ?_
  refine pf (v := .int 0) hC hK hP hD hS iX2 tyX2_ok nmX2 0 rfl rfl 6 (by decide) mw_fieldLink_RX2_31_MirrorDrill_Drill_turned_I rfl rfl rfl (Nat.le_of_ble_eq_true rfl) dX2_init_36 (fun H locs hP hD hS => ?_)
  have hP : va_P D classes [(dd, .inr (2, [.int 2, .int 0, .int 0, .int 0, .int 0, .int 0, .int 0, .int 0, .long 0, .null, .null, .null, .null, .null, .null]))] H := hP
  have hD : va_D A [(dd, .inr (2, [.int 2, .int 0, .int 0, .int 0, .int 0, .int 0, .int 0, .int 0, .long 0, .null, .null, .null, .null, .null, .null]))] := hD
  refine lv_aload_n hx hb dX2_init_39 rfl (lv_at hl 0 rfl) ?_
  refine lv_iconst (v := 0) hx hb dX2_init_40 (by decide) ?_
  refine pf (v := .int 0) hC hK hP hD hS iX2 tyX2_ok nmX2 0 rfl rfl 7 (by decide) mw_fieldLink_RX2_34_MirrorDrill_Drill_cracked_I rfl rfl rfl (Nat.le_of_ble_eq_true rfl) dX2_init_41 (fun H locs hP hD hS => ?_)
  have hP : va_P D classes [(dd, .inr (2, [.int 2, .int 0, .int 0, .int 0, .int 0, .int 0, .int 0, .int 0, .long 0, .null, .null, .null, .null, .null, .null]))] H := hP
  have hD : va_D A [(dd, .inr (2, [.int 2, .int 0, .int 0, .int 0, .int 0, .int 0, .int 0, .int 0, .long 0, .null, .null, .null, .null, .null, .null]))] := hD
  refine lv_aload_n hx hb dX2_init_44 rfl (lv_at hl 0 rfl) ?_
  refine lv_lconst (v := 0) hx hb dX2_init_45 (by decide) ?_
  refine pf (v := .long 0) hC hK hP hD hS iX2 tyX2_ok nmX2 0 rfl rfl 8 (by decide) mw_fieldLink_RX2_37_MirrorDrill_Drill_first_J rfl rfl rfl (Nat.le_of_ble_eq_true rfl) dX2_init_46 (fun H locs hP hD hS => ?_)
  have hP : va_P D classes [(dd, .inr (2, [.int 2, .int 0, .int 0, .int 0, .int 0, .int 0, .int 0, .int 0, .long 0, .null, .null, .null, .null, .null, .null]))] H := hP
  have hD : va_D A [(dd, .inr (2, [.int 2, .int 0, .int 0, .int 0, .int 0, .int 0, .int 0, .int 0, .long 0, .null, .null, .null, .null, .null, .null]))] := hD
  refine lv_aload_n hx hb dX2_init_49 rfl (lv_at hl 0 rfl) ?_
  refine lv_bipush (v := 30) hx hb dX2_init_50 (by decide) ?_
  refine nwI (N := 30) hC mw_arrayClass_int hK hP hD hS hA (by decide) (by decide) (by decide) (by decide) (by decide) dX2_init_52 (fun q1 H hP hD hS => ?_)
  have hP : va_P D classes [(dd, .inr (2, [.int 2, .int 0, .int 0, .int 0, .int 0, .int 0, .int 0, .int 0, .long 0, .null, .null, .null, .null, .null, .null])), (q1, .inl (cyI, 30, .inl (fun _ => 0)))] H := hP
  have hD : va_D A [(dd, .inr (2, [.int 2, .int 0, .int 0, .int 0, .int 0, .int 0, .int 0, .int 0, .long 0, .null, .null, .null, .null, .null, .null])), (q1, .inl (cyI, 30, .inl (fun _ => 0)))] := hD
  refine W.widen (k := 1) (n := 30) (by decide) (by decide) ?_
  refine pfF (v := .ref q1) hC hK hP hD hS iX2 tyX2_ok nmX2 0 rfl rfl 9 (by decide) mw_fieldLink_RX2_41_MirrorDrill_Drill_ruleOf_I rfl rfl rfl rfl (Nat.le_of_ble_eq_true rfl) dX2_init_54 (fun H locs hP hD hS => ?_)
  have hP : va_P D classes [(dd, .inr (2, [.int 2, .int 0, .int 0, .int 0, .int 0, .int 0, .int 0, .int 0, .long 0, .ref q1, .null, .null, .null, .null, .null])), (q1, .inl (cyI, 30, .inl (fun _ => 0)))] H := hP
  have hD : va_D A [(dd, .inr (2, [.int 2, .int 0, .int 0, .int 0, .int 0, .int 0, .int 0, .int 0, .long 0, .ref q1, .null, .null, .null, .null, .null])), (q1, .inl (cyI, 30, .inl (fun _ => 0)))] := hD
  refine lv_aload_n hx hb dX2_init_57 rfl (lv_at hl 0 rfl) ?_
  refine lv_bipush (v := 30) hx hb dX2_init_58 (by decide) ?_
  refine nwI (N := 30) hC mw_arrayClass_int hK hP hD hS hA (by decide) (by decide) (by decide) (by decide) (by decide) dX2_init_60 (fun q2 H hP hD hS => ?_)
  have hP : va_P D classes [(dd, .inr (2, [.int 2, .int 0, .int 0, .int 0, .int 0, .int 0, .int 0, .int 0, .long 0, .ref q1, .null, .null, .null, .null, .null])), (q1, .inl (cyI, 30, .inl (fun _ => 0))), (q2, .inl (cyI, 30, .inl (fun _ => 0)))] H := hP
  have hD : va_D A [(dd, .inr (2, [.int 2, .int 0, .int 0, .int 0, .int 0, .int 0, .int 0, .int 0, .long 0, .ref q1, .null, .null, .null, .null, .null])), (q1, .inl (cyI, 30, .inl (fun _ => 0))), (q2, .inl (cyI, 30, .inl (fun _ => 0)))] := hD
  refine W.widen (k := 2) (n := 60) (by decide) (by decide) ?_
  refine pfF (v := .ref q2) hC hK hP hD hS iX2 tyX2_ok nmX2 0 rfl rfl 10 (by decide) mw_fieldLink_RX2_45_MirrorDrill_Drill_windows_I rfl rfl rfl rfl (Nat.le_of_ble_eq_true rfl) dX2_init_62 (fun H locs hP hD hS => ?_)
  have hP : va_P D classes [(dd, .inr (2, [.int 2, .int 0, .int 0, .int 0, .int 0, .int 0, .int 0, .int 0, .long 0, .ref q1, .ref q2, .null, .null, .null, .null])), (q1, .inl (cyI, 30, .inl (fun _ => 0))), (q2, .inl (cyI, 30, .inl (fun _ => 0)))] H := hP
  have hD : va_D A [(dd, .inr (2, [.int 2, .int 0, .int 0, .int 0, .int 0, .int 0, .int 0, .int 0, .long 0, .ref q1, .ref q2, .null, .null, .null, .null])), (q1, .inl (cyI, 30, .inl (fun _ => 0))), (q2, .inl (cyI, 30, .inl (fun _ => 0)))] := hD
  refine lv_aload_n hx hb dX2_init_65 rfl (lv_at hl 0 rfl) ?_
  refine lv_iconst (v := 4) hx hb dX2_init_66 (by decide) ?_
  refine nwI (N := 4) hC mw_arrayClass_int hK hP hD hS hA (by decide) (by decide) (by decide) (by decide) (by decide) dX2_init_67 (fun q3 H hP hD hS => ?_)
  have hP : va_P D classes [(dd, .inr (2, [.int 2, .int 0, .int 0, .int 0, .int 0, .int 0, .int 0, .int 0, .long 0, .ref q1, .ref q2, .null, .null, .null, .null])), (q1, .inl (cyI, 30, .inl (fun _ => 0))), (q2, .inl (cyI, 30, .inl (fun _ => 0))), (q3, .inl (cyI, 4, .inl (fun _ => 0)))] H := hP
  have hD : va_D A [(dd, .inr (2, [.int 2, .int 0, .int 0, .int 0, .int 0, .int 0, .int 0, .int 0, .long 0, .ref q1, .ref q2, .null, .null, .null, .null])), (q1, .inl (cyI, 30, .inl (fun _ => 0))), (q2, .inl (cyI, 30, .inl (fun _ => 0))), (q3, .inl (cyI, 4, .inl (fun _ => 0)))] := hD
  refine W.widen (k := 3) (n := 64) (by decide) (by decide) ?_
  refine lv_dup hx hb dX2_init_69 rfl ?_
  refine lv_iconst (v := 0) hx hb dX2_init_70 (by decide) ?_
  refine lv_iconst (v := 0) hx hb dX2_init_71 (by decide) ?_
  refine va_iast hx hb hK hP hD hS 3 1 rfl rfl (vin (by decide)) dX2_init_72 (fun H locs hP hD hS => ?_)
  obtain ⟨f_4, ef_4⟩ : ∃ g : Nat → Int32, g = upd (fun _ => 0) ((0 : Int32).toNatClampNeg) 0 := ⟨_, rfl⟩
  rw [← ef_4] at hP hD
  have hP : va_P D classes [(dd, .inr (2, [.int 2, .int 0, .int 0, .int 0, .int 0, .int 0, .int 0, .int 0, .long 0, .ref q1, .ref q2, .null, .null, .null, .null])), (q1, .inl (cyI, 30, .inl (fun _ => 0))), (q2, .inl (cyI, 30, .inl (fun _ => 0))), (q3, .inl (cyI, 4, .inl f_4))] H := hP
  have hD : va_D A [(dd, .inr (2, [.int 2, .int 0, .int 0, .int 0, .int 0, .int 0, .int 0, .int 0, .long 0, .ref q1, .ref q2, .null, .null, .null, .null])), (q1, .inl (cyI, 30, .inl (fun _ => 0))), (q2, .inl (cyI, 30, .inl (fun _ => 0))), (q3, .inl (cyI, 4, .inl f_4))] := hD
  refine lv_dup hx hb dX2_init_73 rfl ?_
  refine lv_iconst (v := 1) hx hb dX2_init_74 (by decide) ?_
  refine lv_iconst (v := 1) hx hb dX2_init_75 (by decide) ?_
  refine va_iast hx hb hK hP hD hS 3 1 rfl rfl (vin (by decide)) dX2_init_76 (fun H locs hP hD hS => ?_)
  obtain ⟨f_5, ef_5⟩ : ∃ g : Nat → Int32, g = upd f_4 ((1 : Int32).toNatClampNeg) 1 := ⟨_, rfl⟩
  rw [← ef_5] at hP hD
  have hP : va_P D classes [(dd, .inr (2, [.int 2, .int 0, .int 0, .int 0, .int 0, .int 0, .int 0, .int 0, .long 0, .ref q1, .ref q2, .null, .null, .null, .null])), (q1, .inl (cyI, 30, .inl (fun _ => 0))), (q2, .inl (cyI, 30, .inl (fun _ => 0))), (q3, .inl (cyI, 4, .inl f_5))] H := hP
  have hD : va_D A [(dd, .inr (2, [.int 2, .int 0, .int 0, .int 0, .int 0, .int 0, .int 0, .int 0, .long 0, .ref q1, .ref q2, .null, .null, .null, .null])), (q1, .inl (cyI, 30, .inl (fun _ => 0))), (q2, .inl (cyI, 30, .inl (fun _ => 0))), (q3, .inl (cyI, 4, .inl f_5))] := hD
  refine lv_dup hx hb dX2_init_77 rfl ?_
  refine lv_iconst (v := 2) hx hb dX2_init_78 (by decide) ?_
  refine lv_iconst (v := 2) hx hb dX2_init_79 (by decide) ?_
  refine va_iast hx hb hK hP hD hS 3 1 rfl rfl (vin (by decide)) dX2_init_80 (fun H locs hP hD hS => ?_)
  obtain ⟨f_6, ef_6⟩ : ∃ g : Nat → Int32, g = upd f_5 ((2 : Int32).toNatClampNeg) 2 := ⟨_, rfl⟩
  rw [← ef_6] at hP hD
  have hP : va_P D classes [(dd, .inr (2, [.int 2, .int 0, .int 0, .int 0, .int 0, .int 0, .int 0, .int 0, .long 0, .ref q1, .ref q2, .null, .null, .null, .null])), (q1, .inl (cyI, 30, .inl (fun _ => 0))), (q2, .inl (cyI, 30, .inl (fun _ => 0))), (q3, .inl (cyI, 4, .inl f_6))] H := hP
  have hD : va_D A [(dd, .inr (2, [.int 2, .int 0, .int 0, .int 0, .int 0, .int 0, .int 0, .int 0, .long 0, .ref q1, .ref q2, .null, .null, .null, .null])), (q1, .inl (cyI, 30, .inl (fun _ => 0))), (q2, .inl (cyI, 30, .inl (fun _ => 0))), (q3, .inl (cyI, 4, .inl f_6))] := hD
  refine lv_dup hx hb dX2_init_81 rfl ?_
  refine lv_iconst (v := 3) hx hb dX2_init_82 (by decide) ?_
  refine lv_iconst (v := 3) hx hb dX2_init_83 (by decide) ?_
  refine va_iast hx hb hK hP hD hS 3 1 rfl rfl (vin (by decide)) dX2_init_84 (fun H locs hP hD hS => ?_)
  obtain ⟨f_7, ef_7⟩ : ∃ g : Nat → Int32, g = upd f_6 ((3 : Int32).toNatClampNeg) 3 := ⟨_, rfl⟩
  rw [← ef_7] at hP hD
  have hP : va_P D classes [(dd, .inr (2, [.int 2, .int 0, .int 0, .int 0, .int 0, .int 0, .int 0, .int 0, .long 0, .ref q1, .ref q2, .null, .null, .null, .null])), (q1, .inl (cyI, 30, .inl (fun _ => 0))), (q2, .inl (cyI, 30, .inl (fun _ => 0))), (q3, .inl (cyI, 4, .inl f_7))] H := hP
  have hD : va_D A [(dd, .inr (2, [.int 2, .int 0, .int 0, .int 0, .int 0, .int 0, .int 0, .int 0, .long 0, .ref q1, .ref q2, .null, .null, .null, .null])), (q1, .inl (cyI, 30, .inl (fun _ => 0))), (q2, .inl (cyI, 30, .inl (fun _ => 0))), (q3, .inl (cyI, 4, .inl f_7))] := hD
  refine pfF (v := .ref q3) hC hK hP hD hS iX2 tyX2_ok nmX2 0 rfl rfl 11 (by decide) mw_fieldLink_RX2_48_MirrorDrill_Drill_worths_I rfl rfl rfl rfl (Nat.le_of_ble_eq_true rfl) dX2_init_85 (fun H locs hP hD hS => ?_)
  have hP : va_P D classes [(dd, .inr (2, [.int 2, .int 0, .int 0, .int 0, .int 0, .int 0, .int 0, .int 0, .long 0, .ref q1, .ref q2, .ref q3, .null, .null, .null])), (q1, .inl (cyI, 30, .inl (fun _ => 0))), (q2, .inl (cyI, 30, .inl (fun _ => 0))), (q3, .inl (cyI, 4, .inl f_7))] H := hP
  have hD : va_D A [(dd, .inr (2, [.int 2, .int 0, .int 0, .int 0, .int 0, .int 0, .int 0, .int 0, .long 0, .ref q1, .ref q2, .ref q3, .null, .null, .null])), (q1, .inl (cyI, 30, .inl (fun _ => 0))), (q2, .inl (cyI, 30, .inl (fun _ => 0))), (q3, .inl (cyI, 4, .inl f_7))] := hD
  refine lv_aload_n hx hb dX2_init_88 rfl (lv_at hl 0 rfl) ?_
  refine lv_sipush (v := 384) hx hb dX2_init_89 (by decide) ?_
  refine nwB (N := 384) hC mw_arrayClass_byte hK hP hD hS hA (by decide) (by decide) (by decide) (by decide) (by decide) dX2_init_92 (fun q8 H hP hD hS => ?_)
  have hP : va_P D classes [(dd, .inr (2, [.int 2, .int 0, .int 0, .int 0, .int 0, .int 0, .int 0, .int 0, .long 0, .ref q1, .ref q2, .ref q3, .null, .null, .null])), (q1, .inl (cyI, 30, .inl (fun _ => 0))), (q2, .inl (cyI, 30, .inl (fun _ => 0))), (q3, .inl (cyI, 4, .inl f_7)), (q8, .inl (cyB, 384, .inl (fun _ => 0)))] H := hP
  have hD : va_D A [(dd, .inr (2, [.int 2, .int 0, .int 0, .int 0, .int 0, .int 0, .int 0, .int 0, .long 0, .ref q1, .ref q2, .ref q3, .null, .null, .null])), (q1, .inl (cyI, 30, .inl (fun _ => 0))), (q2, .inl (cyI, 30, .inl (fun _ => 0))), (q3, .inl (cyI, 4, .inl f_7)), (q8, .inl (cyB, 384, .inl (fun _ => 0)))] := hD
  refine W.widen (k := 4) (n := 448) (by decide) (by decide) ?_
  refine pfF (v := .ref q8) hC hK hP hD hS iX2 tyX2_ok nmX2 0 rfl rfl 12 (by decide) mw_fieldLink_RX2_51_MirrorDrill_Drill_table_B rfl rfl rfl rfl (Nat.le_of_ble_eq_true rfl) dX2_init_94 (fun H locs hP hD hS => ?_)
  have hP : va_P D classes [(dd, .inr (2, [.int 2, .int 0, .int 0, .int 0, .int 0, .int 0, .int 0, .int 0, .long 0, .ref q1, .ref q2, .ref q3, .ref q8, .null, .null])), (q1, .inl (cyI, 30, .inl (fun _ => 0))), (q2, .inl (cyI, 30, .inl (fun _ => 0))), (q3, .inl (cyI, 4, .inl f_7)), (q8, .inl (cyB, 384, .inl (fun _ => 0)))] H := hP
  have hD : va_D A [(dd, .inr (2, [.int 2, .int 0, .int 0, .int 0, .int 0, .int 0, .int 0, .int 0, .long 0, .ref q1, .ref q2, .ref q3, .ref q8, .null, .null])), (q1, .inl (cyI, 30, .inl (fun _ => 0))), (q2, .inl (cyI, 30, .inl (fun _ => 0))), (q3, .inl (cyI, 4, .inl f_7)), (q8, .inl (cyB, 384, .inl (fun _ => 0)))] := hD
  refine lv_aload_n hx hb dX2_init_97 rfl (lv_at hl 0 rfl) ?_
  refine lv_iconst (v := 0) hx hb dX2_init_98 (by decide) ?_
  refine nwB (N := 0) hC mw_arrayClass_byte hK hP hD hS hA (by decide) (by decide) (by decide) (by decide) (by decide) dX2_init_99 (fun q9 H hP hD hS => ?_)
  have hP : va_P D classes [(dd, .inr (2, [.int 2, .int 0, .int 0, .int 0, .int 0, .int 0, .int 0, .int 0, .long 0, .ref q1, .ref q2, .ref q3, .ref q8, .null, .null])), (q1, .inl (cyI, 30, .inl (fun _ => 0))), (q2, .inl (cyI, 30, .inl (fun _ => 0))), (q3, .inl (cyI, 4, .inl f_7)), (q8, .inl (cyB, 384, .inl (fun _ => 0))), (q9, .inl (cyB, 0, .inl (fun _ => 0)))] H := hP
  have hD : va_D A [(dd, .inr (2, [.int 2, .int 0, .int 0, .int 0, .int 0, .int 0, .int 0, .int 0, .long 0, .ref q1, .ref q2, .ref q3, .ref q8, .null, .null])), (q1, .inl (cyI, 30, .inl (fun _ => 0))), (q2, .inl (cyI, 30, .inl (fun _ => 0))), (q3, .inl (cyI, 4, .inl f_7)), (q8, .inl (cyB, 384, .inl (fun _ => 0))), (q9, .inl (cyB, 0, .inl (fun _ => 0)))] := hD
  refine W.widen (k := 5) (n := 448) (by decide) (by decide) ?_
  refine pf (v := .ref q9) hC hK hP hD hS iX2 tyX2_ok nmX2 0 rfl rfl 13 (by decide) mw_fieldLink_RX2_55_MirrorDrill_Drill_steps_B rfl rfl rfl (Nat.le_of_ble_eq_true rfl) dX2_init_101 (fun H locs hP hD hS => ?_)
  have hP : va_P D classes [(dd, .inr (2, [.int 2, .int 0, .int 0, .int 0, .int 0, .int 0, .int 0, .int 0, .long 0, .ref q1, .ref q2, .ref q3, .ref q8, .ref q9, .null])), (q1, .inl (cyI, 30, .inl (fun _ => 0))), (q2, .inl (cyI, 30, .inl (fun _ => 0))), (q3, .inl (cyI, 4, .inl f_7)), (q8, .inl (cyB, 384, .inl (fun _ => 0))), (q9, .inl (cyB, 0, .inl (fun _ => 0)))] H := hP
  have hD : va_D A [(dd, .inr (2, [.int 2, .int 0, .int 0, .int 0, .int 0, .int 0, .int 0, .int 0, .long 0, .ref q1, .ref q2, .ref q3, .ref q8, .ref q9, .null])), (q1, .inl (cyI, 30, .inl (fun _ => 0))), (q2, .inl (cyI, 30, .inl (fun _ => 0))), (q3, .inl (cyI, 4, .inl f_7)), (q8, .inl (cyB, 384, .inl (fun _ => 0))), (q9, .inl (cyB, 0, .inl (fun _ => 0)))] := hD
  refine lv_aload_n hx hb dX2_init_104 rfl (lv_at hl 0 rfl) ?_
  refine lv_iconst (v := 0) hx hb dX2_init_105 (by decide) ?_
  refine nwB (N := 0) hC mw_arrayClass_byte hK hP hD hS hA (by decide) (by decide) (by decide) (by decide) (by decide) dX2_init_106 (fun q10 H hP hD hS => ?_)
  have hP : va_P D classes [(dd, .inr (2, [.int 2, .int 0, .int 0, .int 0, .int 0, .int 0, .int 0, .int 0, .long 0, .ref q1, .ref q2, .ref q3, .ref q8, .ref q9, .null])), (q1, .inl (cyI, 30, .inl (fun _ => 0))), (q2, .inl (cyI, 30, .inl (fun _ => 0))), (q3, .inl (cyI, 4, .inl f_7)), (q8, .inl (cyB, 384, .inl (fun _ => 0))), (q9, .inl (cyB, 0, .inl (fun _ => 0))), (q10, .inl (cyB, 0, .inl (fun _ => 0)))] H := hP
  have hD : va_D A [(dd, .inr (2, [.int 2, .int 0, .int 0, .int 0, .int 0, .int 0, .int 0, .int 0, .long 0, .ref q1, .ref q2, .ref q3, .ref q8, .ref q9, .null])), (q1, .inl (cyI, 30, .inl (fun _ => 0))), (q2, .inl (cyI, 30, .inl (fun _ => 0))), (q3, .inl (cyI, 4, .inl f_7)), (q8, .inl (cyB, 384, .inl (fun _ => 0))), (q9, .inl (cyB, 0, .inl (fun _ => 0))), (q10, .inl (cyB, 0, .inl (fun _ => 0)))] := hD
  refine W.widen (k := 6) (n := 448) (by decide) (by decide) ?_
  refine pf (v := .ref q10) hC hK hP hD hS iX2 tyX2_ok nmX2 0 rfl rfl 14 (by decide) mw_fieldLink_RX2_58_MirrorDrill_Drill_pairSteps_B rfl rfl rfl (Nat.le_of_ble_eq_true rfl) dX2_init_108 (fun H locs hP hD hS => ?_)
  have hP : va_P D classes [(dd, .inr (2, [.int 2, .int 0, .int 0, .int 0, .int 0, .int 0, .int 0, .int 0, .long 0, .ref q1, .ref q2, .ref q3, .ref q8, .ref q9, .ref q10])), (q1, .inl (cyI, 30, .inl (fun _ => 0))), (q2, .inl (cyI, 30, .inl (fun _ => 0))), (q3, .inl (cyI, 4, .inl f_7)), (q8, .inl (cyB, 384, .inl (fun _ => 0))), (q9, .inl (cyB, 0, .inl (fun _ => 0))), (q10, .inl (cyB, 0, .inl (fun _ => 0)))] H := hP
  have hD : va_D A [(dd, .inr (2, [.int 2, .int 0, .int 0, .int 0, .int 0, .int 0, .int 0, .int 0, .long 0, .ref q1, .ref q2, .ref q3, .ref q8, .ref q9, .ref q10])), (q1, .inl (cyI, 30, .inl (fun _ => 0))), (q2, .inl (cyI, 30, .inl (fun _ => 0))), (q3, .inl (cyI, 4, .inl f_7)), (q8, .inl (cyB, 384, .inl (fun _ => 0))), (q9, .inl (cyB, 0, .inl (fun _ => 0))), (q10, .inl (cyB, 0, .inl (fun _ => 0)))] := hD
  exact retV hC hP hD hS (by decide) (by decide) ([.int 2, .int 0, .int 0, .int 0, .int 0, .int 0, .int 0, .int 0, .long 0, .ref q1, .ref q2, .ref q3, .ref q8, .ref q9, .ref q10], q1, q2, q3, (fun _ => 0), (fun _ => 0), f_7) [0, 1, 2, 3] rfl rfl ⟨rfl, rfl, rfl, rfl, rfl, rfl, rfl, rfl, rfl, rfl⟩ dX2_init_111
set_option maxHeartbeats 4000000 in
set_option maxRecDepth 100000 in
theorem k_X7_init (l : Launch) (D : va_G) (cyB cyI cyJ cyZ : ClassId) (sz : Nat) (rd : Nat) : KV l yX7_init cX7_init 1 1 3 1926 D (TYS cyB cyI cyJ cyZ) [(rd, .inr (7, [.null, .int 0, .int 0, .int 0, .int 0, .int 0, .long 0, .null, .int 0, .int 0, .null, .int 0, .null, .int 0, .int 0, .int 0]))] sz [.ref rd] (fun (u : List Value) => u.length = 16) (fun (u : List Value) => ([(rd, .inr (7, u))] : va_W)) := by
  refine entV (by decide) (Nat.le_of_ble_eq_true rfl) ?_
  intro p e s m below meth c ls A hC hl hP hK hD hA
  obtain ⟨hx, hb, hr, hml, hown, hts, hlk, hnm⟩ := id hC
  have hS : va_S A s.heap s.heap [] := va_S.rf
  have hl : lv_has ls 1 [(0, .ref rd)] := hl
  generalize hHe : s.heap = H at hP ⊢
  rw [hHe] at hS
  have hS : va_S A s.heap H [] := by rw [hHe]; exact hS
  refine lv_aload_n hx hb dX7_init_0 rfl (lv_at hl 0 rfl) ?_
  refine W.objInit hx hb hown (hts _ mw_methodLink_RX7_3_objectInit) (hts _ mw_instanceMethod_objectInit) (hts _ mw_code_objectInit_0xb1_1_none) rfl (by rw [hml]; exact hl.1) rfl dX7_init_1 (Nat.le_of_ble_eq_true rfl) (Nat.le_of_ble_eq_true rfl) ?_
  refine W.eq (g2 := F0 m 4 ls []) rfl ?_
  refine lv_aload_n hx hb dX7_init_4 rfl (lv_at hl 0 rfl) ?_
  refine lv_iconst (v := 0) hx hb dX7_init_5 (by decide) ?_
  refine nwI (N := 0) hC mw_arrayClass_int hK hP hD hS hA (by decide) (by decide) (by decide) (by decide) (by decide) dX7_init_6 (fun q1 H hP hD hS => ?_)
  have hP : va_P D classes [(rd, .inr (7, [.null, .int 0, .int 0, .int 0, .int 0, .int 0, .long 0, .null, .int 0, .int 0, .null, .int 0, .null, .int 0, .int 0, .int 0])), (q1, .inl (cyI, 0, .inl (fun _ => 0)))] H := hP
  have hD : va_D A [(rd, .inr (7, [.null, .int 0, .int 0, .int 0, .int 0, .int 0, .long 0, .null, .int 0, .int 0, .null, .int 0, .null, .int 0, .int 0, .int 0])), (q1, .inl (cyI, 0, .inl (fun _ => 0)))] := hD
  refine W.widen (k := 1) (n := 0) (by decide) (by decide) ?_
  refine pf (v := .ref q1) hC hK hP hD hS iX7 tyX7_ok nmX7 0 rfl rfl 0 (by decide) mw_fieldLink_RX7_9_MirrorDrill_Reader_text_I rfl rfl rfl (Nat.le_of_ble_eq_true rfl) dX7_init_8 (fun H locs hP hD hS => ?_)
  have hP : va_P D classes [(rd, .inr (7, [.ref q1, .int 0, .int 0, .int 0, .int 0, .int 0, .long 0, .null, .int 0, .int 0, .null, .int 0, .null, .int 0, .int 0, .int 0])), (q1, .inl (cyI, 0, .inl (fun _ => 0)))] H := hP
  have hD : va_D A [(rd, .inr (7, [.ref q1, .int 0, .int 0, .int 0, .int 0, .int 0, .long 0, .null, .int 0, .int 0, .null, .int 0, .null, .int 0, .int 0, .int 0])), (q1, .inl (cyI, 0, .inl (fun _ => 0)))] := hD
  refine lv_aload_n hx hb dX7_init_11 rfl (lv_at hl 0 rfl) ?_
  refine lv_bipush (v := 6) hx hb dX7_init_12 (by decide) ?_
  refine nwJ (N := 6) hC mw_arrayClass_long hK hP hD hS hA (by decide) (by decide) (by decide) (by decide) (by decide) dX7_init_14 (fun q2 H hP hD hS => ?_)
  have hP : va_P D classes [(rd, .inr (7, [.ref q1, .int 0, .int 0, .int 0, .int 0, .int 0, .long 0, .null, .int 0, .int 0, .null, .int 0, .null, .int 0, .int 0, .int 0])), (q1, .inl (cyI, 0, .inl (fun _ => 0))), (q2, .inl (cyJ, 6, .inr (.inl (fun _ => 0))))] H := hP
  have hD : va_D A [(rd, .inr (7, [.ref q1, .int 0, .int 0, .int 0, .int 0, .int 0, .long 0, .null, .int 0, .int 0, .null, .int 0, .null, .int 0, .int 0, .int 0])), (q1, .inl (cyI, 0, .inl (fun _ => 0))), (q2, .inl (cyJ, 6, .inr (.inl (fun _ => 0))))] := hD
  refine W.widen (k := 2) (n := 6) (by decide) (by decide) ?_
  refine pfF (v := .ref q2) hC hK hP hD hS iX7 tyX7_ok nmX7 0 rfl rfl 10 (by decide) mw_fieldLink_RX7_15_MirrorDrill_Reader_names_J rfl rfl rfl rfl (Nat.le_of_ble_eq_true rfl) dX7_init_16 (fun H locs hP hD hS => ?_)
  have hP : va_P D classes [(rd, .inr (7, [.ref q1, .int 0, .int 0, .int 0, .int 0, .int 0, .long 0, .null, .int 0, .int 0, .ref q2, .int 0, .null, .int 0, .int 0, .int 0])), (q1, .inl (cyI, 0, .inl (fun _ => 0))), (q2, .inl (cyJ, 6, .inr (.inl (fun _ => 0))))] H := hP
  have hD : va_D A [(rd, .inr (7, [.ref q1, .int 0, .int 0, .int 0, .int 0, .int 0, .long 0, .null, .int 0, .int 0, .ref q2, .int 0, .null, .int 0, .int 0, .int 0])), (q1, .inl (cyI, 0, .inl (fun _ => 0))), (q2, .inl (cyJ, 6, .inr (.inl (fun _ => 0))))] := hD
  refine lv_aload_n hx hb dX7_init_19 rfl (lv_at hl 0 rfl) ?_
  refine lv_sipush (v := 1920) hx hb dX7_init_20 (by decide) ?_
  refine nwI (N := 1920) hC mw_arrayClass_int hK hP hD hS hA (by decide) (by decide) (by decide) (by decide) (by decide) dX7_init_23 (fun q3 H hP hD hS => ?_)
  have hP : va_P D classes [(rd, .inr (7, [.ref q1, .int 0, .int 0, .int 0, .int 0, .int 0, .long 0, .null, .int 0, .int 0, .ref q2, .int 0, .null, .int 0, .int 0, .int 0])), (q1, .inl (cyI, 0, .inl (fun _ => 0))), (q2, .inl (cyJ, 6, .inr (.inl (fun _ => 0)))), (q3, .inl (cyI, 1920, .inl (fun _ => 0)))] H := hP
  have hD : va_D A [(rd, .inr (7, [.ref q1, .int 0, .int 0, .int 0, .int 0, .int 0, .long 0, .null, .int 0, .int 0, .ref q2, .int 0, .null, .int 0, .int 0, .int 0])), (q1, .inl (cyI, 0, .inl (fun _ => 0))), (q2, .inl (cyJ, 6, .inr (.inl (fun _ => 0)))), (q3, .inl (cyI, 1920, .inl (fun _ => 0)))] := hD
  refine W.widen (k := 3) (n := 1926) (by decide) (by decide) ?_
  refine pfF (v := .ref q3) hC hK hP hD hS iX7 tyX7_ok nmX7 0 rfl rfl 12 (by decide) mw_fieldLink_RX7_19_MirrorDrill_Reader_parts_I rfl rfl rfl rfl (Nat.le_of_ble_eq_true rfl) dX7_init_25 (fun H locs hP hD hS => ?_)
  have hP : va_P D classes [(rd, .inr (7, [.ref q1, .int 0, .int 0, .int 0, .int 0, .int 0, .long 0, .null, .int 0, .int 0, .ref q2, .int 0, .ref q3, .int 0, .int 0, .int 0])), (q1, .inl (cyI, 0, .inl (fun _ => 0))), (q2, .inl (cyJ, 6, .inr (.inl (fun _ => 0)))), (q3, .inl (cyI, 1920, .inl (fun _ => 0)))] H := hP
  have hD : va_D A [(rd, .inr (7, [.ref q1, .int 0, .int 0, .int 0, .int 0, .int 0, .long 0, .null, .int 0, .int 0, .ref q2, .int 0, .ref q3, .int 0, .int 0, .int 0])), (q1, .inl (cyI, 0, .inl (fun _ => 0))), (q2, .inl (cyJ, 6, .inr (.inl (fun _ => 0)))), (q3, .inl (cyI, 1920, .inl (fun _ => 0)))] := hD
  exact retV hC hP hD hS (by decide) (by decide) ([.ref q1, .int 0, .int 0, .int 0, .int 0, .int 0, .long 0, .null, .int 0, .int 0, .ref q2, .int 0, .ref q3, .int 0, .int 0, .int 0]) [0] rfl rfl rfl dX7_init_28
set_option maxHeartbeats 4000000 in
set_option maxRecDepth 100000 in
theorem k_X3_init (l : Launch) (D : va_G) (cyB cyI cyJ cyZ : ClassId) (sz : Nat) (ea : Nat) : KV l yX3_init cX3_init 1 1 2 82 D (TYS cyB cyI cyJ cyZ) [(ea, .inr (3, [.null, .null, .int 0, .int 0]))] sz [.ref ea] (fun (u : List Value × Nat × Nat × (Nat → Int64) × (Nat → Int32)) => u.1.length = 4 ∧ u.1[0]? = some (.ref u.2.1) ∧ u.1[1]? = some (.ref u.2.2.1) ∧ u.1[2]? = some (.int 0) ∧ u.1[3]? = some (.int 0) ∧ u.2.2.2.1 0 = 0 ∧ u.2.2.2.2 0 = 0) (fun (u : List Value × Nat × Nat × (Nat → Int64) × (Nat → Int32)) => ([(ea, .inr (3, u.1)), (u.2.1, .inl (cyJ, 41, .inr (.inl u.2.2.2.1))), (u.2.2.1, .inl (cyI, 41, .inl u.2.2.2.2))] : va_W)) := by
  refine entV (by decide) (Nat.le_of_ble_eq_true rfl) ?_
  intro p e s m below meth c ls A hC hl hP hK hD hA
  obtain ⟨hx, hb, hr, hml, hown, hts, hlk, hnm⟩ := id hC
  have hS : va_S A s.heap s.heap [] := va_S.rf
  have hl : lv_has ls 1 [(0, .ref ea)] := hl
  generalize hHe : s.heap = H at hP ⊢
  rw [hHe] at hS
  have hS : va_S A s.heap H [] := by rw [hHe]; exact hS
  refine lv_aload_n hx hb dX3_init_0 rfl (lv_at hl 0 rfl) ?_
  refine W.objInit hx hb hown (hts _ mw_methodLink_RX3_3_objectInit) (hts _ mw_instanceMethod_objectInit) (hts _ mw_code_objectInit_0xb1_1_none) rfl (by rw [hml]; exact hl.1) rfl dX3_init_1 (Nat.le_of_ble_eq_true rfl) (Nat.le_of_ble_eq_true rfl) ?_
  refine W.eq (g2 := F0 m 4 ls []) rfl ?_
  refine lv_aload_n hx hb dX3_init_4 rfl (lv_at hl 0 rfl) ?_
  refine lv_bipush (v := 41) hx hb dX3_init_5 (by decide) ?_
  refine nwJ (N := 41) hC mw_arrayClass_long hK hP hD hS hA (by decide) (by decide) (by decide) (by decide) (by decide) dX3_init_7 (fun q1 H hP hD hS => ?_)
  have hP : va_P D classes [(ea, .inr (3, [.null, .null, .int 0, .int 0])), (q1, .inl (cyJ, 41, .inr (.inl (fun _ => 0))))] H := hP
  have hD : va_D A [(ea, .inr (3, [.null, .null, .int 0, .int 0])), (q1, .inl (cyJ, 41, .inr (.inl (fun _ => 0))))] := hD
  refine W.widen (k := 1) (n := 41) (by decide) (by decide) ?_
  refine pfF (v := .ref q1) hC hK hP hD hS iX3 tyX3_ok nmX3 0 rfl rfl 0 (by decide) mw_fieldLink_RX3_9_MirrorDrill_Earnest_rows_J rfl rfl rfl rfl (Nat.le_of_ble_eq_true rfl) dX3_init_9 (fun H locs hP hD hS => ?_)
  have hP : va_P D classes [(ea, .inr (3, [.ref q1, .null, .int 0, .int 0])), (q1, .inl (cyJ, 41, .inr (.inl (fun _ => 0))))] H := hP
  have hD : va_D A [(ea, .inr (3, [.ref q1, .null, .int 0, .int 0])), (q1, .inl (cyJ, 41, .inr (.inl (fun _ => 0))))] := hD
  refine lv_aload_n hx hb dX3_init_12 rfl (lv_at hl 0 rfl) ?_
  refine lv_bipush (v := 41) hx hb dX3_init_13 (by decide) ?_
  refine nwI (N := 41) hC mw_arrayClass_int hK hP hD hS hA (by decide) (by decide) (by decide) (by decide) (by decide) dX3_init_15 (fun q2 H hP hD hS => ?_)
  have hP : va_P D classes [(ea, .inr (3, [.ref q1, .null, .int 0, .int 0])), (q1, .inl (cyJ, 41, .inr (.inl (fun _ => 0)))), (q2, .inl (cyI, 41, .inl (fun _ => 0)))] H := hP
  have hD : va_D A [(ea, .inr (3, [.ref q1, .null, .int 0, .int 0])), (q1, .inl (cyJ, 41, .inr (.inl (fun _ => 0)))), (q2, .inl (cyI, 41, .inl (fun _ => 0)))] := hD
  refine W.widen (k := 2) (n := 82) (by decide) (by decide) ?_
  refine pfF (v := .ref q2) hC hK hP hD hS iX3 tyX3_ok nmX3 0 rfl rfl 1 (by decide) mw_fieldLink_RX3_15_MirrorDrill_Earnest_beatsThen_I rfl rfl rfl rfl (Nat.le_of_ble_eq_true rfl) dX3_init_17 (fun H locs hP hD hS => ?_)
  have hP : va_P D classes [(ea, .inr (3, [.ref q1, .ref q2, .int 0, .int 0])), (q1, .inl (cyJ, 41, .inr (.inl (fun _ => 0)))), (q2, .inl (cyI, 41, .inl (fun _ => 0)))] H := hP
  have hD : va_D A [(ea, .inr (3, [.ref q1, .ref q2, .int 0, .int 0])), (q1, .inl (cyJ, 41, .inr (.inl (fun _ => 0)))), (q2, .inl (cyI, 41, .inl (fun _ => 0)))] := hD
  refine lv_aload_n hx hb dX3_init_20 rfl (lv_at hl 0 rfl) ?_
  refine lv_iconst (v := 0) hx hb dX3_init_21 (by decide) ?_
  refine pf (v := .int 0) hC hK hP hD hS iX3 tyX3_ok nmX3 0 rfl rfl 2 (by decide) mw_fieldLink_RX3_19_MirrorDrill_Earnest_now_I rfl rfl rfl (Nat.le_of_ble_eq_true rfl) dX3_init_22 (fun H locs hP hD hS => ?_)
  have hP : va_P D classes [(ea, .inr (3, [.ref q1, .ref q2, .int 0, .int 0])), (q1, .inl (cyJ, 41, .inr (.inl (fun _ => 0)))), (q2, .inl (cyI, 41, .inl (fun _ => 0)))] H := hP
  have hD : va_D A [(ea, .inr (3, [.ref q1, .ref q2, .int 0, .int 0])), (q1, .inl (cyJ, 41, .inr (.inl (fun _ => 0)))), (q2, .inl (cyI, 41, .inl (fun _ => 0)))] := hD
  refine lv_aload_n hx hb dX3_init_25 rfl (lv_at hl 0 rfl) ?_
  refine lv_iconst (v := 0) hx hb dX3_init_26 (by decide) ?_
  refine pf (v := .int 0) hC hK hP hD hS iX3 tyX3_ok nmX3 0 rfl rfl 3 (by decide) mw_fieldLink_RX3_23_MirrorDrill_Earnest_last_I rfl rfl rfl (Nat.le_of_ble_eq_true rfl) dX3_init_27 (fun H locs hP hD hS => ?_)
  have hP : va_P D classes [(ea, .inr (3, [.ref q1, .ref q2, .int 0, .int 0])), (q1, .inl (cyJ, 41, .inr (.inl (fun _ => 0)))), (q2, .inl (cyI, 41, .inl (fun _ => 0)))] H := hP
  have hD : va_D A [(ea, .inr (3, [.ref q1, .ref q2, .int 0, .int 0])), (q1, .inl (cyJ, 41, .inr (.inl (fun _ => 0)))), (q2, .inl (cyI, 41, .inl (fun _ => 0)))] := hD
  exact retV hC hP hD hS (by decide) (by decide) ([.ref q1, .ref q2, .int 0, .int 0], q1, q2, (fun _ => 0), (fun _ => 0)) [0, 1, 2] rfl rfl ⟨rfl, rfl, rfl, rfl, rfl, rfl, rfl⟩ dX3_init_30
set_option maxHeartbeats 4000000 in
set_option maxRecDepth 100000 in
theorem k_X6_init (l : Launch) (D : va_G) (cyB cyI cyJ cyZ : ClassId) (sz : Nat) (pl : Nat) : KV l yX6_init cX6_init 1 1 1 30 D (TYS cyB cyI cyJ cyZ) [(pl, .inr (6, [.null, .int 0]))] sz [.ref pl] (fun (u : List Value) => u.length = 2 ∧ u[1]? = some (.int 0)) (fun (u : List Value) => ([(pl, .inr (6, u))] : va_W)) := by
  refine entV (by decide) (Nat.le_of_ble_eq_true rfl) ?_
  intro p e s m below meth c ls A hC hl hP hK hD hA
  obtain ⟨hx, hb, hr, hml, hown, hts, hlk, hnm⟩ := id hC
  have hS : va_S A s.heap s.heap [] := va_S.rf
  have hl : lv_has ls 1 [(0, .ref pl)] := hl
  generalize hHe : s.heap = H at hP ⊢
  rw [hHe] at hS
  have hS : va_S A s.heap H [] := by rw [hHe]; exact hS
  refine lv_aload_n hx hb dX6_init_0 rfl (lv_at hl 0 rfl) ?_
  refine W.objInit hx hb hown (hts _ mw_methodLink_RX6_3_objectInit) (hts _ mw_instanceMethod_objectInit) (hts _ mw_code_objectInit_0xb1_1_none) rfl (by rw [hml]; exact hl.1) rfl dX6_init_1 (Nat.le_of_ble_eq_true rfl) (Nat.le_of_ble_eq_true rfl) ?_
  refine W.eq (g2 := F0 m 4 ls []) rfl ?_
  refine lv_aload_n hx hb dX6_init_4 rfl (lv_at hl 0 rfl) ?_
  refine lv_bipush (v := 30) hx hb dX6_init_5 (by decide) ?_
  refine nwI (N := 30) hC mw_arrayClass_int hK hP hD hS hA (by decide) (by decide) (by decide) (by decide) (by decide) dX6_init_7 (fun q1 H hP hD hS => ?_)
  have hP : va_P D classes [(pl, .inr (6, [.null, .int 0])), (q1, .inl (cyI, 30, .inl (fun _ => 0)))] H := hP
  have hD : va_D A [(pl, .inr (6, [.null, .int 0])), (q1, .inl (cyI, 30, .inl (fun _ => 0)))] := hD
  refine W.widen (k := 1) (n := 30) (by decide) (by decide) ?_
  refine pf (v := .ref q1) hC hK hP hD hS iX6 tyX6_ok nmX6 0 rfl rfl 0 (by decide) mw_fieldLink_RX6_9_MirrorDrill_Pile_numbers_I rfl rfl rfl (Nat.le_of_ble_eq_true rfl) dX6_init_9 (fun H locs hP hD hS => ?_)
  have hP : va_P D classes [(pl, .inr (6, [.ref q1, .int 0])), (q1, .inl (cyI, 30, .inl (fun _ => 0)))] H := hP
  have hD : va_D A [(pl, .inr (6, [.ref q1, .int 0])), (q1, .inl (cyI, 30, .inl (fun _ => 0)))] := hD
  refine lv_aload_n hx hb dX6_init_12 rfl (lv_at hl 0 rfl) ?_
  refine lv_iconst (v := 0) hx hb dX6_init_13 (by decide) ?_
  refine pf (v := .int 0) hC hK hP hD hS iX6 tyX6_ok nmX6 0 rfl rfl 1 (by decide) mw_fieldLink_RX6_15_MirrorDrill_Pile_count_I rfl rfl rfl (Nat.le_of_ble_eq_true rfl) dX6_init_14 (fun H locs hP hD hS => ?_)
  have hP : va_P D classes [(pl, .inr (6, [.ref q1, .int 0])), (q1, .inl (cyI, 30, .inl (fun _ => 0)))] H := hP
  have hD : va_D A [(pl, .inr (6, [.ref q1, .int 0])), (q1, .inl (cyI, 30, .inl (fun _ => 0)))] := hD
  exact retV hC hP hD hS (by decide) (by decide) ([.ref q1, .int 0]) [0] rfl rfl ⟨rfl, rfl⟩ dX6_init_17
set_option maxHeartbeats 4000000 in
set_option maxRecDepth 100000 in
theorem k_X1_init (l : Launch) (D : va_G) (cyB cyI cyJ cyZ : ClassId) (sz : Nat) (cs : Nat) : KV l yX1_init cX1_init 1 1 1 0 D (TYS cyB cyI cyJ cyZ) [(cs, .inr (1, [.null, .int 0, .long 0, .int 0, .int 0]))] sz [.ref cs] (fun (u : List Value × Nat × (Nat → Int64)) => u.1.length = 5 ∧ u.1[0]? = some (.ref u.2.1) ∧ u.1[1]? = some (.int 0)) (fun (u : List Value × Nat × (Nat → Int64)) => ([(cs, .inr (1, u.1)), (u.2.1, .inl (cyJ, 0, .inr (.inl u.2.2)))] : va_W)) := by
  refine entV (by decide) (Nat.le_of_ble_eq_true rfl) ?_
  intro p e s m below meth c ls A hC hl hP hK hD hA
  obtain ⟨hx, hb, hr, hml, hown, hts, hlk, hnm⟩ := id hC
  have hS : va_S A s.heap s.heap [] := va_S.rf
  have hl : lv_has ls 1 [(0, .ref cs)] := hl
  generalize hHe : s.heap = H at hP ⊢
  rw [hHe] at hS
  have hS : va_S A s.heap H [] := by rw [hHe]; exact hS
  refine lv_aload_n hx hb dX1_init_0 rfl (lv_at hl 0 rfl) ?_
  refine W.objInit hx hb hown (hts _ mw_methodLink_RX1_3_objectInit) (hts _ mw_instanceMethod_objectInit) (hts _ mw_code_objectInit_0xb1_1_none) rfl (by rw [hml]; exact hl.1) rfl dX1_init_1 (Nat.le_of_ble_eq_true rfl) (Nat.le_of_ble_eq_true rfl) ?_
  refine W.eq (g2 := F0 m 4 ls []) rfl ?_
  refine lv_aload_n hx hb dX1_init_4 rfl (lv_at hl 0 rfl) ?_
  refine lv_iconst (v := 0) hx hb dX1_init_5 (by decide) ?_
  refine nwJ (N := 0) hC mw_arrayClass_long hK hP hD hS hA (by decide) (by decide) (by decide) (by decide) (by decide) dX1_init_6 (fun q1 H hP hD hS => ?_)
  have hP : va_P D classes [(cs, .inr (1, [.null, .int 0, .long 0, .int 0, .int 0])), (q1, .inl (cyJ, 0, .inr (.inl (fun _ => 0))))] H := hP
  have hD : va_D A [(cs, .inr (1, [.null, .int 0, .long 0, .int 0, .int 0])), (q1, .inl (cyJ, 0, .inr (.inl (fun _ => 0))))] := hD
  refine W.widen (k := 1) (n := 0) (by decide) (by decide) ?_
  refine pf (v := .ref q1) hC hK hP hD hS iX1 tyX1_ok nmX1 0 rfl rfl 0 (by decide) mw_fieldLink_RX1_9_MirrorDrill_Course_rows_J rfl rfl rfl (Nat.le_of_ble_eq_true rfl) dX1_init_8 (fun H locs hP hD hS => ?_)
  have hP : va_P D classes [(cs, .inr (1, [.ref q1, .int 0, .long 0, .int 0, .int 0])), (q1, .inl (cyJ, 0, .inr (.inl (fun _ => 0))))] H := hP
  have hD : va_D A [(cs, .inr (1, [.ref q1, .int 0, .long 0, .int 0, .int 0])), (q1, .inl (cyJ, 0, .inr (.inl (fun _ => 0))))] := hD
  refine lv_aload_n hx hb dX1_init_11 rfl (lv_at hl 0 rfl) ?_
  refine lv_iconst (v := 0) hx hb dX1_init_12 (by decide) ?_
  refine pf (v := .int 0) hC hK hP hD hS iX1 tyX1_ok nmX1 0 rfl rfl 1 (by decide) mw_fieldLink_RX1_15_MirrorDrill_Course_known_Z rfl rfl rfl (Nat.le_of_ble_eq_true rfl) dX1_init_13 (fun H locs hP hD hS => ?_)
  have hP : va_P D classes [(cs, .inr (1, [.ref q1, .int 0, .long 0, .int 0, .int 0])), (q1, .inl (cyJ, 0, .inr (.inl (fun _ => 0))))] H := hP
  have hD : va_D A [(cs, .inr (1, [.ref q1, .int 0, .long 0, .int 0, .int 0])), (q1, .inl (cyJ, 0, .inr (.inl (fun _ => 0))))] := hD
  exact retV hC hP hD hS (by decide) (by decide) ([.ref q1, .int 0, .long 0, .int 0, .int 0], q1, (fun _ => 0)) [0, 1] rfl rfl ⟨rfl, rfl, rfl⟩ dX1_init_16
set_option maxHeartbeats 4000000 in
set_option maxRecDepth 100000 in
theorem k_X5_init (l : Launch) (D : va_G) (cyB cyI cyJ cyZ : ClassId) (sz : Nat) (fo : Nat) : KV l yX5_init cX5_init 1 1 1 0 D (TYS cyB cyI cyJ cyZ) [(fo, .inr (5, [.null, .null, .long 0, .long 0, .long 0]))] sz [.ref fo] (fun (u : List Value × Nat × (Nat → Int64)) => u.1.length = 5 ∧ u.1[0]? = some (.ref u.2.1)) (fun (u : List Value × Nat × (Nat → Int64)) => ([(fo, .inr (5, u.1)), (u.2.1, .inl (cyJ, 0, .inr (.inl u.2.2)))] : va_W)) := by
  refine entV (by decide) (Nat.le_of_ble_eq_true rfl) ?_
  intro p e s m below meth c ls A hC hl hP hK hD hA
  obtain ⟨hx, hb, hr, hml, hown, hts, hlk, hnm⟩ := id hC
  have hS : va_S A s.heap s.heap [] := va_S.rf
  have hl : lv_has ls 1 [(0, .ref fo)] := hl
  generalize hHe : s.heap = H at hP ⊢
  rw [hHe] at hS
  have hS : va_S A s.heap H [] := by rw [hHe]; exact hS
  refine lv_aload_n hx hb dX5_init_0 rfl (lv_at hl 0 rfl) ?_
  refine W.objInit hx hb hown (hts _ mw_methodLink_RX5_3_objectInit) (hts _ mw_instanceMethod_objectInit) (hts _ mw_code_objectInit_0xb1_1_none) rfl (by rw [hml]; exact hl.1) rfl dX5_init_1 (Nat.le_of_ble_eq_true rfl) (Nat.le_of_ble_eq_true rfl) ?_
  refine W.eq (g2 := F0 m 4 ls []) rfl ?_
  refine lv_aload_n hx hb dX5_init_4 rfl (lv_at hl 0 rfl) ?_
  refine lv_iconst (v := 0) hx hb dX5_init_5 (by decide) ?_
  refine nwJ (N := 0) hC mw_arrayClass_long hK hP hD hS hA (by decide) (by decide) (by decide) (by decide) (by decide) dX5_init_6 (fun q1 H hP hD hS => ?_)
  have hP : va_P D classes [(fo, .inr (5, [.null, .null, .long 0, .long 0, .long 0])), (q1, .inl (cyJ, 0, .inr (.inl (fun _ => 0))))] H := hP
  have hD : va_D A [(fo, .inr (5, [.null, .null, .long 0, .long 0, .long 0])), (q1, .inl (cyJ, 0, .inr (.inl (fun _ => 0))))] := hD
  refine W.widen (k := 1) (n := 0) (by decide) (by decide) ?_
  refine pf (v := .ref q1) hC hK hP hD hS iX5 tyX5_ok nmX5 0 rfl rfl 0 (by decide) mw_fieldLink_RX5_9_MirrorDrill_Forebears_ways_J rfl rfl rfl (Nat.le_of_ble_eq_true rfl) dX5_init_8 (fun H locs hP hD hS => ?_)
  have hP : va_P D classes [(fo, .inr (5, [.ref q1, .null, .long 0, .long 0, .long 0])), (q1, .inl (cyJ, 0, .inr (.inl (fun _ => 0))))] H := hP
  have hD : va_D A [(fo, .inr (5, [.ref q1, .null, .long 0, .long 0, .long 0])), (q1, .inl (cyJ, 0, .inr (.inl (fun _ => 0))))] := hD
  exact retV hC hP hD hS (by decide) (by decide) ([.ref q1, .null, .long 0, .long 0, .long 0], q1, (fun _ => 0)) [0, 1] rfl rfl ⟨rfl, rfl⟩ dX5_init_11
set_option maxHeartbeats 4000000 in
set_option maxRecDepth 100000 in
theorem k_X4_init (l : Launch) (D : va_G) (cyB cyI cyJ cyZ : ClassId) (sz : Nat) (en : Nat) : KV l yX4_init cX4_init 1 1 5 208 D (TYS cyB cyI cyJ cyZ) [(en, .inr (4, [.null, .int 0, .int 0, .int 0, .null, .null, .int 0, .null, .null, .null]))] sz [.ref en] (fun (u : Unit) => True) (fun (u : Unit) => ([] : va_W)) := by
  refine entV (by decide) (Nat.le_of_ble_eq_true rfl) ?_
  intro p e s m below meth c ls A hC hl hP hK hD hA
  obtain ⟨hx, hb, hr, hml, hown, hts, hlk, hnm⟩ := id hC
  have hS : va_S A s.heap s.heap [] := va_S.rf
  have hl : lv_has ls 1 [(0, .ref en)] := hl
  generalize hHe : s.heap = H at hP ⊢
  rw [hHe] at hS
  have hS : va_S A s.heap H [] := by rw [hHe]; exact hS
  refine lv_aload_n hx hb dX4_init_0 rfl (lv_at hl 0 rfl) ?_
  refine W.objInit hx hb hown (hts _ mw_methodLink_RX4_5_objectInit) (hts _ mw_instanceMethod_objectInit) (hts _ mw_code_objectInit_0xb1_1_none) rfl (by rw [hml]; exact hl.1) rfl dX4_init_1 (Nat.le_of_ble_eq_true rfl) (Nat.le_of_ble_eq_true rfl) ?_
  refine W.eq (g2 := F0 m 4 ls []) rfl ?_
  refine lv_aload_n hx hb dX4_init_4 rfl (lv_at hl 0 rfl) ?_
  refine lv_bipush (v := 64) hx hb dX4_init_5 (by decide) ?_
  refine nwJ (N := 64) hC mw_arrayClass_long hK hP hD hS hA (by decide) (by decide) (by decide) (by decide) (by decide) dX4_init_7 (fun q1 H hP hD hS => ?_)
  have hP : va_P D classes [(en, .inr (4, [.null, .int 0, .int 0, .int 0, .null, .null, .int 0, .null, .null, .null])), (q1, .inl (cyJ, 64, .inr (.inl (fun _ => 0))))] H := hP
  have hD : va_D A [(en, .inr (4, [.null, .int 0, .int 0, .int 0, .null, .null, .int 0, .null, .null, .null])), (q1, .inl (cyJ, 64, .inr (.inl (fun _ => 0))))] := hD
  refine W.widen (k := 1) (n := 64) (by decide) (by decide) ?_
  refine pfF (v := .ref q1) hC hK hP hD hS iX4 tyX4_ok nmX4 0 rfl rfl 4 (by decide) mw_fieldLink_RX4_11_MirrorDrill_Endless_leads_J rfl rfl rfl rfl (Nat.le_of_ble_eq_true rfl) dX4_init_9 (fun H locs hP hD hS => ?_)
  have hP : va_P D classes [(en, .inr (4, [.null, .int 0, .int 0, .int 0, .ref q1, .null, .int 0, .null, .null, .null])), (q1, .inl (cyJ, 64, .inr (.inl (fun _ => 0))))] H := hP
  have hD : va_D A [(en, .inr (4, [.null, .int 0, .int 0, .int 0, .ref q1, .null, .int 0, .null, .null, .null])), (q1, .inl (cyJ, 64, .inr (.inl (fun _ => 0))))] := hD
  refine lv_aload_n hx hb dX4_init_12 rfl (lv_at hl 0 rfl) ?_
  refine lv_bipush (v := 64) hx hb dX4_init_13 (by decide) ?_
  refine nwI (N := 64) hC mw_arrayClass_int hK hP hD hS hA (by decide) (by decide) (by decide) (by decide) (by decide) dX4_init_15 (fun q2 H hP hD hS => ?_)
  have hP : va_P D classes [(en, .inr (4, [.null, .int 0, .int 0, .int 0, .ref q1, .null, .int 0, .null, .null, .null])), (q1, .inl (cyJ, 64, .inr (.inl (fun _ => 0)))), (q2, .inl (cyI, 64, .inl (fun _ => 0)))] H := hP
  have hD : va_D A [(en, .inr (4, [.null, .int 0, .int 0, .int 0, .ref q1, .null, .int 0, .null, .null, .null])), (q1, .inl (cyJ, 64, .inr (.inl (fun _ => 0)))), (q2, .inl (cyI, 64, .inl (fun _ => 0)))] := hD
  refine W.widen (k := 2) (n := 128) (by decide) (by decide) ?_
  refine pf (v := .ref q2) hC hK hP hD hS iX4 tyX4_ok nmX4 0 rfl rfl 5 (by decide) mw_fieldLink_RX4_15_MirrorDrill_Endless_queue_I rfl rfl rfl (Nat.le_of_ble_eq_true rfl) dX4_init_17 (fun H locs hP hD hS => ?_)
  have hP : va_P D classes [(en, .inr (4, [.null, .int 0, .int 0, .int 0, .ref q1, .ref q2, .int 0, .null, .null, .null])), (q1, .inl (cyJ, 64, .inr (.inl (fun _ => 0)))), (q2, .inl (cyI, 64, .inl (fun _ => 0)))] H := hP
  have hD : va_D A [(en, .inr (4, [.null, .int 0, .int 0, .int 0, .ref q1, .ref q2, .int 0, .null, .null, .null])), (q1, .inl (cyJ, 64, .inr (.inl (fun _ => 0)))), (q2, .inl (cyI, 64, .inl (fun _ => 0)))] := hD
  refine lv_aload_n hx hb dX4_init_20 rfl (lv_at hl 0 rfl) ?_
  refine lv_iconst (v := 0) hx hb dX4_init_21 (by decide) ?_
  refine nwI (N := 0) hC mw_arrayClass_int hK hP hD hS hA (by decide) (by decide) (by decide) (by decide) (by decide) dX4_init_22 (fun q3 H hP hD hS => ?_)
  have hP : va_P D classes [(en, .inr (4, [.null, .int 0, .int 0, .int 0, .ref q1, .ref q2, .int 0, .null, .null, .null])), (q1, .inl (cyJ, 64, .inr (.inl (fun _ => 0)))), (q2, .inl (cyI, 64, .inl (fun _ => 0))), (q3, .inl (cyI, 0, .inl (fun _ => 0)))] H := hP
  have hD : va_D A [(en, .inr (4, [.null, .int 0, .int 0, .int 0, .ref q1, .ref q2, .int 0, .null, .null, .null])), (q1, .inl (cyJ, 64, .inr (.inl (fun _ => 0)))), (q2, .inl (cyI, 64, .inl (fun _ => 0))), (q3, .inl (cyI, 0, .inl (fun _ => 0)))] := hD
  refine W.widen (k := 3) (n := 128) (by decide) (by decide) ?_
  refine pf (v := .ref q3) hC hK hP hD hS iX4 tyX4_ok nmX4 0 rfl rfl 7 (by decide) mw_fieldLink_RX4_19_MirrorDrill_Endless_met_I rfl rfl rfl (Nat.le_of_ble_eq_true rfl) dX4_init_24 (fun H locs hP hD hS => ?_)
  have hP : va_P D classes [(en, .inr (4, [.null, .int 0, .int 0, .int 0, .ref q1, .ref q2, .int 0, .ref q3, .null, .null])), (q1, .inl (cyJ, 64, .inr (.inl (fun _ => 0)))), (q2, .inl (cyI, 64, .inl (fun _ => 0))), (q3, .inl (cyI, 0, .inl (fun _ => 0)))] H := hP
  have hD : va_D A [(en, .inr (4, [.null, .int 0, .int 0, .int 0, .ref q1, .ref q2, .int 0, .ref q3, .null, .null])), (q1, .inl (cyJ, 64, .inr (.inl (fun _ => 0)))), (q2, .inl (cyI, 64, .inl (fun _ => 0))), (q3, .inl (cyI, 0, .inl (fun _ => 0)))] := hD
  refine lv_aload_n hx hb dX4_init_27 rfl (lv_at hl 0 rfl) ?_
  refine lv_bipush (v := 16) hx hb dX4_init_28 (by decide) ?_
  refine nwI (N := 16) hC mw_arrayClass_int hK hP hD hS hA (by decide) (by decide) (by decide) (by decide) (by decide) dX4_init_30 (fun q4 H hP hD hS => ?_)
  have hP : va_P D classes [(en, .inr (4, [.null, .int 0, .int 0, .int 0, .ref q1, .ref q2, .int 0, .ref q3, .null, .null])), (q1, .inl (cyJ, 64, .inr (.inl (fun _ => 0)))), (q2, .inl (cyI, 64, .inl (fun _ => 0))), (q3, .inl (cyI, 0, .inl (fun _ => 0))), (q4, .inl (cyI, 16, .inl (fun _ => 0)))] H := hP
  have hD : va_D A [(en, .inr (4, [.null, .int 0, .int 0, .int 0, .ref q1, .ref q2, .int 0, .ref q3, .null, .null])), (q1, .inl (cyJ, 64, .inr (.inl (fun _ => 0)))), (q2, .inl (cyI, 64, .inl (fun _ => 0))), (q3, .inl (cyI, 0, .inl (fun _ => 0))), (q4, .inl (cyI, 16, .inl (fun _ => 0)))] := hD
  refine W.widen (k := 4) (n := 144) (by decide) (by decide) ?_
  refine pfF (v := .ref q4) hC hK hP hD hS iX4 tyX4_ok nmX4 0 rfl rfl 8 (by decide) mw_fieldLink_RX4_22_MirrorDrill_Endless_alike_I rfl rfl rfl rfl (Nat.le_of_ble_eq_true rfl) dX4_init_32 (fun H locs hP hD hS => ?_)
  have hP : va_P D classes [(en, .inr (4, [.null, .int 0, .int 0, .int 0, .ref q1, .ref q2, .int 0, .ref q3, .ref q4, .null])), (q1, .inl (cyJ, 64, .inr (.inl (fun _ => 0)))), (q2, .inl (cyI, 64, .inl (fun _ => 0))), (q3, .inl (cyI, 0, .inl (fun _ => 0))), (q4, .inl (cyI, 16, .inl (fun _ => 0)))] H := hP
  have hD : va_D A [(en, .inr (4, [.null, .int 0, .int 0, .int 0, .ref q1, .ref q2, .int 0, .ref q3, .ref q4, .null])), (q1, .inl (cyJ, 64, .inr (.inl (fun _ => 0)))), (q2, .inl (cyI, 64, .inl (fun _ => 0))), (q3, .inl (cyI, 0, .inl (fun _ => 0))), (q4, .inl (cyI, 16, .inl (fun _ => 0)))] := hD
  refine lv_aload_n hx hb dX4_init_35 rfl (lv_at hl 0 rfl) ?_
  refine lv_bipush (v := 64) hx hb dX4_init_36 (by decide) ?_
  refine nwI (N := 64) hC mw_arrayClass_int hK hP hD hS hA (by decide) (by decide) (by decide) (by decide) (by decide) dX4_init_38 (fun q5 H hP hD hS => ?_)
  have hP : va_P D classes [(en, .inr (4, [.null, .int 0, .int 0, .int 0, .ref q1, .ref q2, .int 0, .ref q3, .ref q4, .null])), (q1, .inl (cyJ, 64, .inr (.inl (fun _ => 0)))), (q2, .inl (cyI, 64, .inl (fun _ => 0))), (q3, .inl (cyI, 0, .inl (fun _ => 0))), (q4, .inl (cyI, 16, .inl (fun _ => 0))), (q5, .inl (cyI, 64, .inl (fun _ => 0)))] H := hP
  have hD : va_D A [(en, .inr (4, [.null, .int 0, .int 0, .int 0, .ref q1, .ref q2, .int 0, .ref q3, .ref q4, .null])), (q1, .inl (cyJ, 64, .inr (.inl (fun _ => 0)))), (q2, .inl (cyI, 64, .inl (fun _ => 0))), (q3, .inl (cyI, 0, .inl (fun _ => 0))), (q4, .inl (cyI, 16, .inl (fun _ => 0))), (q5, .inl (cyI, 64, .inl (fun _ => 0)))] := hD
  refine W.widen (k := 5) (n := 208) (by decide) (by decide) ?_
  refine pfF (v := .ref q5) hC hK hP hD hS iX4 tyX4_ok nmX4 0 rfl rfl 9 (by decide) mw_fieldLink_RX4_25_MirrorDrill_Endless_gains_I rfl rfl rfl rfl (Nat.le_of_ble_eq_true rfl) dX4_init_40 (fun H locs hP hD hS => ?_)
  have hP : va_P D classes [(en, .inr (4, [.null, .int 0, .int 0, .int 0, .ref q1, .ref q2, .int 0, .ref q3, .ref q4, .ref q5])), (q1, .inl (cyJ, 64, .inr (.inl (fun _ => 0)))), (q2, .inl (cyI, 64, .inl (fun _ => 0))), (q3, .inl (cyI, 0, .inl (fun _ => 0))), (q4, .inl (cyI, 16, .inl (fun _ => 0))), (q5, .inl (cyI, 64, .inl (fun _ => 0)))] H := hP
  have hD : va_D A [(en, .inr (4, [.null, .int 0, .int 0, .int 0, .ref q1, .ref q2, .int 0, .ref q3, .ref q4, .ref q5])), (q1, .inl (cyJ, 64, .inr (.inl (fun _ => 0)))), (q2, .inl (cyI, 64, .inl (fun _ => 0))), (q3, .inl (cyI, 0, .inl (fun _ => 0))), (q4, .inl (cyI, 16, .inl (fun _ => 0))), (q5, .inl (cyI, 64, .inl (fun _ => 0)))] := hD
  exact retV hC hP hD hS (by decide) (by decide) () [] rfl rfl trivial dX4_init_43
set_option maxHeartbeats 4000000 in
set_option maxRecDepth 100000 in
theorem k_X0_init (l : Launch) (D : va_G) (cyB cyI cyJ cyZ : ClassId) (sz : Nat) (ch : Nat) : KV l yX0_init cX0_init 1 1 3 37 D (TYS cyB cyI cyJ cyZ) [(ch, .inr (0, [.null, .long 0, .int 0, .int 0, .int 0, .null, .int 0, .null, .null]))] sz [.ref ch] (fun (u : Unit) => True) (fun (u : Unit) => ([] : va_W)) := by
  refine entV (by decide) (Nat.le_of_ble_eq_true rfl) ?_
  intro p e s m below meth c ls A hC hl hP hK hD hA
  obtain ⟨hx, hb, hr, hml, hown, hts, hlk, hnm⟩ := id hC
  have hS : va_S A s.heap s.heap [] := va_S.rf
  have hl : lv_has ls 1 [(0, .ref ch)] := hl
  generalize hHe : s.heap = H at hP ⊢
  rw [hHe] at hS
  have hS : va_S A s.heap H [] := by rw [hHe]; exact hS
  refine lv_aload_n hx hb dX0_init_0 rfl (lv_at hl 0 rfl) ?_
  refine W.objInit hx hb hown (hts _ mw_methodLink_RX0_3_objectInit) (hts _ mw_instanceMethod_objectInit) (hts _ mw_code_objectInit_0xb1_1_none) rfl (by rw [hml]; exact hl.1) rfl dX0_init_1 (Nat.le_of_ble_eq_true rfl) (Nat.le_of_ble_eq_true rfl) ?_
  refine W.eq (g2 := F0 m 4 ls []) rfl ?_
  refine lv_aload_n hx hb dX0_init_4 rfl (lv_at hl 0 rfl) ?_
  refine lv_bipush (v := 31) hx hb dX0_init_5 (by decide) ?_
  refine nwJ (N := 31) hC mw_arrayClass_long hK hP hD hS hA (by decide) (by decide) (by decide) (by decide) (by decide) dX0_init_7 (fun q1 H hP hD hS => ?_)
  have hP : va_P D classes [(ch, .inr (0, [.null, .long 0, .int 0, .int 0, .int 0, .null, .int 0, .null, .null])), (q1, .inl (cyJ, 31, .inr (.inl (fun _ => 0))))] H := hP
  have hD : va_D A [(ch, .inr (0, [.null, .long 0, .int 0, .int 0, .int 0, .null, .int 0, .null, .null])), (q1, .inl (cyJ, 31, .inr (.inl (fun _ => 0))))] := hD
  refine W.widen (k := 1) (n := 31) (by decide) (by decide) ?_
  refine pfF (v := .ref q1) hC hK hP hD hS iX0 tyX0_ok nmX0 0 rfl rfl 5 (by decide) mw_fieldLink_RX0_9_MirrorDrill_Changes_plain_J rfl rfl rfl rfl (Nat.le_of_ble_eq_true rfl) dX0_init_9 (fun H locs hP hD hS => ?_)
  have hP : va_P D classes [(ch, .inr (0, [.null, .long 0, .int 0, .int 0, .int 0, .ref q1, .int 0, .null, .null])), (q1, .inl (cyJ, 31, .inr (.inl (fun _ => 0))))] H := hP
  have hD : va_D A [(ch, .inr (0, [.null, .long 0, .int 0, .int 0, .int 0, .ref q1, .int 0, .null, .null])), (q1, .inl (cyJ, 31, .inr (.inl (fun _ => 0))))] := hD
  refine lv_aload_n hx hb dX0_init_12 rfl (lv_at hl 0 rfl) ?_
  refine lv_iconst (v := 3) hx hb dX0_init_13 (by decide) ?_
  refine nwI (N := 3) hC mw_arrayClass_int hK hP hD hS hA (by decide) (by decide) (by decide) (by decide) (by decide) dX0_init_14 (fun q2 H hP hD hS => ?_)
  have hP : va_P D classes [(ch, .inr (0, [.null, .long 0, .int 0, .int 0, .int 0, .ref q1, .int 0, .null, .null])), (q1, .inl (cyJ, 31, .inr (.inl (fun _ => 0)))), (q2, .inl (cyI, 3, .inl (fun _ => 0)))] H := hP
  have hD : va_D A [(ch, .inr (0, [.null, .long 0, .int 0, .int 0, .int 0, .ref q1, .int 0, .null, .null])), (q1, .inl (cyJ, 31, .inr (.inl (fun _ => 0)))), (q2, .inl (cyI, 3, .inl (fun _ => 0)))] := hD
  refine W.widen (k := 2) (n := 34) (by decide) (by decide) ?_
  refine pfF (v := .ref q2) hC hK hP hD hS iX0 tyX0_ok nmX0 0 rfl rfl 7 (by decide) mw_fieldLink_RX0_15_MirrorDrill_Changes_men_I rfl rfl rfl rfl (Nat.le_of_ble_eq_true rfl) dX0_init_16 (fun H locs hP hD hS => ?_)
  have hP : va_P D classes [(ch, .inr (0, [.null, .long 0, .int 0, .int 0, .int 0, .ref q1, .int 0, .ref q2, .null])), (q1, .inl (cyJ, 31, .inr (.inl (fun _ => 0)))), (q2, .inl (cyI, 3, .inl (fun _ => 0)))] H := hP
  have hD : va_D A [(ch, .inr (0, [.null, .long 0, .int 0, .int 0, .int 0, .ref q1, .int 0, .ref q2, .null])), (q1, .inl (cyJ, 31, .inr (.inl (fun _ => 0)))), (q2, .inl (cyI, 3, .inl (fun _ => 0)))] := hD
  refine lv_aload_n hx hb dX0_init_19 rfl (lv_at hl 0 rfl) ?_
  refine lv_iconst (v := 3) hx hb dX0_init_20 (by decide) ?_
  refine nwI (N := 3) hC mw_arrayClass_int hK hP hD hS hA (by decide) (by decide) (by decide) (by decide) (by decide) dX0_init_21 (fun q3 H hP hD hS => ?_)
  have hP : va_P D classes [(ch, .inr (0, [.null, .long 0, .int 0, .int 0, .int 0, .ref q1, .int 0, .ref q2, .null])), (q1, .inl (cyJ, 31, .inr (.inl (fun _ => 0)))), (q2, .inl (cyI, 3, .inl (fun _ => 0))), (q3, .inl (cyI, 3, .inl (fun _ => 0)))] H := hP
  have hD : va_D A [(ch, .inr (0, [.null, .long 0, .int 0, .int 0, .int 0, .ref q1, .int 0, .ref q2, .null])), (q1, .inl (cyJ, 31, .inr (.inl (fun _ => 0)))), (q2, .inl (cyI, 3, .inl (fun _ => 0))), (q3, .inl (cyI, 3, .inl (fun _ => 0)))] := hD
  refine W.widen (k := 3) (n := 37) (by decide) (by decide) ?_
  refine pfF (v := .ref q3) hC hK hP hD hS iX0 tyX0_ok nmX0 0 rfl rfl 8 (by decide) mw_fieldLink_RX0_19_MirrorDrill_Changes_moves_I rfl rfl rfl rfl (Nat.le_of_ble_eq_true rfl) dX0_init_23 (fun H locs hP hD hS => ?_)
  have hP : va_P D classes [(ch, .inr (0, [.null, .long 0, .int 0, .int 0, .int 0, .ref q1, .int 0, .ref q2, .ref q3])), (q1, .inl (cyJ, 31, .inr (.inl (fun _ => 0)))), (q2, .inl (cyI, 3, .inl (fun _ => 0))), (q3, .inl (cyI, 3, .inl (fun _ => 0)))] H := hP
  have hD : va_D A [(ch, .inr (0, [.null, .long 0, .int 0, .int 0, .int 0, .ref q1, .int 0, .ref q2, .ref q3])), (q1, .inl (cyJ, 31, .inr (.inl (fun _ => 0)))), (q2, .inl (cyI, 3, .inl (fun _ => 0))), (q3, .inl (cyI, 3, .inl (fun _ => 0)))] := hD
  exact retV hC hP hD hS (by decide) (by decide) () [] rfl rfl trivial dX0_init_26
set_option maxHeartbeats 4000000 in
set_option maxRecDepth 100000 in
theorem k_X8_init (l : Launch) (D : va_G) (cyB cyI cyJ cyZ : ClassId) (sz : Nat) (wt : Nat) : KV l yX8_init cX8_init 1 1 9 248 D (TYS cyB cyI cyJ cyZ) [(wt, .inr (8, [.null, .null, .null, .null, .null, .int 0, .int 0, .null, .null, .int 0, .int 0, .null, .null, .int 0, .int 0, .int 0, .null]))] sz [.ref wt] (fun (u : List Value × Nat × Nat × Nat × (Nat → Int64) × (Nat → Int64) × (Nat → Int32)) => u.1.length = 17 ∧ u.1[5]? = some (.int 0) ∧ u.1[6]? = some (.int 0) ∧ u.1[7]? = some (.ref u.2.1) ∧ u.1[8]? = some (.ref u.2.2.1) ∧ u.1[13]? = some (.int 0) ∧ u.1[16]? = some (.ref u.2.2.2.1)) (fun (u : List Value × Nat × Nat × Nat × (Nat → Int64) × (Nat → Int64) × (Nat → Int32)) => ([(wt, .inr (8, u.1)), (u.2.1, .inl (cyJ, 31, .inr (.inl u.2.2.2.2.1))), (u.2.2.1, .inl (cyJ, 31, .inr (.inl u.2.2.2.2.2.1))), (u.2.2.2.1, .inl (cyI, 30, .inl u.2.2.2.2.2.2))] : va_W)) := by
  refine entV (by decide) (Nat.le_of_ble_eq_true rfl) ?_
  intro p e s m below meth c ls A hC hl hP hK hD hA
  obtain ⟨hx, hb, hr, hml, hown, hts, hlk, hnm⟩ := id hC
  have hS : va_S A s.heap s.heap [] := va_S.rf
  have hl : lv_has ls 1 [(0, .ref wt)] := hl
  generalize hHe : s.heap = H at hP ⊢
  rw [hHe] at hS
  have hS : va_S A s.heap H [] := by rw [hHe]; exact hS
  refine lv_aload_n hx hb dX8_init_0 rfl (lv_at hl 0 rfl) ?_
  refine W.objInit hx hb hown (hts _ mw_methodLink_RX8_3_objectInit) (hts _ mw_instanceMethod_objectInit) (hts _ mw_code_objectInit_0xb1_1_none) rfl (by rw [hml]; exact hl.1) rfl dX8_init_1 (Nat.le_of_ble_eq_true rfl) (Nat.le_of_ble_eq_true rfl) ?_
  refine W.eq (g2 := F0 m 4 ls []) rfl ?_
  refine lv_aload_n hx hb dX8_init_4 rfl (lv_at hl 0 rfl) ?_
  refine lv_bipush (v := 30) hx hb dX8_init_5 (by decide) ?_
  refine nwI (N := 30) hC mw_arrayClass_int hK hP hD hS hA (by decide) (by decide) (by decide) (by decide) (by decide) dX8_init_7 (fun q1 H hP hD hS => ?_)
  have hP : va_P D classes [(wt, .inr (8, [.null, .null, .null, .null, .null, .int 0, .int 0, .null, .null, .int 0, .int 0, .null, .null, .int 0, .int 0, .int 0, .null])), (q1, .inl (cyI, 30, .inl (fun _ => 0)))] H := hP
  have hD : va_D A [(wt, .inr (8, [.null, .null, .null, .null, .null, .int 0, .int 0, .null, .null, .int 0, .int 0, .null, .null, .int 0, .int 0, .int 0, .null])), (q1, .inl (cyI, 30, .inl (fun _ => 0)))] := hD
  refine W.widen (k := 1) (n := 30) (by decide) (by decide) ?_
  refine pfF (v := .ref q1) hC hK hP hD hS iX8 tyX8_ok nmX8 0 rfl rfl 0 (by decide) mw_fieldLink_RX8_9_MirrorDrill_Witness_beatOf_I rfl rfl rfl rfl (Nat.le_of_ble_eq_true rfl) dX8_init_9 (fun H locs hP hD hS => ?_)
  have hP : va_P D classes [(wt, .inr (8, [.ref q1, .null, .null, .null, .null, .int 0, .int 0, .null, .null, .int 0, .int 0, .null, .null, .int 0, .int 0, .int 0, .null])), (q1, .inl (cyI, 30, .inl (fun _ => 0)))] H := hP
  have hD : va_D A [(wt, .inr (8, [.ref q1, .null, .null, .null, .null, .int 0, .int 0, .null, .null, .int 0, .int 0, .null, .null, .int 0, .int 0, .int 0, .null])), (q1, .inl (cyI, 30, .inl (fun _ => 0)))] := hD
  refine lv_aload_n hx hb dX8_init_12 rfl (lv_at hl 0 rfl) ?_
  refine lv_bipush (v := 30) hx hb dX8_init_13 (by decide) ?_
  refine nwI (N := 30) hC mw_arrayClass_int hK hP hD hS hA (by decide) (by decide) (by decide) (by decide) (by decide) dX8_init_15 (fun q2 H hP hD hS => ?_)
  have hP : va_P D classes [(wt, .inr (8, [.ref q1, .null, .null, .null, .null, .int 0, .int 0, .null, .null, .int 0, .int 0, .null, .null, .int 0, .int 0, .int 0, .null])), (q1, .inl (cyI, 30, .inl (fun _ => 0))), (q2, .inl (cyI, 30, .inl (fun _ => 0)))] H := hP
  have hD : va_D A [(wt, .inr (8, [.ref q1, .null, .null, .null, .null, .int 0, .int 0, .null, .null, .int 0, .int 0, .null, .null, .int 0, .int 0, .int 0, .null])), (q1, .inl (cyI, 30, .inl (fun _ => 0))), (q2, .inl (cyI, 30, .inl (fun _ => 0)))] := hD
  refine W.widen (k := 2) (n := 60) (by decide) (by decide) ?_
  refine pfF (v := .ref q2) hC hK hP hD hS iX8 tyX8_ok nmX8 0 rfl rfl 1 (by decide) mw_fieldLink_RX8_15_MirrorDrill_Witness_manOf_I rfl rfl rfl rfl (Nat.le_of_ble_eq_true rfl) dX8_init_17 (fun H locs hP hD hS => ?_)
  have hP : va_P D classes [(wt, .inr (8, [.ref q1, .ref q2, .null, .null, .null, .int 0, .int 0, .null, .null, .int 0, .int 0, .null, .null, .int 0, .int 0, .int 0, .null])), (q1, .inl (cyI, 30, .inl (fun _ => 0))), (q2, .inl (cyI, 30, .inl (fun _ => 0)))] H := hP
  have hD : va_D A [(wt, .inr (8, [.ref q1, .ref q2, .null, .null, .null, .int 0, .int 0, .null, .null, .int 0, .int 0, .null, .null, .int 0, .int 0, .int 0, .null])), (q1, .inl (cyI, 30, .inl (fun _ => 0))), (q2, .inl (cyI, 30, .inl (fun _ => 0)))] := hD
  refine lv_aload_n hx hb dX8_init_20 rfl (lv_at hl 0 rfl) ?_
  refine lv_bipush (v := 30) hx hb dX8_init_21 (by decide) ?_
  refine nwI (N := 30) hC mw_arrayClass_int hK hP hD hS hA (by decide) (by decide) (by decide) (by decide) (by decide) dX8_init_23 (fun q3 H hP hD hS => ?_)
  have hP : va_P D classes [(wt, .inr (8, [.ref q1, .ref q2, .null, .null, .null, .int 0, .int 0, .null, .null, .int 0, .int 0, .null, .null, .int 0, .int 0, .int 0, .null])), (q1, .inl (cyI, 30, .inl (fun _ => 0))), (q2, .inl (cyI, 30, .inl (fun _ => 0))), (q3, .inl (cyI, 30, .inl (fun _ => 0)))] H := hP
  have hD : va_D A [(wt, .inr (8, [.ref q1, .ref q2, .null, .null, .null, .int 0, .int 0, .null, .null, .int 0, .int 0, .null, .null, .int 0, .int 0, .int 0, .null])), (q1, .inl (cyI, 30, .inl (fun _ => 0))), (q2, .inl (cyI, 30, .inl (fun _ => 0))), (q3, .inl (cyI, 30, .inl (fun _ => 0)))] := hD
  refine W.widen (k := 3) (n := 90) (by decide) (by decide) ?_
  refine pfF (v := .ref q3) hC hK hP hD hS iX8 tyX8_ok nmX8 0 rfl rfl 2 (by decide) mw_fieldLink_RX8_18_MirrorDrill_Witness_moveOf_I rfl rfl rfl rfl (Nat.le_of_ble_eq_true rfl) dX8_init_25 (fun H locs hP hD hS => ?_)
  have hP : va_P D classes [(wt, .inr (8, [.ref q1, .ref q2, .ref q3, .null, .null, .int 0, .int 0, .null, .null, .int 0, .int 0, .null, .null, .int 0, .int 0, .int 0, .null])), (q1, .inl (cyI, 30, .inl (fun _ => 0))), (q2, .inl (cyI, 30, .inl (fun _ => 0))), (q3, .inl (cyI, 30, .inl (fun _ => 0)))] H := hP
  have hD : va_D A [(wt, .inr (8, [.ref q1, .ref q2, .ref q3, .null, .null, .int 0, .int 0, .null, .null, .int 0, .int 0, .null, .null, .int 0, .int 0, .int 0, .null])), (q1, .inl (cyI, 30, .inl (fun _ => 0))), (q2, .inl (cyI, 30, .inl (fun _ => 0))), (q3, .inl (cyI, 30, .inl (fun _ => 0)))] := hD
  refine lv_aload_n hx hb dX8_init_28 rfl (lv_at hl 0 rfl) ?_
  refine lv_bipush (v := 30) hx hb dX8_init_29 (by decide) ?_
  refine nwI (N := 30) hC mw_arrayClass_int hK hP hD hS hA (by decide) (by decide) (by decide) (by decide) (by decide) dX8_init_31 (fun q4 H hP hD hS => ?_)
  have hP : va_P D classes [(wt, .inr (8, [.ref q1, .ref q2, .ref q3, .null, .null, .int 0, .int 0, .null, .null, .int 0, .int 0, .null, .null, .int 0, .int 0, .int 0, .null])), (q1, .inl (cyI, 30, .inl (fun _ => 0))), (q2, .inl (cyI, 30, .inl (fun _ => 0))), (q3, .inl (cyI, 30, .inl (fun _ => 0))), (q4, .inl (cyI, 30, .inl (fun _ => 0)))] H := hP
  have hD : va_D A [(wt, .inr (8, [.ref q1, .ref q2, .ref q3, .null, .null, .int 0, .int 0, .null, .null, .int 0, .int 0, .null, .null, .int 0, .int 0, .int 0, .null])), (q1, .inl (cyI, 30, .inl (fun _ => 0))), (q2, .inl (cyI, 30, .inl (fun _ => 0))), (q3, .inl (cyI, 30, .inl (fun _ => 0))), (q4, .inl (cyI, 30, .inl (fun _ => 0)))] := hD
  refine W.widen (k := 4) (n := 120) (by decide) (by decide) ?_
  refine pfF (v := .ref q4) hC hK hP hD hS iX8 tyX8_ok nmX8 0 rfl rfl 3 (by decide) mw_fieldLink_RX8_21_MirrorDrill_Witness_toldAt_I rfl rfl rfl rfl (Nat.le_of_ble_eq_true rfl) dX8_init_33 (fun H locs hP hD hS => ?_)
  have hP : va_P D classes [(wt, .inr (8, [.ref q1, .ref q2, .ref q3, .ref q4, .null, .int 0, .int 0, .null, .null, .int 0, .int 0, .null, .null, .int 0, .int 0, .int 0, .null])), (q1, .inl (cyI, 30, .inl (fun _ => 0))), (q2, .inl (cyI, 30, .inl (fun _ => 0))), (q3, .inl (cyI, 30, .inl (fun _ => 0))), (q4, .inl (cyI, 30, .inl (fun _ => 0)))] H := hP
  have hD : va_D A [(wt, .inr (8, [.ref q1, .ref q2, .ref q3, .ref q4, .null, .int 0, .int 0, .null, .null, .int 0, .int 0, .null, .null, .int 0, .int 0, .int 0, .null])), (q1, .inl (cyI, 30, .inl (fun _ => 0))), (q2, .inl (cyI, 30, .inl (fun _ => 0))), (q3, .inl (cyI, 30, .inl (fun _ => 0))), (q4, .inl (cyI, 30, .inl (fun _ => 0)))] := hD
  refine lv_aload_n hx hb dX8_init_36 rfl (lv_at hl 0 rfl) ?_
  refine lv_bipush (v := 30) hx hb dX8_init_37 (by decide) ?_
  refine nwI (N := 30) hC mw_arrayClass_int hK hP hD hS hA (by decide) (by decide) (by decide) (by decide) (by decide) dX8_init_39 (fun q5 H hP hD hS => ?_)
  have hP : va_P D classes [(wt, .inr (8, [.ref q1, .ref q2, .ref q3, .ref q4, .null, .int 0, .int 0, .null, .null, .int 0, .int 0, .null, .null, .int 0, .int 0, .int 0, .null])), (q1, .inl (cyI, 30, .inl (fun _ => 0))), (q2, .inl (cyI, 30, .inl (fun _ => 0))), (q3, .inl (cyI, 30, .inl (fun _ => 0))), (q4, .inl (cyI, 30, .inl (fun _ => 0))), (q5, .inl (cyI, 30, .inl (fun _ => 0)))] H := hP
  have hD : va_D A [(wt, .inr (8, [.ref q1, .ref q2, .ref q3, .ref q4, .null, .int 0, .int 0, .null, .null, .int 0, .int 0, .null, .null, .int 0, .int 0, .int 0, .null])), (q1, .inl (cyI, 30, .inl (fun _ => 0))), (q2, .inl (cyI, 30, .inl (fun _ => 0))), (q3, .inl (cyI, 30, .inl (fun _ => 0))), (q4, .inl (cyI, 30, .inl (fun _ => 0))), (q5, .inl (cyI, 30, .inl (fun _ => 0)))] := hD
  refine W.widen (k := 5) (n := 150) (by decide) (by decide) ?_
  refine pfF (v := .ref q5) hC hK hP hD hS iX8 tyX8_ok nmX8 0 rfl rfl 4 (by decide) mw_fieldLink_RX8_24_MirrorDrill_Witness_untoldAt_I rfl rfl rfl rfl (Nat.le_of_ble_eq_true rfl) dX8_init_41 (fun H locs hP hD hS => ?_)
  have hP : va_P D classes [(wt, .inr (8, [.ref q1, .ref q2, .ref q3, .ref q4, .ref q5, .int 0, .int 0, .null, .null, .int 0, .int 0, .null, .null, .int 0, .int 0, .int 0, .null])), (q1, .inl (cyI, 30, .inl (fun _ => 0))), (q2, .inl (cyI, 30, .inl (fun _ => 0))), (q3, .inl (cyI, 30, .inl (fun _ => 0))), (q4, .inl (cyI, 30, .inl (fun _ => 0))), (q5, .inl (cyI, 30, .inl (fun _ => 0)))] H := hP
  have hD : va_D A [(wt, .inr (8, [.ref q1, .ref q2, .ref q3, .ref q4, .ref q5, .int 0, .int 0, .null, .null, .int 0, .int 0, .null, .null, .int 0, .int 0, .int 0, .null])), (q1, .inl (cyI, 30, .inl (fun _ => 0))), (q2, .inl (cyI, 30, .inl (fun _ => 0))), (q3, .inl (cyI, 30, .inl (fun _ => 0))), (q4, .inl (cyI, 30, .inl (fun _ => 0))), (q5, .inl (cyI, 30, .inl (fun _ => 0)))] := hD
  refine lv_aload_n hx hb dX8_init_44 rfl (lv_at hl 0 rfl) ?_
  refine lv_iconst (v := 0) hx hb dX8_init_45 (by decide) ?_
  refine pf (v := .int 0) hC hK hP hD hS iX8 tyX8_ok nmX8 0 rfl rfl 5 (by decide) mw_fieldLink_RX8_27_MirrorDrill_Witness_sights_I rfl rfl rfl (Nat.le_of_ble_eq_true rfl) dX8_init_46 (fun H locs hP hD hS => ?_)
  have hP : va_P D classes [(wt, .inr (8, [.ref q1, .ref q2, .ref q3, .ref q4, .ref q5, .int 0, .int 0, .null, .null, .int 0, .int 0, .null, .null, .int 0, .int 0, .int 0, .null])), (q1, .inl (cyI, 30, .inl (fun _ => 0))), (q2, .inl (cyI, 30, .inl (fun _ => 0))), (q3, .inl (cyI, 30, .inl (fun _ => 0))), (q4, .inl (cyI, 30, .inl (fun _ => 0))), (q5, .inl (cyI, 30, .inl (fun _ => 0)))] H := hP
  have hD : va_D A [(wt, .inr (8, [.ref q1, .ref q2, .ref q3, .ref q4, .ref q5, .int 0, .int 0, .null, .null, .int 0, .int 0, .null, .null, .int 0, .int 0, .int 0, .null])), (q1, .inl (cyI, 30, .inl (fun _ => 0))), (q2, .inl (cyI, 30, .inl (fun _ => 0))), (q3, .inl (cyI, 30, .inl (fun _ => 0))), (q4, .inl (cyI, 30, .inl (fun _ => 0))), (q5, .inl (cyI, 30, .inl (fun _ => 0)))] := hD
  refine lv_aload_n hx hb dX8_init_49 rfl (lv_at hl 0 rfl) ?_
  refine lv_iconst (v := 0) hx hb dX8_init_50 (by decide) ?_
  refine pf (v := .int 0) hC hK hP hD hS iX8 tyX8_ok nmX8 0 rfl rfl 6 (by decide) mw_fieldLink_RX8_31_MirrorDrill_Witness_unsureMen_I rfl rfl rfl (Nat.le_of_ble_eq_true rfl) dX8_init_51 (fun H locs hP hD hS => ?_)
  have hP : va_P D classes [(wt, .inr (8, [.ref q1, .ref q2, .ref q3, .ref q4, .ref q5, .int 0, .int 0, .null, .null, .int 0, .int 0, .null, .null, .int 0, .int 0, .int 0, .null])), (q1, .inl (cyI, 30, .inl (fun _ => 0))), (q2, .inl (cyI, 30, .inl (fun _ => 0))), (q3, .inl (cyI, 30, .inl (fun _ => 0))), (q4, .inl (cyI, 30, .inl (fun _ => 0))), (q5, .inl (cyI, 30, .inl (fun _ => 0)))] H := hP
  have hD : va_D A [(wt, .inr (8, [.ref q1, .ref q2, .ref q3, .ref q4, .ref q5, .int 0, .int 0, .null, .null, .int 0, .int 0, .null, .null, .int 0, .int 0, .int 0, .null])), (q1, .inl (cyI, 30, .inl (fun _ => 0))), (q2, .inl (cyI, 30, .inl (fun _ => 0))), (q3, .inl (cyI, 30, .inl (fun _ => 0))), (q4, .inl (cyI, 30, .inl (fun _ => 0))), (q5, .inl (cyI, 30, .inl (fun _ => 0)))] := hD
  refine lv_aload_n hx hb dX8_init_54 rfl (lv_at hl 0 rfl) ?_
  refine lv_bipush (v := 31) hx hb dX8_init_55 (by decide) ?_
  refine nwJ (N := 31) hC mw_arrayClass_long hK hP hD hS hA (by decide) (by decide) (by decide) (by decide) (by decide) dX8_init_57 (fun q6 H hP hD hS => ?_)
  have hP : va_P D classes [(wt, .inr (8, [.ref q1, .ref q2, .ref q3, .ref q4, .ref q5, .int 0, .int 0, .null, .null, .int 0, .int 0, .null, .null, .int 0, .int 0, .int 0, .null])), (q1, .inl (cyI, 30, .inl (fun _ => 0))), (q2, .inl (cyI, 30, .inl (fun _ => 0))), (q3, .inl (cyI, 30, .inl (fun _ => 0))), (q4, .inl (cyI, 30, .inl (fun _ => 0))), (q5, .inl (cyI, 30, .inl (fun _ => 0))), (q6, .inl (cyJ, 31, .inr (.inl (fun _ => 0))))] H := hP
  have hD : va_D A [(wt, .inr (8, [.ref q1, .ref q2, .ref q3, .ref q4, .ref q5, .int 0, .int 0, .null, .null, .int 0, .int 0, .null, .null, .int 0, .int 0, .int 0, .null])), (q1, .inl (cyI, 30, .inl (fun _ => 0))), (q2, .inl (cyI, 30, .inl (fun _ => 0))), (q3, .inl (cyI, 30, .inl (fun _ => 0))), (q4, .inl (cyI, 30, .inl (fun _ => 0))), (q5, .inl (cyI, 30, .inl (fun _ => 0))), (q6, .inl (cyJ, 31, .inr (.inl (fun _ => 0))))] := hD
  refine W.widen (k := 6) (n := 181) (by decide) (by decide) ?_
  refine pfF (v := .ref q6) hC hK hP hD hS iX8 tyX8_ok nmX8 0 rfl rfl 7 (by decide) mw_fieldLink_RX8_34_MirrorDrill_Witness_cells_J rfl rfl rfl rfl (Nat.le_of_ble_eq_true rfl) dX8_init_59 (fun H locs hP hD hS => ?_)
  have hP : va_P D classes [(wt, .inr (8, [.ref q1, .ref q2, .ref q3, .ref q4, .ref q5, .int 0, .int 0, .ref q6, .null, .int 0, .int 0, .null, .null, .int 0, .int 0, .int 0, .null])), (q1, .inl (cyI, 30, .inl (fun _ => 0))), (q2, .inl (cyI, 30, .inl (fun _ => 0))), (q3, .inl (cyI, 30, .inl (fun _ => 0))), (q4, .inl (cyI, 30, .inl (fun _ => 0))), (q5, .inl (cyI, 30, .inl (fun _ => 0))), (q6, .inl (cyJ, 31, .inr (.inl (fun _ => 0))))] H := hP
  have hD : va_D A [(wt, .inr (8, [.ref q1, .ref q2, .ref q3, .ref q4, .ref q5, .int 0, .int 0, .ref q6, .null, .int 0, .int 0, .null, .null, .int 0, .int 0, .int 0, .null])), (q1, .inl (cyI, 30, .inl (fun _ => 0))), (q2, .inl (cyI, 30, .inl (fun _ => 0))), (q3, .inl (cyI, 30, .inl (fun _ => 0))), (q4, .inl (cyI, 30, .inl (fun _ => 0))), (q5, .inl (cyI, 30, .inl (fun _ => 0))), (q6, .inl (cyJ, 31, .inr (.inl (fun _ => 0))))] := hD
  refine lv_aload_n hx hb dX8_init_62 rfl (lv_at hl 0 rfl) ?_
  refine lv_bipush (v := 31) hx hb dX8_init_63 (by decide) ?_
  refine nwJ (N := 31) hC mw_arrayClass_long hK hP hD hS hA (by decide) (by decide) (by decide) (by decide) (by decide) dX8_init_65 (fun q7 H hP hD hS => ?_)
  have hP : va_P D classes [(wt, .inr (8, [.ref q1, .ref q2, .ref q3, .ref q4, .ref q5, .int 0, .int 0, .ref q6, .null, .int 0, .int 0, .null, .null, .int 0, .int 0, .int 0, .null])), (q1, .inl (cyI, 30, .inl (fun _ => 0))), (q2, .inl (cyI, 30, .inl (fun _ => 0))), (q3, .inl (cyI, 30, .inl (fun _ => 0))), (q4, .inl (cyI, 30, .inl (fun _ => 0))), (q5, .inl (cyI, 30, .inl (fun _ => 0))), (q6, .inl (cyJ, 31, .inr (.inl (fun _ => 0)))), (q7, .inl (cyJ, 31, .inr (.inl (fun _ => 0))))] H := hP
  have hD : va_D A [(wt, .inr (8, [.ref q1, .ref q2, .ref q3, .ref q4, .ref q5, .int 0, .int 0, .ref q6, .null, .int 0, .int 0, .null, .null, .int 0, .int 0, .int 0, .null])), (q1, .inl (cyI, 30, .inl (fun _ => 0))), (q2, .inl (cyI, 30, .inl (fun _ => 0))), (q3, .inl (cyI, 30, .inl (fun _ => 0))), (q4, .inl (cyI, 30, .inl (fun _ => 0))), (q5, .inl (cyI, 30, .inl (fun _ => 0))), (q6, .inl (cyJ, 31, .inr (.inl (fun _ => 0)))), (q7, .inl (cyJ, 31, .inr (.inl (fun _ => 0))))] := hD
  refine W.widen (k := 7) (n := 212) (by decide) (by decide) ?_
  refine pfF (v := .ref q7) hC hK hP hD hS iX8 tyX8_ok nmX8 0 rfl rfl 8 (by decide) mw_fieldLink_RX8_38_MirrorDrill_Witness_contents_J rfl rfl rfl rfl (Nat.le_of_ble_eq_true rfl) dX8_init_67 (fun H locs hP hD hS => ?_)
  have hP : va_P D classes [(wt, .inr (8, [.ref q1, .ref q2, .ref q3, .ref q4, .ref q5, .int 0, .int 0, .ref q6, .ref q7, .int 0, .int 0, .null, .null, .int 0, .int 0, .int 0, .null])), (q1, .inl (cyI, 30, .inl (fun _ => 0))), (q2, .inl (cyI, 30, .inl (fun _ => 0))), (q3, .inl (cyI, 30, .inl (fun _ => 0))), (q4, .inl (cyI, 30, .inl (fun _ => 0))), (q5, .inl (cyI, 30, .inl (fun _ => 0))), (q6, .inl (cyJ, 31, .inr (.inl (fun _ => 0)))), (q7, .inl (cyJ, 31, .inr (.inl (fun _ => 0))))] H := hP
  have hD : va_D A [(wt, .inr (8, [.ref q1, .ref q2, .ref q3, .ref q4, .ref q5, .int 0, .int 0, .ref q6, .ref q7, .int 0, .int 0, .null, .null, .int 0, .int 0, .int 0, .null])), (q1, .inl (cyI, 30, .inl (fun _ => 0))), (q2, .inl (cyI, 30, .inl (fun _ => 0))), (q3, .inl (cyI, 30, .inl (fun _ => 0))), (q4, .inl (cyI, 30, .inl (fun _ => 0))), (q5, .inl (cyI, 30, .inl (fun _ => 0))), (q6, .inl (cyJ, 31, .inr (.inl (fun _ => 0)))), (q7, .inl (cyJ, 31, .inr (.inl (fun _ => 0))))] := hD
  refine lv_aload_n hx hb dX8_init_70 rfl (lv_at hl 0 rfl) ?_
  refine lv_bipush (v := 6) hx hb dX8_init_71 (by decide) ?_
  refine nwI (N := 6) hC mw_arrayClass_int hK hP hD hS hA (by decide) (by decide) (by decide) (by decide) (by decide) dX8_init_73 (fun q8 H hP hD hS => ?_)
  have hP : va_P D classes [(wt, .inr (8, [.ref q1, .ref q2, .ref q3, .ref q4, .ref q5, .int 0, .int 0, .ref q6, .ref q7, .int 0, .int 0, .null, .null, .int 0, .int 0, .int 0, .null])), (q1, .inl (cyI, 30, .inl (fun _ => 0))), (q2, .inl (cyI, 30, .inl (fun _ => 0))), (q3, .inl (cyI, 30, .inl (fun _ => 0))), (q4, .inl (cyI, 30, .inl (fun _ => 0))), (q5, .inl (cyI, 30, .inl (fun _ => 0))), (q6, .inl (cyJ, 31, .inr (.inl (fun _ => 0)))), (q7, .inl (cyJ, 31, .inr (.inl (fun _ => 0)))), (q8, .inl (cyI, 6, .inl (fun _ => 0)))] H := hP
  have hD : va_D A [(wt, .inr (8, [.ref q1, .ref q2, .ref q3, .ref q4, .ref q5, .int 0, .int 0, .ref q6, .ref q7, .int 0, .int 0, .null, .null, .int 0, .int 0, .int 0, .null])), (q1, .inl (cyI, 30, .inl (fun _ => 0))), (q2, .inl (cyI, 30, .inl (fun _ => 0))), (q3, .inl (cyI, 30, .inl (fun _ => 0))), (q4, .inl (cyI, 30, .inl (fun _ => 0))), (q5, .inl (cyI, 30, .inl (fun _ => 0))), (q6, .inl (cyJ, 31, .inr (.inl (fun _ => 0)))), (q7, .inl (cyJ, 31, .inr (.inl (fun _ => 0)))), (q8, .inl (cyI, 6, .inl (fun _ => 0)))] := hD
  refine W.widen (k := 8) (n := 218) (by decide) (by decide) ?_
  refine pfF (v := .ref q8) hC hK hP hD hS iX8 tyX8_ok nmX8 0 rfl rfl 12 (by decide) mw_fieldLink_RX8_41_MirrorDrill_Witness_unsureOnes_I rfl rfl rfl rfl (Nat.le_of_ble_eq_true rfl) dX8_init_75 (fun H locs hP hD hS => ?_)
  have hP : va_P D classes [(wt, .inr (8, [.ref q1, .ref q2, .ref q3, .ref q4, .ref q5, .int 0, .int 0, .ref q6, .ref q7, .int 0, .int 0, .null, .ref q8, .int 0, .int 0, .int 0, .null])), (q1, .inl (cyI, 30, .inl (fun _ => 0))), (q2, .inl (cyI, 30, .inl (fun _ => 0))), (q3, .inl (cyI, 30, .inl (fun _ => 0))), (q4, .inl (cyI, 30, .inl (fun _ => 0))), (q5, .inl (cyI, 30, .inl (fun _ => 0))), (q6, .inl (cyJ, 31, .inr (.inl (fun _ => 0)))), (q7, .inl (cyJ, 31, .inr (.inl (fun _ => 0)))), (q8, .inl (cyI, 6, .inl (fun _ => 0)))] H := hP
  have hD : va_D A [(wt, .inr (8, [.ref q1, .ref q2, .ref q3, .ref q4, .ref q5, .int 0, .int 0, .ref q6, .ref q7, .int 0, .int 0, .null, .ref q8, .int 0, .int 0, .int 0, .null])), (q1, .inl (cyI, 30, .inl (fun _ => 0))), (q2, .inl (cyI, 30, .inl (fun _ => 0))), (q3, .inl (cyI, 30, .inl (fun _ => 0))), (q4, .inl (cyI, 30, .inl (fun _ => 0))), (q5, .inl (cyI, 30, .inl (fun _ => 0))), (q6, .inl (cyJ, 31, .inr (.inl (fun _ => 0)))), (q7, .inl (cyJ, 31, .inr (.inl (fun _ => 0)))), (q8, .inl (cyI, 6, .inl (fun _ => 0)))] := hD
  refine lv_aload_n hx hb dX8_init_78 rfl (lv_at hl 0 rfl) ?_
  refine lv_iconst (v := 0) hx hb dX8_init_79 (by decide) ?_
  refine pf (v := .int 0) hC hK hP hD hS iX8 tyX8_ok nmX8 0 rfl rfl 13 (by decide) mw_fieldLink_RX8_44_MirrorDrill_Witness_known_Z rfl rfl rfl (Nat.le_of_ble_eq_true rfl) dX8_init_80 (fun H locs hP hD hS => ?_)
  have hP : va_P D classes [(wt, .inr (8, [.ref q1, .ref q2, .ref q3, .ref q4, .ref q5, .int 0, .int 0, .ref q6, .ref q7, .int 0, .int 0, .null, .ref q8, .int 0, .int 0, .int 0, .null])), (q1, .inl (cyI, 30, .inl (fun _ => 0))), (q2, .inl (cyI, 30, .inl (fun _ => 0))), (q3, .inl (cyI, 30, .inl (fun _ => 0))), (q4, .inl (cyI, 30, .inl (fun _ => 0))), (q5, .inl (cyI, 30, .inl (fun _ => 0))), (q6, .inl (cyJ, 31, .inr (.inl (fun _ => 0)))), (q7, .inl (cyJ, 31, .inr (.inl (fun _ => 0)))), (q8, .inl (cyI, 6, .inl (fun _ => 0)))] H := hP
  have hD : va_D A [(wt, .inr (8, [.ref q1, .ref q2, .ref q3, .ref q4, .ref q5, .int 0, .int 0, .ref q6, .ref q7, .int 0, .int 0, .null, .ref q8, .int 0, .int 0, .int 0, .null])), (q1, .inl (cyI, 30, .inl (fun _ => 0))), (q2, .inl (cyI, 30, .inl (fun _ => 0))), (q3, .inl (cyI, 30, .inl (fun _ => 0))), (q4, .inl (cyI, 30, .inl (fun _ => 0))), (q5, .inl (cyI, 30, .inl (fun _ => 0))), (q6, .inl (cyJ, 31, .inr (.inl (fun _ => 0)))), (q7, .inl (cyJ, 31, .inr (.inl (fun _ => 0)))), (q8, .inl (cyI, 6, .inl (fun _ => 0)))] := hD
  refine lv_aload_n hx hb dX8_init_83 rfl (lv_at hl 0 rfl) ?_
  refine lv_bipush (v := 30) hx hb dX8_init_84 (by decide) ?_
  refine nwI (N := 30) hC mw_arrayClass_int hK hP hD hS hA (by decide) (by decide) (by decide) (by decide) (by decide) dX8_init_86 (fun q9 H hP hD hS => ?_)
  have hP : va_P D classes [(wt, .inr (8, [.ref q1, .ref q2, .ref q3, .ref q4, .ref q5, .int 0, .int 0, .ref q6, .ref q7, .int 0, .int 0, .null, .ref q8, .int 0, .int 0, .int 0, .null])), (q1, .inl (cyI, 30, .inl (fun _ => 0))), (q2, .inl (cyI, 30, .inl (fun _ => 0))), (q3, .inl (cyI, 30, .inl (fun _ => 0))), (q4, .inl (cyI, 30, .inl (fun _ => 0))), (q5, .inl (cyI, 30, .inl (fun _ => 0))), (q6, .inl (cyJ, 31, .inr (.inl (fun _ => 0)))), (q7, .inl (cyJ, 31, .inr (.inl (fun _ => 0)))), (q8, .inl (cyI, 6, .inl (fun _ => 0))), (q9, .inl (cyI, 30, .inl (fun _ => 0)))] H := hP
  have hD : va_D A [(wt, .inr (8, [.ref q1, .ref q2, .ref q3, .ref q4, .ref q5, .int 0, .int 0, .ref q6, .ref q7, .int 0, .int 0, .null, .ref q8, .int 0, .int 0, .int 0, .null])), (q1, .inl (cyI, 30, .inl (fun _ => 0))), (q2, .inl (cyI, 30, .inl (fun _ => 0))), (q3, .inl (cyI, 30, .inl (fun _ => 0))), (q4, .inl (cyI, 30, .inl (fun _ => 0))), (q5, .inl (cyI, 30, .inl (fun _ => 0))), (q6, .inl (cyJ, 31, .inr (.inl (fun _ => 0)))), (q7, .inl (cyJ, 31, .inr (.inl (fun _ => 0)))), (q8, .inl (cyI, 6, .inl (fun _ => 0))), (q9, .inl (cyI, 30, .inl (fun _ => 0)))] := hD
  refine W.widen (k := 9) (n := 248) (by decide) (by decide) ?_
  refine pfF (v := .ref q9) hC hK hP hD hS iX8 tyX8_ok nmX8 0 rfl rfl 16 (by decide) mw_fieldLink_RX8_48_MirrorDrill_Witness_movesFitting_I rfl rfl rfl rfl (Nat.le_of_ble_eq_true rfl) dX8_init_88 (fun H locs hP hD hS => ?_)
  have hP : va_P D classes [(wt, .inr (8, [.ref q1, .ref q2, .ref q3, .ref q4, .ref q5, .int 0, .int 0, .ref q6, .ref q7, .int 0, .int 0, .null, .ref q8, .int 0, .int 0, .int 0, .ref q9])), (q1, .inl (cyI, 30, .inl (fun _ => 0))), (q2, .inl (cyI, 30, .inl (fun _ => 0))), (q3, .inl (cyI, 30, .inl (fun _ => 0))), (q4, .inl (cyI, 30, .inl (fun _ => 0))), (q5, .inl (cyI, 30, .inl (fun _ => 0))), (q6, .inl (cyJ, 31, .inr (.inl (fun _ => 0)))), (q7, .inl (cyJ, 31, .inr (.inl (fun _ => 0)))), (q8, .inl (cyI, 6, .inl (fun _ => 0))), (q9, .inl (cyI, 30, .inl (fun _ => 0)))] H := hP
  have hD : va_D A [(wt, .inr (8, [.ref q1, .ref q2, .ref q3, .ref q4, .ref q5, .int 0, .int 0, .ref q6, .ref q7, .int 0, .int 0, .null, .ref q8, .int 0, .int 0, .int 0, .ref q9])), (q1, .inl (cyI, 30, .inl (fun _ => 0))), (q2, .inl (cyI, 30, .inl (fun _ => 0))), (q3, .inl (cyI, 30, .inl (fun _ => 0))), (q4, .inl (cyI, 30, .inl (fun _ => 0))), (q5, .inl (cyI, 30, .inl (fun _ => 0))), (q6, .inl (cyJ, 31, .inr (.inl (fun _ => 0)))), (q7, .inl (cyJ, 31, .inr (.inl (fun _ => 0)))), (q8, .inl (cyI, 6, .inl (fun _ => 0))), (q9, .inl (cyI, 30, .inl (fun _ => 0)))] := hD
  exact retV hC hP hD hS (by decide) (by decide) ([.ref q1, .ref q2, .ref q3, .ref q4, .ref q5, .int 0, .int 0, .ref q6, .ref q7, .int 0, .int 0, .null, .ref q8, .int 0, .int 0, .int 0, .ref q9], q6, q7, q9, (fun _ => 0), (fun _ => 0), (fun _ => 0)) [0, 6, 7, 9] rfl rfl ⟨rfl, rfl, rfl, rfl, rfl, rfl, rfl⟩ dX8_init_91
