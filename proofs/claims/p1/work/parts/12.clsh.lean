theorem dX2_clear_0 : decode cX2_clear 0 = .ok (.aload_n 0, 1) := by decide +kernel
theorem dX2_clear_1 : decode cX2_clear 1 = .ok (.iconst 2, 1) := by decide +kernel
theorem dX2_clear_2 : decode cX2_clear 2 = .ok (.putfield 9, 3) := by decide +kernel
theorem dX2_clear_5 : decode cX2_clear 5 = .ok (.aload_n 0, 1) := by decide +kernel
theorem dX2_clear_6 : decode cX2_clear 6 = .ok (.iconst 0, 1) := by decide +kernel
theorem dX2_clear_7 : decode cX2_clear 7 = .ok (.putfield 15, 3) := by decide +kernel
theorem dX2_clear_10 : decode cX2_clear 10 = .ok (.aload_n 0, 1) := by decide +kernel
theorem dX2_clear_11 : decode cX2_clear 11 = .ok (.iconst 0, 1) := by decide +kernel
theorem dX2_clear_12 : decode cX2_clear 12 = .ok (.putfield 18, 3) := by decide +kernel
theorem dX2_clear_15 : decode cX2_clear 15 = .ok (.aload_n 0, 1) := by decide +kernel
theorem dX2_clear_16 : decode cX2_clear 16 = .ok (.iconst 0, 1) := by decide +kernel
theorem dX2_clear_17 : decode cX2_clear 17 = .ok (.putfield 21, 3) := by decide +kernel
theorem dX2_clear_20 : decode cX2_clear 20 = .ok (.aload_n 0, 1) := by decide +kernel
theorem dX2_clear_21 : decode cX2_clear 21 = .ok (.iconst 0, 1) := by decide +kernel
theorem dX2_clear_22 : decode cX2_clear 22 = .ok (.putfield 24, 3) := by decide +kernel
theorem dX2_clear_25 : decode cX2_clear 25 = .ok (.aload_n 0, 1) := by decide +kernel
theorem dX2_clear_26 : decode cX2_clear 26 = .ok (.iconst 0, 1) := by decide +kernel
theorem dX2_clear_27 : decode cX2_clear 27 = .ok (.putfield 27, 3) := by decide +kernel
theorem dX2_clear_30 : decode cX2_clear 30 = .ok (.aload_n 0, 1) := by decide +kernel
theorem dX2_clear_31 : decode cX2_clear 31 = .ok (.iconst 0, 1) := by decide +kernel
theorem dX2_clear_32 : decode cX2_clear 32 = .ok (.putfield 31, 3) := by decide +kernel
theorem dX2_clear_35 : decode cX2_clear 35 = .ok (.aload_n 0, 1) := by decide +kernel
theorem dX2_clear_36 : decode cX2_clear 36 = .ok (.iconst 0, 1) := by decide +kernel
theorem dX2_clear_37 : decode cX2_clear 37 = .ok (.putfield 34, 3) := by decide +kernel
theorem dX2_clear_40 : decode cX2_clear 40 = .ok (.aload_n 0, 1) := by decide +kernel
theorem dX2_clear_41 : decode cX2_clear 41 = .ok (.lconst 0, 1) := by decide +kernel
theorem dX2_clear_42 : decode cX2_clear 42 = .ok (.putfield 37, 3) := by decide +kernel
theorem dX2_clear_45 : decode cX2_clear 45 = .ok (.aload_n 0, 1) := by decide +kernel
theorem dX2_clear_46 : decode cX2_clear 46 = .ok (.getfield 41, 3) := by decide +kernel
theorem dX2_clear_49 : decode cX2_clear 49 = .ok (.iconst 0, 1) := by decide +kernel
theorem dX2_clear_50 : decode cX2_clear 50 = .ok (.invokestatic 61, 3) := by decide +kernel
theorem dX2_clear_53 : decode cX2_clear 53 = .ok (.aload_n 0, 1) := by decide +kernel
theorem dX2_clear_54 : decode cX2_clear 54 = .ok (.getfield 45, 3) := by decide +kernel
theorem dX2_clear_57 : decode cX2_clear 57 = .ok (.iconst (-1), 1) := by decide +kernel
theorem dX2_clear_58 : decode cX2_clear 58 = .ok (.invokestatic 61, 3) := by decide +kernel
theorem dX2_clear_61 : decode cX2_clear 61 = .ok (.iconst 0, 1) := by decide +kernel
theorem dX2_clear_62 : decode cX2_clear 62 = .ok (.istore_n 1, 1) := by decide +kernel
theorem dX2_clear_63 : decode cX2_clear 63 = .ok (.iload_n 1, 1) := by decide +kernel
theorem dX2_clear_64 : decode cX2_clear 64 = .ok (.iconst 4, 1) := by decide +kernel
theorem dX2_clear_65 : decode cX2_clear 65 = .ok (.if_icmp .ge 16, 3) := by decide +kernel
theorem dX2_clear_68 : decode cX2_clear 68 = .ok (.aload_n 0, 1) := by decide +kernel
theorem dX2_clear_69 : decode cX2_clear 69 = .ok (.getfield 48, 3) := by decide +kernel
theorem dX2_clear_72 : decode cX2_clear 72 = .ok (.iload_n 1, 1) := by decide +kernel
theorem dX2_clear_73 : decode cX2_clear 73 = .ok (.iload_n 1, 1) := by decide +kernel
theorem dX2_clear_74 : decode cX2_clear 74 = .ok (.iastore, 1) := by decide +kernel
theorem dX2_clear_75 : decode cX2_clear 75 = .ok (.iinc 1 1, 3) := by decide +kernel
theorem dX2_clear_78 : decode cX2_clear 78 = .ok (.goto (-15), 3) := by decide +kernel
theorem dX2_clear_81 : decode cX2_clear 81 = .ok (.return_, 1) := by decide +kernel
theorem dX7_advance_0 : decode cX7_advance 0 = .ok (.aload_n 0, 1) := by decide +kernel
theorem dX7_advance_1 : decode cX7_advance 1 = .ok (.getfield 42, 3) := by decide +kernel
theorem dX7_advance_4 : decode cX7_advance 4 = .ok (.aload_n 0, 1) := by decide +kernel
theorem dX7_advance_5 : decode cX7_advance 5 = .ok (.getfield 35, 3) := by decide +kernel
theorem dX7_advance_8 : decode cX7_advance 8 = .ok (.if_icmp .ge 31, 3) := by decide +kernel
theorem dX7_advance_11 : decode cX7_advance 11 = .ok (.aload_n 0, 1) := by decide +kernel
theorem dX7_advance_12 : decode cX7_advance 12 = .ok (.getfield 9, 3) := by decide +kernel
theorem dX7_advance_15 : decode cX7_advance 15 = .ok (.aload_n 0, 1) := by decide +kernel
theorem dX7_advance_16 : decode cX7_advance 16 = .ok (.getfield 42, 3) := by decide +kernel
theorem dX7_advance_19 : decode cX7_advance 19 = .ok (.iaload, 1) := by decide +kernel
theorem dX7_advance_20 : decode cX7_advance 20 = .ok (.invokestatic 65, 3) := by decide +kernel
theorem dX7_advance_23 : decode cX7_advance 23 = .ok (.ifCond .eq 16, 3) := by decide +kernel
theorem dX7_advance_26 : decode cX7_advance 26 = .ok (.aload_n 0, 1) := by decide +kernel
theorem dX7_advance_27 : decode cX7_advance 27 = .ok (.dup, 1) := by decide +kernel
theorem dX7_advance_28 : decode cX7_advance 28 = .ok (.getfield 42, 3) := by decide +kernel
theorem dX7_advance_31 : decode cX7_advance 31 = .ok (.iconst 1, 1) := by decide +kernel
theorem dX7_advance_32 : decode cX7_advance 32 = .ok (.iadd, 1) := by decide +kernel
theorem dX7_advance_33 : decode cX7_advance 33 = .ok (.putfield 42, 3) := by decide +kernel
theorem dX7_advance_36 : decode cX7_advance 36 = .ok (.goto (-36), 3) := by decide +kernel
theorem dX7_advance_39 : decode cX7_advance 39 = .ok (.aload_n 0, 1) := by decide +kernel
theorem dX7_advance_40 : decode cX7_advance 40 = .ok (.aload_n 0, 1) := by decide +kernel
theorem dX7_advance_41 : decode cX7_advance 41 = .ok (.getfield 42, 3) := by decide +kernel
theorem dX7_advance_44 : decode cX7_advance 44 = .ok (.putfield 62, 3) := by decide +kernel
theorem dX7_advance_47 : decode cX7_advance 47 = .ok (.aload_n 0, 1) := by decide +kernel
theorem dX7_advance_48 : decode cX7_advance 48 = .ok (.getfield 42, 3) := by decide +kernel
theorem dX7_advance_51 : decode cX7_advance 51 = .ok (.aload_n 0, 1) := by decide +kernel
theorem dX7_advance_52 : decode cX7_advance 52 = .ok (.getfield 35, 3) := by decide +kernel
theorem dX7_advance_55 : decode cX7_advance 55 = .ok (.if_icmp .lt 11, 3) := by decide +kernel
theorem dX7_advance_58 : decode cX7_advance 58 = .ok (.aload_n 0, 1) := by decide +kernel
theorem dX7_advance_59 : decode cX7_advance 59 = .ok (.iconst 0, 1) := by decide +kernel
theorem dX7_advance_60 : decode cX7_advance 60 = .ok (.putfield 59, 3) := by decide +kernel
theorem dX7_advance_63 : decode cX7_advance 63 = .ok (.goto 121, 3) := by decide +kernel
theorem dX7_advance_66 : decode cX7_advance 66 = .ok (.aload_n 0, 1) := by decide +kernel
theorem dX7_advance_67 : decode cX7_advance 67 = .ok (.getfield 9, 3) := by decide +kernel
theorem dX7_advance_70 : decode cX7_advance 70 = .ok (.aload_n 0, 1) := by decide +kernel
theorem dX7_advance_71 : decode cX7_advance 71 = .ok (.getfield 42, 3) := by decide +kernel
theorem dX7_advance_74 : decode cX7_advance 74 = .ok (.iaload, 1) := by decide +kernel
theorem dX7_advance_75 : decode cX7_advance 75 = .ok (.invokestatic 69, 3) := by decide +kernel
theorem dX7_advance_78 : decode cX7_advance 78 = .ok (.ifCond .eq 39, 3) := by decide +kernel
theorem dX7_advance_81 : decode cX7_advance 81 = .ok (.aload_n 0, 1) := by decide +kernel
theorem dX7_advance_82 : decode cX7_advance 82 = .ok (.invokevirtual 72, 3) := by decide +kernel
theorem dX7_advance_85 : decode cX7_advance 85 = .ok (.aload_n 0, 1) := by decide +kernel
theorem dX7_advance_86 : decode cX7_advance 86 = .ok (.aload_n 0, 1) := by decide +kernel
theorem dX7_advance_87 : decode cX7_advance 87 = .ok (.getfield 42, 3) := by decide +kernel
theorem dX7_advance_90 : decode cX7_advance 90 = .ok (.aload_n 0, 1) := by decide +kernel
theorem dX7_advance_91 : decode cX7_advance 91 = .ok (.getfield 62, 3) := by decide +kernel
theorem dX7_advance_94 : decode cX7_advance 94 = .ok (.isub, 1) := by decide +kernel
theorem dX7_advance_95 : decode cX7_advance 95 = .ok (.bipush 8, 2) := by decide +kernel
theorem dX7_advance_97 : decode cX7_advance 97 = .ok (.if_icmp .le 7, 3) := by decide +kernel
theorem dX7_advance_100 : decode cX7_advance 100 = .ok (.iconst 1, 1) := by decide +kernel
theorem dX7_advance_101 : decode cX7_advance 101 = .ok (.goto 10, 3) := by decide +kernel
theorem dX7_advance_104 : decode cX7_advance 104 = .ok (.aload_n 0, 1) := by decide +kernel
theorem dX7_advance_105 : decode cX7_advance 105 = .ok (.getfield 75, 3) := by decide +kernel
theorem dX7_advance_108 : decode cX7_advance 108 = .ok (.invokestatic 79, 3) := by decide +kernel
theorem dX7_advance_111 : decode cX7_advance 111 = .ok (.putfield 59, 3) := by decide +kernel
theorem dX7_advance_114 : decode cX7_advance 114 = .ok (.goto 70, 3) := by decide +kernel
theorem dX7_advance_117 : decode cX7_advance 117 = .ok (.aload_n 0, 1) := by decide +kernel
theorem dX7_advance_118 : decode cX7_advance 118 = .ok (.getfield 9, 3) := by decide +kernel
theorem dX7_advance_121 : decode cX7_advance 121 = .ok (.aload_n 0, 1) := by decide +kernel
theorem dX7_advance_122 : decode cX7_advance 122 = .ok (.getfield 42, 3) := by decide +kernel
theorem dX7_advance_125 : decode cX7_advance 125 = .ok (.iaload, 1) := by decide +kernel
theorem dX7_advance_126 : decode cX7_advance 126 = .ok (.invokestatic 83, 3) := by decide +kernel
theorem dX7_advance_129 : decode cX7_advance 129 = .ok (.ifCond .eq 10, 3) := by decide +kernel
theorem dX7_advance_132 : decode cX7_advance 132 = .ok (.aload_n 0, 1) := by decide +kernel
theorem dX7_advance_133 : decode cX7_advance 133 = .ok (.invokevirtual 86, 3) := by decide +kernel
theorem dX7_advance_136 : decode cX7_advance 136 = .ok (.goto 48, 3) := by decide +kernel
theorem dX7_advance_139 : decode cX7_advance 139 = .ok (.aload_n 0, 1) := by decide +kernel
theorem dX7_advance_140 : decode cX7_advance 140 = .ok (.ldc 89, 2) := by decide +kernel
theorem dX7_advance_142 : decode cX7_advance 142 = .ok (.aload_n 0, 1) := by decide +kernel
theorem dX7_advance_143 : decode cX7_advance 143 = .ok (.getfield 9, 3) := by decide +kernel
theorem dX7_advance_146 : decode cX7_advance 146 = .ok (.aload_n 0, 1) := by decide +kernel
theorem dX7_advance_147 : decode cX7_advance 147 = .ok (.getfield 42, 3) := by decide +kernel
theorem dX7_advance_150 : decode cX7_advance 150 = .ok (.iaload, 1) := by decide +kernel
theorem dX7_advance_151 : decode cX7_advance 151 = .ok (.i2c, 1) := by decide +kernel
theorem dX7_advance_152 : decode cX7_advance 152 = .ok (.invokevirtual 91, 3) := by decide +kernel
theorem dX7_advance_155 : decode cX7_advance 155 = .ok (.ifCond .lt 15, 3) := by decide +kernel
theorem dX7_advance_158 : decode cX7_advance 158 = .ok (.aload_n 0, 1) := by decide +kernel
theorem dX7_advance_159 : decode cX7_advance 159 = .ok (.getfield 9, 3) := by decide +kernel
theorem dX7_advance_162 : decode cX7_advance 162 = .ok (.aload_n 0, 1) := by decide +kernel
theorem dX7_advance_163 : decode cX7_advance 163 = .ok (.getfield 42, 3) := by decide +kernel
theorem dX7_advance_166 : decode cX7_advance 166 = .ok (.iaload, 1) := by decide +kernel
theorem dX7_advance_167 : decode cX7_advance 167 = .ok (.goto 4, 3) := by decide +kernel
theorem dX7_advance_170 : decode cX7_advance 170 = .ok (.iconst 1, 1) := by decide +kernel
theorem dX7_advance_171 : decode cX7_advance 171 = .ok (.putfield 59, 3) := by decide +kernel
theorem dX7_advance_174 : decode cX7_advance 174 = .ok (.aload_n 0, 1) := by decide +kernel
theorem dX7_advance_175 : decode cX7_advance 175 = .ok (.dup, 1) := by decide +kernel
theorem dX7_advance_176 : decode cX7_advance 176 = .ok (.getfield 42, 3) := by decide +kernel
theorem dX7_advance_179 : decode cX7_advance 179 = .ok (.iconst 1, 1) := by decide +kernel
theorem dX7_advance_180 : decode cX7_advance 180 = .ok (.iadd, 1) := by decide +kernel
theorem dX7_advance_181 : decode cX7_advance 181 = .ok (.putfield 42, 3) := by decide +kernel
theorem dX7_advance_184 : decode cX7_advance 184 = .ok (.return_, 1) := by decide +kernel
theorem dX7_begin_0 : decode cX7_begin 0 = .ok (.aload_n 0, 1) := by decide +kernel
theorem dX7_begin_1 : decode cX7_begin 1 = .ok (.aload_n 1, 1) := by decide +kernel
theorem dX7_begin_2 : decode cX7_begin 2 = .ok (.putfield 9, 3) := by decide +kernel
theorem dX7_begin_5 : decode cX7_begin 5 = .ok (.aload_n 0, 1) := by decide +kernel
theorem dX7_begin_6 : decode cX7_begin 6 = .ok (.iload_n 2, 1) := by decide +kernel
theorem dX7_begin_7 : decode cX7_begin 7 = .ok (.aload_n 1, 1) := by decide +kernel
theorem dX7_begin_8 : decode cX7_begin 8 = .ok (.arraylength, 1) := by decide +kernel
theorem dX7_begin_9 : decode cX7_begin 9 = .ok (.invokestatic 29, 3) := by decide +kernel
theorem dX7_begin_12 : decode cX7_begin 12 = .ok (.putfield 35, 3) := by decide +kernel
theorem dX7_begin_15 : decode cX7_begin 15 = .ok (.aload_n 0, 1) := by decide +kernel
theorem dX7_begin_16 : decode cX7_begin 16 = .ok (.aload_n 3, 1) := by decide +kernel
theorem dX7_begin_17 : decode cX7_begin 17 = .ok (.putfield 38, 3) := by decide +kernel
theorem dX7_begin_20 : decode cX7_begin 20 = .ok (.aload_n 0, 1) := by decide +kernel
theorem dX7_begin_21 : decode cX7_begin 21 = .ok (.iconst 0, 1) := by decide +kernel
theorem dX7_begin_22 : decode cX7_begin 22 = .ok (.putfield 42, 3) := by decide +kernel
theorem dX7_begin_25 : decode cX7_begin 25 = .ok (.aload_n 0, 1) := by decide +kernel
theorem dX7_begin_26 : decode cX7_begin 26 = .ok (.iconst 0, 1) := by decide +kernel
theorem dX7_begin_27 : decode cX7_begin 27 = .ok (.putfield 45, 3) := by decide +kernel
theorem dX7_begin_30 : decode cX7_begin 30 = .ok (.aload_n 0, 1) := by decide +kernel
theorem dX7_begin_31 : decode cX7_begin 31 = .ok (.iconst 0, 1) := by decide +kernel
theorem dX7_begin_32 : decode cX7_begin 32 = .ok (.putfield 48, 3) := by decide +kernel
theorem dX7_begin_35 : decode cX7_begin 35 = .ok (.aload_n 0, 1) := by decide +kernel
theorem dX7_begin_36 : decode cX7_begin 36 = .ok (.iconst 0, 1) := by decide +kernel
theorem dX7_begin_37 : decode cX7_begin 37 = .ok (.putfield 22, 3) := by decide +kernel
theorem dX7_begin_40 : decode cX7_begin 40 = .ok (.aload_n 0, 1) := by decide +kernel
theorem dX7_begin_41 : decode cX7_begin 41 = .ok (.iconst (-1), 1) := by decide +kernel
theorem dX7_begin_42 : decode cX7_begin 42 = .ok (.putfield 26, 3) := by decide +kernel
theorem dX7_begin_45 : decode cX7_begin 45 = .ok (.aload_n 0, 1) := by decide +kernel
theorem dX7_begin_46 : decode cX7_begin 46 = .ok (.getfield 38, 3) := by decide +kernel
theorem dX7_begin_49 : decode cX7_begin 49 = .ok (.invokevirtual 51, 3) := by decide +kernel
theorem dX7_begin_52 : decode cX7_begin 52 = .ok (.aload_n 0, 1) := by decide +kernel
theorem dX7_begin_53 : decode cX7_begin 53 = .ok (.invokevirtual 56, 3) := by decide +kernel
theorem dX7_begin_56 : decode cX7_begin 56 = .ok (.return_, 1) := by decide +kernel
theorem dX7_faultFound_0 : decode cX7_faultFound 0 = .ok (.aload_n 0, 1) := by decide +kernel
theorem dX7_faultFound_1 : decode cX7_faultFound 1 = .ok (.getfield 22, 3) := by decide +kernel
theorem dX7_faultFound_4 : decode cX7_faultFound 4 = .ok (.ireturn, 1) := by decide +kernel
theorem dX7_placeOfFault_0 : decode cX7_placeOfFault 0 = .ok (.aload_n 0, 1) := by decide +kernel
theorem dX7_placeOfFault_1 : decode cX7_placeOfFault 1 = .ok (.getfield 26, 3) := by decide +kernel
theorem dX7_placeOfFault_4 : decode cX7_placeOfFault 4 = .ok (.ireturn, 1) := by decide +kernel
theorem dX2_settle_0 : decode cX2_settle 0 = .ok (.aload_n 0, 1) := by decide +kernel
theorem dX2_settle_1 : decode cX2_settle 1 = .ok (.getfield 15, 3) := by decide +kernel
theorem dX2_settle_4 : decode cX2_settle 4 = .ok (.ifCond .le 29, 3) := by decide +kernel
theorem dX2_settle_7 : decode cX2_settle 7 = .ok (.aload_n 0, 1) := by decide +kernel
theorem dX2_settle_8 : decode cX2_settle 8 = .ok (.getfield 55, 3) := by decide +kernel
theorem dX2_settle_11 : decode cX2_settle 11 = .ok (.arraylength, 1) := by decide +kernel
theorem dX2_settle_12 : decode cX2_settle 12 = .ok (.ifCond .ne 21, 3) := by decide +kernel
theorem dX2_settle_15 : decode cX2_settle 15 = .ok (.aload_n 0, 1) := by decide +kernel
theorem dX2_settle_16 : decode cX2_settle 16 = .ok (.sipush 1920, 3) := by decide +kernel
theorem dX2_settle_19 : decode cX2_settle 19 = .ok (.newarray .byte, 2) := by decide +kernel
theorem dX2_settle_21 : decode cX2_settle 21 = .ok (.putfield 55, 3) := by decide +kernel
theorem dX2_settle_24 : decode cX2_settle 24 = .ok (.aload_n 0, 1) := by decide +kernel
theorem dX2_settle_25 : decode cX2_settle 25 = .ok (.sipush 3840, 3) := by decide +kernel
theorem dX2_settle_28 : decode cX2_settle 28 = .ok (.newarray .byte, 2) := by decide +kernel
theorem dX2_settle_30 : decode cX2_settle 30 = .ok (.putfield 58, 3) := by decide +kernel
theorem dX2_settle_33 : decode cX2_settle 33 = .ok (.iconst 0, 1) := by decide +kernel
theorem dX2_settle_34 : decode cX2_settle 34 = .ok (.istore_n 1, 1) := by decide +kernel
theorem dX2_settle_35 : decode cX2_settle 35 = .ok (.iload_n 1, 1) := by decide +kernel
theorem dX2_settle_36 : decode cX2_settle 36 = .ok (.aload_n 0, 1) := by decide +kernel
theorem dX2_settle_37 : decode cX2_settle 37 = .ok (.getfield 15, 3) := by decide +kernel
theorem dX2_settle_40 : decode cX2_settle 40 = .ok (.if_icmp .ge 51, 3) := by decide +kernel
theorem dX2_settle_43 : decode cX2_settle 43 = .ok (.iconst 0, 1) := by decide +kernel
theorem dX2_settle_44 : decode cX2_settle 44 = .ok (.istore_n 2, 1) := by decide +kernel
theorem dX2_settle_45 : decode cX2_settle 45 = .ok (.iload_n 2, 1) := by decide +kernel
theorem dX2_settle_46 : decode cX2_settle 46 = .ok (.bipush 64, 2) := by decide +kernel
theorem dX2_settle_48 : decode cX2_settle 48 = .ok (.if_icmp .ge 37, 3) := by decide +kernel
theorem dX2_settle_51 : decode cX2_settle 51 = .ok (.aload_n 0, 1) := by decide +kernel
theorem dX2_settle_52 : decode cX2_settle 52 = .ok (.getfield 55, 3) := by decide +kernel
theorem dX2_settle_55 : decode cX2_settle 55 = .ok (.iload_n 1, 1) := by decide +kernel
theorem dX2_settle_56 : decode cX2_settle 56 = .ok (.bipush 64, 2) := by decide +kernel
theorem dX2_settle_58 : decode cX2_settle 58 = .ok (.imul, 1) := by decide +kernel
theorem dX2_settle_59 : decode cX2_settle 59 = .ok (.iload_n 2, 1) := by decide +kernel
theorem dX2_settle_60 : decode cX2_settle 60 = .ok (.iadd, 1) := by decide +kernel
theorem dX2_settle_61 : decode cX2_settle 61 = .ok (.aload_n 0, 1) := by decide +kernel
theorem dX2_settle_62 : decode cX2_settle 62 = .ok (.iload_n 1, 1) := by decide +kernel
theorem dX2_settle_63 : decode cX2_settle 63 = .ok (.iload_n 2, 1) := by decide +kernel
theorem dX2_settle_64 : decode cX2_settle 64 = .ok (.iconst 3, 1) := by decide +kernel
theorem dX2_settle_65 : decode cX2_settle 65 = .ok (.iand, 1) := by decide +kernel
theorem dX2_settle_66 : decode cX2_settle 66 = .ok (.iload_n 2, 1) := by decide +kernel
theorem dX2_settle_67 : decode cX2_settle 67 = .ok (.iconst 2, 1) := by decide +kernel
theorem dX2_settle_68 : decode cX2_settle 68 = .ok (.ishr, 1) := by decide +kernel
theorem dX2_settle_69 : decode cX2_settle 69 = .ok (.iconst 3, 1) := by decide +kernel
theorem dX2_settle_70 : decode cX2_settle 70 = .ok (.iand, 1) := by decide +kernel
theorem dX2_settle_71 : decode cX2_settle 71 = .ok (.iload_n 2, 1) := by decide +kernel
theorem dX2_settle_72 : decode cX2_settle 72 = .ok (.iconst 4, 1) := by decide +kernel
theorem dX2_settle_73 : decode cX2_settle 73 = .ok (.ishr, 1) := by decide +kernel
theorem dX2_settle_74 : decode cX2_settle 74 = .ok (.invokevirtual 73, 3) := by decide +kernel
theorem dX2_settle_77 : decode cX2_settle 77 = .ok (.i2b, 1) := by decide +kernel
theorem dX2_settle_78 : decode cX2_settle 78 = .ok (.bastore, 1) := by decide +kernel
theorem dX2_settle_79 : decode cX2_settle 79 = .ok (.iinc 2 1, 3) := by decide +kernel
theorem dX2_settle_82 : decode cX2_settle 82 = .ok (.goto (-37), 3) := by decide +kernel
theorem dX2_settle_85 : decode cX2_settle 85 = .ok (.iinc 1 1, 3) := by decide +kernel
theorem dX2_settle_88 : decode cX2_settle 88 = .ok (.goto (-53), 3) := by decide +kernel
theorem dX2_settle_91 : decode cX2_settle 91 = .ok (.iconst 0, 1) := by decide +kernel
theorem dX2_settle_92 : decode cX2_settle 92 = .ok (.istore_n 1, 1) := by decide +kernel
theorem dX2_settle_93 : decode cX2_settle 93 = .ok (.iload_n 1, 1) := by decide +kernel
theorem dX2_settle_94 : decode cX2_settle 94 = .ok (.aload_n 0, 1) := by decide +kernel
theorem dX2_settle_95 : decode cX2_settle 95 = .ok (.getfield 15, 3) := by decide +kernel
theorem dX2_settle_98 : decode cX2_settle 98 = .ok (.if_icmp .ge 77, 3) := by decide +kernel
theorem dX2_settle_101 : decode cX2_settle 101 = .ok (.iconst 0, 1) := by decide +kernel
theorem dX2_settle_102 : decode cX2_settle 102 = .ok (.istore_n 2, 1) := by decide +kernel
theorem dX2_settle_103 : decode cX2_settle 103 = .ok (.iload_n 2, 1) := by decide +kernel
theorem dX2_settle_104 : decode cX2_settle 104 = .ok (.sipush 256, 3) := by decide +kernel
theorem dX2_settle_107 : decode cX2_settle 107 = .ok (.if_icmp .ge 62, 3) := by decide +kernel
theorem dX2_settle_110 : decode cX2_settle 110 = .ok (.iload_n 1, 1) := by decide +kernel
theorem dX2_settle_111 : decode cX2_settle 111 = .ok (.iconst 1, 1) := by decide +kernel
theorem dX2_settle_112 : decode cX2_settle 112 = .ok (.iadd, 1) := by decide +kernel
theorem dX2_settle_113 : decode cX2_settle 113 = .ok (.aload_n 0, 1) := by decide +kernel
theorem dX2_settle_114 : decode cX2_settle 114 = .ok (.getfield 15, 3) := by decide +kernel
theorem dX2_settle_117 : decode cX2_settle 117 = .ok (.if_icmp .ge 16, 3) := by decide +kernel
theorem dX2_settle_120 : decode cX2_settle 120 = .ok (.aload_n 0, 1) := by decide +kernel
theorem dX2_settle_121 : decode cX2_settle 121 = .ok (.iload_n 1, 1) := by decide +kernel
theorem dX2_settle_122 : decode cX2_settle 122 = .ok (.iconst 1, 1) := by decide +kernel
theorem dX2_settle_123 : decode cX2_settle 123 = .ok (.iadd, 1) := by decide +kernel
theorem dX2_settle_124 : decode cX2_settle 124 = .ok (.iload_n 2, 1) := by decide +kernel
theorem dX2_settle_125 : decode cX2_settle 125 = .ok (.iconst 2, 1) := by decide +kernel
theorem dX2_settle_126 : decode cX2_settle 126 = .ok (.ishr, 1) := by decide +kernel
theorem dX2_settle_127 : decode cX2_settle 127 = .ok (.invokevirtual 77, 3) := by decide +kernel
theorem dX2_settle_130 : decode cX2_settle 130 = .ok (.goto 4, 3) := by decide +kernel
theorem dX2_settle_133 : decode cX2_settle 133 = .ok (.iconst 0, 1) := by decide +kernel
theorem dX2_settle_134 : decode cX2_settle 134 = .ok (.istore_n 3, 1) := by decide +kernel
theorem dX2_settle_135 : decode cX2_settle 135 = .ok (.aload_n 0, 1) := by decide +kernel
theorem dX2_settle_136 : decode cX2_settle 136 = .ok (.getfield 58, 3) := by decide +kernel
theorem dX2_settle_139 : decode cX2_settle 139 = .ok (.iload_n 1, 1) := by decide +kernel
theorem dX2_settle_140 : decode cX2_settle 140 = .ok (.iconst 2, 1) := by decide +kernel
theorem dX2_settle_141 : decode cX2_settle 141 = .ok (.idiv, 1) := by decide +kernel
theorem dX2_settle_142 : decode cX2_settle 142 = .ok (.sipush 256, 3) := by decide +kernel
theorem dX2_settle_145 : decode cX2_settle 145 = .ok (.imul, 1) := by decide +kernel
theorem dX2_settle_146 : decode cX2_settle 146 = .ok (.iload_n 2, 1) := by decide +kernel
theorem dX2_settle_147 : decode cX2_settle 147 = .ok (.iadd, 1) := by decide +kernel
theorem dX2_settle_148 : decode cX2_settle 148 = .ok (.aload_n 0, 1) := by decide +kernel
theorem dX2_settle_149 : decode cX2_settle 149 = .ok (.iload_n 1, 1) := by decide +kernel
theorem dX2_settle_150 : decode cX2_settle 150 = .ok (.iload_n 2, 1) := by decide +kernel
theorem dX2_settle_151 : decode cX2_settle 151 = .ok (.bipush 63, 2) := by decide +kernel
theorem dX2_settle_153 : decode cX2_settle 153 = .ok (.iand, 1) := by decide +kernel
theorem dX2_settle_154 : decode cX2_settle 154 = .ok (.invokevirtual 77, 3) := by decide +kernel
theorem dX2_settle_157 : decode cX2_settle 157 = .ok (.iload_n 3, 1) := by decide +kernel
theorem dX2_settle_158 : decode cX2_settle 158 = .ok (.iconst 2, 1) := by decide +kernel
theorem dX2_settle_159 : decode cX2_settle 159 = .ok (.ishl, 1) := by decide +kernel
theorem dX2_settle_160 : decode cX2_settle 160 = .ok (.ior, 1) := by decide +kernel
theorem dX2_settle_161 : decode cX2_settle 161 = .ok (.i2b, 1) := by decide +kernel
theorem dX2_settle_162 : decode cX2_settle 162 = .ok (.bastore, 1) := by decide +kernel
theorem dX2_settle_163 : decode cX2_settle 163 = .ok (.iinc 2 1, 3) := by decide +kernel
theorem dX2_settle_166 : decode cX2_settle 166 = .ok (.goto (-63), 3) := by decide +kernel
theorem dX2_settle_169 : decode cX2_settle 169 = .ok (.iinc 1 2, 3) := by decide +kernel
theorem dX2_settle_172 : decode cX2_settle 172 = .ok (.goto (-79), 3) := by decide +kernel
theorem dX2_settle_175 : decode cX2_settle 175 = .ok (.return_, 1) := by decide +kernel
theorem dX3_begin_0 : decode cX3_begin 0 = .ok (.aload_n 0, 1) := by decide +kernel
theorem dX3_begin_1 : decode cX3_begin 1 = .ok (.iconst 0, 1) := by decide +kernel
theorem dX3_begin_2 : decode cX3_begin 2 = .ok (.putfield 19, 3) := by decide +kernel
theorem dX3_begin_5 : decode cX3_begin 5 = .ok (.aload_n 0, 1) := by decide +kernel
theorem dX3_begin_6 : decode cX3_begin 6 = .ok (.iconst 0, 1) := by decide +kernel
theorem dX3_begin_7 : decode cX3_begin 7 = .ok (.putfield 23, 3) := by decide +kernel
theorem dX3_begin_10 : decode cX3_begin 10 = .ok (.aload_n 0, 1) := by decide +kernel
theorem dX3_begin_11 : decode cX3_begin 11 = .ok (.getfield 9, 3) := by decide +kernel
theorem dX3_begin_14 : decode cX3_begin 14 = .ok (.iconst 0, 1) := by decide +kernel
theorem dX3_begin_15 : decode cX3_begin 15 = .ok (.lload_n 1, 1) := by decide +kernel
theorem dX3_begin_16 : decode cX3_begin 16 = .ok (.lastore, 1) := by decide +kernel
theorem dX3_begin_17 : decode cX3_begin 17 = .ok (.aload_n 0, 1) := by decide +kernel
theorem dX3_begin_18 : decode cX3_begin 18 = .ok (.getfield 15, 3) := by decide +kernel
theorem dX3_begin_21 : decode cX3_begin 21 = .ok (.iconst 0, 1) := by decide +kernel
theorem dX3_begin_22 : decode cX3_begin 22 = .ok (.iload_n 3, 1) := by decide +kernel
theorem dX3_begin_23 : decode cX3_begin 23 = .ok (.iastore, 1) := by decide +kernel
theorem dX3_begin_24 : decode cX3_begin 24 = .ok (.return_, 1) := by decide +kernel
theorem dX1_forget_0 : decode cX1_forget 0 = .ok (.aload_n 0, 1) := by decide +kernel
theorem dX1_forget_1 : decode cX1_forget 1 = .ok (.iconst 0, 1) := by decide +kernel
theorem dX1_forget_2 : decode cX1_forget 2 = .ok (.putfield 15, 3) := by decide +kernel
theorem dX1_forget_5 : decode cX1_forget 5 = .ok (.return_, 1) := by decide +kernel
theorem dX8_forget_0 : decode cX8_forget 0 = .ok (.aload_n 0, 1) := by decide +kernel
theorem dX8_forget_1 : decode cX8_forget 1 = .ok (.iconst 0, 1) := by decide +kernel
theorem dX8_forget_2 : decode cX8_forget 2 = .ok (.putfield 27, 3) := by decide +kernel
theorem dX8_forget_5 : decode cX8_forget 5 = .ok (.aload_n 0, 1) := by decide +kernel
theorem dX8_forget_6 : decode cX8_forget 6 = .ok (.iconst 0, 1) := by decide +kernel
theorem dX8_forget_7 : decode cX8_forget 7 = .ok (.putfield 31, 3) := by decide +kernel
theorem dX8_forget_10 : decode cX8_forget 10 = .ok (.aload_n 0, 1) := by decide +kernel
theorem dX8_forget_11 : decode cX8_forget 11 = .ok (.iconst 0, 1) := by decide +kernel
theorem dX8_forget_12 : decode cX8_forget 12 = .ok (.putfield 44, 3) := by decide +kernel
theorem dX8_forget_15 : decode cX8_forget 15 = .ok (.return_, 1) := by decide +kernel
theorem dX9_drill_0 : decode cX9_drill 0 = .ok (.aload_n 0, 1) := by decide +kernel
theorem dX9_drill_1 : decode cX9_drill 1 = .ok (.getfield 20, 3) := by decide +kernel
theorem dX9_drill_4 : decode cX9_drill 4 = .ok (.aload_n 0, 1) := by decide +kernel
theorem dX9_drill_5 : decode cX9_drill 5 = .ok (.getfield 9, 3) := by decide +kernel
theorem dX9_drill_8 : decode cX9_drill 8 = .ok (.aload_n 0, 1) := by decide +kernel
theorem dX9_drill_9 : decode cX9_drill 9 = .ok (.getfield 13, 3) := by decide +kernel
theorem dX9_drill_12 : decode cX9_drill 12 = .ok (.aload_n 0, 1) := by decide +kernel
theorem dX9_drill_13 : decode cX9_drill 13 = .ok (.getfield 31, 3) := by decide +kernel
theorem dX9_drill_16 : decode cX9_drill 16 = .ok (.invokevirtual 103, 3) := by decide +kernel
theorem dX9_drill_19 : decode cX9_drill 19 = .ok (.iconst 1, 1) := by decide +kernel
theorem dX9_drill_20 : decode cX9_drill 20 = .ok (.istore_n 1, 1) := by decide +kernel
theorem dX9_drill_21 : decode cX9_drill 21 = .ok (.iconst 0, 1) := by decide +kernel
theorem dX9_drill_22 : decode cX9_drill 22 = .ok (.istore_n 2, 1) := by decide +kernel
theorem dX9_drill_23 : decode cX9_drill 23 = .ok (.iload_n 2, 1) := by decide +kernel
theorem dX9_drill_24 : decode cX9_drill 24 = .ok (.aload_n 0, 1) := by decide +kernel
theorem dX9_drill_25 : decode cX9_drill 25 = .ok (.getfield 13, 3) := by decide +kernel
theorem dX9_drill_28 : decode cX9_drill 28 = .ok (.if_icmp .ge 31, 3) := by decide +kernel
theorem dX9_drill_31 : decode cX9_drill 31 = .ok (.iload_n 1, 1) := by decide +kernel
theorem dX9_drill_32 : decode cX9_drill 32 = .ok (.ifCond .eq 27, 3) := by decide +kernel
theorem dX9_drill_35 : decode cX9_drill 35 = .ok (.aload_n 0, 1) := by decide +kernel
theorem dX9_drill_36 : decode cX9_drill 36 = .ok (.getfield 20, 3) := by decide +kernel
theorem dX9_drill_39 : decode cX9_drill 39 = .ok (.invokevirtual 107, 3) := by decide +kernel
theorem dX9_drill_42 : decode cX9_drill 42 = .ok (.ifCond .eq 17, 3) := by decide +kernel
theorem dX9_drill_45 : decode cX9_drill 45 = .ok (.aload_n 0, 1) := by decide +kernel
theorem dX9_drill_46 : decode cX9_drill 46 = .ok (.getfield 20, 3) := by decide +kernel
theorem dX9_drill_49 : decode cX9_drill 49 = .ok (.invokevirtual 111, 3) := by decide +kernel
theorem dX9_drill_52 : decode cX9_drill 52 = .ok (.istore_n 1, 1) := by decide +kernel
theorem dX9_drill_53 : decode cX9_drill 53 = .ok (.iinc 2 1, 3) := by decide +kernel
theorem dX9_drill_56 : decode cX9_drill 56 = .ok (.goto (-33), 3) := by decide +kernel
theorem dX9_drill_59 : decode cX9_drill 59 = .ok (.aload_n 0, 1) := by decide +kernel
theorem dX9_drill_60 : decode cX9_drill 60 = .ok (.aload_n 0, 1) := by decide +kernel
theorem dX9_drill_61 : decode cX9_drill 61 = .ok (.getfield 20, 3) := by decide +kernel
theorem dX9_drill_64 : decode cX9_drill 64 = .ok (.invokevirtual 114, 3) := by decide +kernel
theorem dX9_drill_67 : decode cX9_drill 67 = .ok (.putfield 34, 3) := by decide +kernel
theorem dX9_drill_70 : decode cX9_drill 70 = .ok (.aload_n 0, 1) := by decide +kernel
theorem dX9_drill_71 : decode cX9_drill 71 = .ok (.aload_n 0, 1) := by decide +kernel
theorem dX9_drill_72 : decode cX9_drill 72 = .ok (.getfield 20, 3) := by decide +kernel
theorem dX9_drill_75 : decode cX9_drill 75 = .ok (.invokevirtual 118, 3) := by decide +kernel
theorem dX9_drill_78 : decode cX9_drill 78 = .ok (.putfield 37, 3) := by decide +kernel
theorem dX9_drill_81 : decode cX9_drill 81 = .ok (.iload_n 1, 1) := by decide +kernel
theorem dX9_drill_82 : decode cX9_drill 82 = .ok (.ifCond .ne 5, 3) := by decide +kernel
theorem dX9_drill_85 : decode cX9_drill 85 = .ok (.iconst (-1), 1) := by decide +kernel
theorem dX9_drill_86 : decode cX9_drill 86 = .ok (.ireturn, 1) := by decide +kernel
theorem dX9_drill_87 : decode cX9_drill 87 = .ok (.aload_n 0, 1) := by decide +kernel
theorem dX9_drill_88 : decode cX9_drill 88 = .ok (.getfield 27, 3) := by decide +kernel
theorem dX9_drill_91 : decode cX9_drill 91 = .ok (.astore_n 2, 1) := by decide +kernel
theorem dX9_drill_92 : decode cX9_drill 92 = .ok (.aload_n 0, 1) := by decide +kernel
theorem dX9_drill_93 : decode cX9_drill 93 = .ok (.aload_n 0, 1) := by decide +kernel
theorem dX9_drill_94 : decode cX9_drill 94 = .ok (.getfield 31, 3) := by decide +kernel
theorem dX9_drill_97 : decode cX9_drill 97 = .ok (.putfield 27, 3) := by decide +kernel
theorem dX9_drill_100 : decode cX9_drill 100 = .ok (.aload_n 0, 1) := by decide +kernel
theorem dX9_drill_101 : decode cX9_drill 101 = .ok (.aload_n 2, 1) := by decide +kernel
theorem dX9_drill_102 : decode cX9_drill 102 = .ok (.putfield 31, 3) := by decide +kernel
theorem dX9_drill_105 : decode cX9_drill 105 = .ok (.aload_n 0, 1) := by decide +kernel
theorem dX9_drill_106 : decode cX9_drill 106 = .ok (.getfield 27, 3) := by decide +kernel
theorem dX9_drill_109 : decode cX9_drill 109 = .ok (.invokevirtual 121, 3) := by decide +kernel
theorem dX9_drill_112 : decode cX9_drill 112 = .ok (.aload_n 0, 1) := by decide +kernel
theorem dX9_drill_113 : decode cX9_drill 113 = .ok (.iconst 0, 1) := by decide +kernel
theorem dX9_drill_114 : decode cX9_drill 114 = .ok (.putfield 13, 3) := by decide +kernel
theorem dX9_drill_117 : decode cX9_drill 117 = .ok (.aload_n 0, 1) := by decide +kernel
theorem dX9_drill_118 : decode cX9_drill 118 = .ok (.getfield 43, 3) := by decide +kernel
theorem dX9_drill_121 : decode cX9_drill 121 = .ok (.aload_n 0, 1) := by decide +kernel
theorem dX9_drill_122 : decode cX9_drill 122 = .ok (.getfield 27, 3) := by decide +kernel
theorem dX9_drill_125 : decode cX9_drill 125 = .ok (.getfield 124, 3) := by decide +kernel
theorem dX9_drill_128 : decode cX9_drill 128 = .ok (.iconst 0, 1) := by decide +kernel
theorem dX9_drill_129 : decode cX9_drill 129 = .ok (.invokevirtual 128, 3) := by decide +kernel
theorem dX9_drill_132 : decode cX9_drill 132 = .ok (.aload_n 0, 1) := by decide +kernel
theorem dX9_drill_133 : decode cX9_drill 133 = .ok (.getfield 51, 3) := by decide +kernel
theorem dX9_drill_136 : decode cX9_drill 136 = .ok (.iconst (-1), 1) := by decide +kernel
theorem dX9_drill_137 : decode cX9_drill 137 = .ok (.invokestatic 131, 3) := by decide +kernel
theorem dX9_drill_140 : decode cX9_drill 140 = .ok (.aload_n 0, 1) := by decide +kernel
theorem dX9_drill_141 : decode cX9_drill 141 = .ok (.getfield 57, 3) := by decide +kernel
theorem dX9_drill_144 : decode cX9_drill 144 = .ok (.invokevirtual 137, 3) := by decide +kernel
theorem dX9_drill_147 : decode cX9_drill 147 = .ok (.aload_n 0, 1) := by decide +kernel
theorem dX9_drill_148 : decode cX9_drill 148 = .ok (.getfield 67, 3) := by decide +kernel
theorem dX9_drill_151 : decode cX9_drill 151 = .ok (.invokevirtual 140, 3) := by decide +kernel
theorem dX9_drill_154 : decode cX9_drill 154 = .ok (.aload_n 0, 1) := by decide +kernel
theorem dX9_drill_155 : decode cX9_drill 155 = .ok (.getfield 95, 3) := by decide +kernel
theorem dX9_drill_158 : decode cX9_drill 158 = .ok (.invokevirtual 143, 3) := by decide +kernel
theorem dX9_drill_161 : decode cX9_drill 161 = .ok (.aload_n 0, 1) := by decide +kernel
theorem dX9_drill_162 : decode cX9_drill 162 = .ok (.getfield 27, 3) := by decide +kernel
theorem dX9_drill_165 : decode cX9_drill 165 = .ok (.getfield 144, 3) := by decide +kernel
theorem dX9_drill_168 : decode cX9_drill 168 = .ok (.ireturn, 1) := by decide +kernel
set_option maxHeartbeats 4000000 in
set_option maxRecDepth 100000 in
theorem k_X2_clear (l : Launch) (D : va_G) (cyB cyI cyJ cyZ : ClassId) (sz : Nat) (ds : Nat) (fd_ : List Value) (ro : Nat) (wd : Nat) (wo : Nat) (fro : Nat → Int32) (fwd : Nat → Int32) (fwo : Nat → Int32) (hl_fd_ : fd_.length = 15) (h_fd__9 : fd_[9]? = some (.ref ro)) (h_fd__10 : fd_[10]? = some (.ref wd)) (h_fd__11 : fd_[11]? = some (.ref wo)) : KV l yX2_clear cX2_clear 2 1 0 0 D (TYS cyB cyI cyJ cyZ) [(ds, .inr (2, fd_)), (ro, .inl (cyI, 30, .inl fro)), (wd, .inl (cyI, 30, .inl fwd)), (wo, .inl (cyI, 4, .inl fwo))] sz [.ref ds] (fun (u : (Nat → Int32) × (Nat → Int32) × (Nat → Int32)) => True) (fun (u : (Nat → Int32) × (Nat → Int32) × (Nat → Int32)) => ([(ds, .inr (2, (((((((((fd_.set 0 (.int 2)).set 1 (.int 0)).set 2 (.int 0)).set 3 (.int 0)).set 4 (.int 0)).set 5 (.int 0)).set 6 (.int 0)).set 7 (.int 0)).set 8 (.long 0)))), (ro, .inl (cyI, 30, .inl u.1)), (wd, .inl (cyI, 30, .inl u.2.1)), (wo, .inl (cyI, 4, .inl u.2.2))] : va_W)) := by
  refine entV (by decide) (Nat.le_of_ble_eq_true rfl) ?_
  intro p e s m below meth c ls A hC hl hP hK hD hA
  obtain ⟨hx, hb, hr, hml, hown, hts, hlk, hnm⟩ := id hC
  have hS : va_S A s.heap s.heap [] := va_S.rf
  have hl : lv_has ls 2 [(0, .ref ds)] := hl
  generalize hHe : s.heap = H at hP ⊢
  rw [hHe] at hS
  have hS : va_S A s.heap H [] := by rw [hHe]; exact hS
  refine lv_aload_n hx hb dX2_clear_0 rfl (lv_at hl 0 rfl) ?_
  refine lv_iconst (v := 2) hx hb dX2_clear_1 (by decide) ?_
  refine pf (v := .int 2) hC hK hP hD hS iX2 tyX2_ok nmX2 0 rfl rfl 0 (by decide) mw_fieldLink_RX2_9_MirrorDrill_Drill_moves_I rfl rfl rfl (ln_lt hl_fd_ (by decide)) dX2_clear_2 (fun H locs hP hD hS => ?_)
  have hP : va_P D classes [(ds, .inr (2, (fd_.set 0 (.int 2)))), (ro, .inl (cyI, 30, .inl fro)), (wd, .inl (cyI, 30, .inl fwd)), (wo, .inl (cyI, 4, .inl fwo))] H := hP
  have hD : va_D A [(ds, .inr (2, (fd_.set 0 (.int 2)))), (ro, .inl (cyI, 30, .inl fro)), (wd, .inl (cyI, 30, .inl fwd)), (wo, .inl (cyI, 4, .inl fwo))] := hD
  refine lv_aload_n hx hb dX2_clear_5 rfl (lv_at hl 0 rfl) ?_
  refine lv_iconst (v := 0) hx hb dX2_clear_6 (by decide) ?_
  refine pf (v := .int 0) hC hK hP hD hS iX2 tyX2_ok nmX2 0 rfl rfl 1 (by decide) mw_fieldLink_RX2_15_MirrorDrill_Drill_men_I rfl rfl rfl (ln_lt (ln_set hl_fd_) (by decide)) dX2_clear_7 (fun H locs hP hD hS => ?_)
  have hP : va_P D classes [(ds, .inr (2, ((fd_.set 0 (.int 2)).set 1 (.int 0)))), (ro, .inl (cyI, 30, .inl fro)), (wd, .inl (cyI, 30, .inl fwd)), (wo, .inl (cyI, 4, .inl fwo))] H := hP
  have hD : va_D A [(ds, .inr (2, ((fd_.set 0 (.int 2)).set 1 (.int 0)))), (ro, .inl (cyI, 30, .inl fro)), (wd, .inl (cyI, 30, .inl fwd)), (wo, .inl (cyI, 4, .inl fwo))] := hD
  refine lv_aload_n hx hb dX2_clear_10 rfl (lv_at hl 0 rfl) ?_
  refine lv_iconst (v := 0) hx hb dX2_clear_11 (by decide) ?_
  refine pf (v := .int 0) hC hK hP hD hS iX2 tyX2_ok nmX2 0 rfl rfl 2 (by decide) mw_fieldLink_RX2_18_MirrorDrill_Drill_rules_I rfl rfl rfl (ln_lt (ln_set (ln_set hl_fd_)) (by decide)) dX2_clear_12 (fun H locs hP hD hS => ?_)
  have hP : va_P D classes [(ds, .inr (2, (((fd_.set 0 (.int 2)).set 1 (.int 0)).set 2 (.int 0)))), (ro, .inl (cyI, 30, .inl fro)), (wd, .inl (cyI, 30, .inl fwd)), (wo, .inl (cyI, 4, .inl fwo))] H := hP
  have hD : va_D A [(ds, .inr (2, (((fd_.set 0 (.int 2)).set 1 (.int 0)).set 2 (.int 0)))), (ro, .inl (cyI, 30, .inl fro)), (wd, .inl (cyI, 30, .inl fwd)), (wo, .inl (cyI, 4, .inl fwo))] := hD
  refine lv_aload_n hx hb dX2_clear_15 rfl (lv_at hl 0 rfl) ?_
  refine lv_iconst (v := 0) hx hb dX2_clear_16 (by decide) ?_
  refine pf (v := .int 0) hC hK hP hD hS iX2 tyX2_ok nmX2 0 rfl rfl 3 (by decide) mw_fieldLink_RX2_21_MirrorDrill_Drill_units_I rfl rfl rfl (ln_lt (ln_set (ln_set (ln_set hl_fd_))) (by decide)) dX2_clear_17 (fun H locs hP hD hS => ?_)
  have hP : va_P D classes [(ds, .inr (2, ((((fd_.set 0 (.int 2)).set 1 (.int 0)).set 2 (.int 0)).set 3 (.int 0)))), (ro, .inl (cyI, 30, .inl fro)), (wd, .inl (cyI, 30, .inl fwd)), (wo, .inl (cyI, 4, .inl fwo))] H := hP
  have hD : va_D A [(ds, .inr (2, ((((fd_.set 0 (.int 2)).set 1 (.int 0)).set 2 (.int 0)).set 3 (.int 0)))), (ro, .inl (cyI, 30, .inl fro)), (wd, .inl (cyI, 30, .inl fwd)), (wo, .inl (cyI, 4, .inl fwo))] := hD
  refine lv_aload_n hx hb dX2_clear_20 rfl (lv_at hl 0 rfl) ?_
  refine lv_iconst (v := 0) hx hb dX2_clear_21 (by decide) ?_
  refine pf (v := .int 0) hC hK hP hD hS iX2 tyX2_ok nmX2 0 rfl rfl 4 (by decide) mw_fieldLink_RX2_24_MirrorDrill_Drill_edge_I rfl rfl rfl (ln_lt (ln_set (ln_set (ln_set (ln_set hl_fd_)))) (by decide)) dX2_clear_22 (fun H locs hP hD hS => ?_)
  have hP : va_P D classes [(ds, .inr (2, (((((fd_.set 0 (.int 2)).set 1 (.int 0)).set 2 (.int 0)).set 3 (.int 0)).set 4 (.int 0)))), (ro, .inl (cyI, 30, .inl fro)), (wd, .inl (cyI, 30, .inl fwd)), (wo, .inl (cyI, 4, .inl fwo))] H := hP
  have hD : va_D A [(ds, .inr (2, (((((fd_.set 0 (.int 2)).set 1 (.int 0)).set 2 (.int 0)).set 3 (.int 0)).set 4 (.int 0)))), (ro, .inl (cyI, 30, .inl fro)), (wd, .inl (cyI, 30, .inl fwd)), (wo, .inl (cyI, 4, .inl fwo))] := hD
  refine lv_aload_n hx hb dX2_clear_25 rfl (lv_at hl 0 rfl) ?_
  refine lv_iconst (v := 0) hx hb dX2_clear_26 (by decide) ?_
  refine pf (v := .int 0) hC hK hP hD hS iX2 tyX2_ok nmX2 0 rfl rfl 5 (by decide) mw_fieldLink_RX2_27_MirrorDrill_Drill_ring_Z rfl rfl rfl (ln_lt (ln_set (ln_set (ln_set (ln_set (ln_set hl_fd_))))) (by decide)) dX2_clear_27 (fun H locs hP hD hS => ?_)
  have hP : va_P D classes [(ds, .inr (2, ((((((fd_.set 0 (.int 2)).set 1 (.int 0)).set 2 (.int 0)).set 3 (.int 0)).set 4 (.int 0)).set 5 (.int 0)))), (ro, .inl (cyI, 30, .inl fro)), (wd, .inl (cyI, 30, .inl fwd)), (wo, .inl (cyI, 4, .inl fwo))] H := hP
  have hD : va_D A [(ds, .inr (2, ((((((fd_.set 0 (.int 2)).set 1 (.int 0)).set 2 (.int 0)).set 3 (.int 0)).set 4 (.int 0)).set 5 (.int 0)))), (ro, .inl (cyI, 30, .inl fro)), (wd, .inl (cyI, 30, .inl fwd)), (wo, .inl (cyI, 4, .inl fwo))] := hD
  refine lv_aload_n hx hb dX2_clear_30 rfl (lv_at hl 0 rfl) ?_
  refine lv_iconst (v := 0) hx hb dX2_clear_31 (by decide) ?_
  refine pf (v := .int 0) hC hK hP hD hS iX2 tyX2_ok nmX2 0 rfl rfl 6 (by decide) mw_fieldLink_RX2_31_MirrorDrill_Drill_turned_I rfl rfl rfl (ln_lt (ln_set (ln_set (ln_set (ln_set (ln_set (ln_set hl_fd_)))))) (by decide)) dX2_clear_32 (fun H locs hP hD hS => ?_)
  have hP : va_P D classes [(ds, .inr (2, (((((((fd_.set 0 (.int 2)).set 1 (.int 0)).set 2 (.int 0)).set 3 (.int 0)).set 4 (.int 0)).set 5 (.int 0)).set 6 (.int 0)))), (ro, .inl (cyI, 30, .inl fro)), (wd, .inl (cyI, 30, .inl fwd)), (wo, .inl (cyI, 4, .inl fwo))] H := hP
  have hD : va_D A [(ds, .inr (2, (((((((fd_.set 0 (.int 2)).set 1 (.int 0)).set 2 (.int 0)).set 3 (.int 0)).set 4 (.int 0)).set 5 (.int 0)).set 6 (.int 0)))), (ro, .inl (cyI, 30, .inl fro)), (wd, .inl (cyI, 30, .inl fwd)), (wo, .inl (cyI, 4, .inl fwo))] := hD
  refine lv_aload_n hx hb dX2_clear_35 rfl (lv_at hl 0 rfl) ?_
  refine lv_iconst (v := 0) hx hb dX2_clear_36 (by decide) ?_
  refine pf (v := .int 0) hC hK hP hD hS iX2 tyX2_ok nmX2 0 rfl rfl 7 (by decide) mw_fieldLink_RX2_34_MirrorDrill_Drill_cracked_I rfl rfl rfl (ln_lt (ln_set (ln_set (ln_set (ln_set (ln_set (ln_set (ln_set hl_fd_))))))) (by decide)) dX2_clear_37 (fun H locs hP hD hS => ?_)
  have hP : va_P D classes [(ds, .inr (2, ((((((((fd_.set 0 (.int 2)).set 1 (.int 0)).set 2 (.int 0)).set 3 (.int 0)).set 4 (.int 0)).set 5 (.int 0)).set 6 (.int 0)).set 7 (.int 0)))), (ro, .inl (cyI, 30, .inl fro)), (wd, .inl (cyI, 30, .inl fwd)), (wo, .inl (cyI, 4, .inl fwo))] H := hP
  have hD : va_D A [(ds, .inr (2, ((((((((fd_.set 0 (.int 2)).set 1 (.int 0)).set 2 (.int 0)).set 3 (.int 0)).set 4 (.int 0)).set 5 (.int 0)).set 6 (.int 0)).set 7 (.int 0)))), (ro, .inl (cyI, 30, .inl fro)), (wd, .inl (cyI, 30, .inl fwd)), (wo, .inl (cyI, 4, .inl fwo))] := hD
  refine lv_aload_n hx hb dX2_clear_40 rfl (lv_at hl 0 rfl) ?_
  refine lv_lconst (v := 0) hx hb dX2_clear_41 (by decide) ?_
  refine pf (v := .long 0) hC hK hP hD hS iX2 tyX2_ok nmX2 0 rfl rfl 8 (by decide) mw_fieldLink_RX2_37_MirrorDrill_Drill_first_J rfl rfl rfl (ln_lt (ln_set (ln_set (ln_set (ln_set (ln_set (ln_set (ln_set (ln_set hl_fd_)))))))) (by decide)) dX2_clear_42 (fun H locs hP hD hS => ?_)
  have hP : va_P D classes [(ds, .inr (2, (((((((((fd_.set 0 (.int 2)).set 1 (.int 0)).set 2 (.int 0)).set 3 (.int 0)).set 4 (.int 0)).set 5 (.int 0)).set 6 (.int 0)).set 7 (.int 0)).set 8 (.long 0)))), (ro, .inl (cyI, 30, .inl fro)), (wd, .inl (cyI, 30, .inl fwd)), (wo, .inl (cyI, 4, .inl fwo))] H := hP
  have hD : va_D A [(ds, .inr (2, (((((((((fd_.set 0 (.int 2)).set 1 (.int 0)).set 2 (.int 0)).set 3 (.int 0)).set 4 (.int 0)).set 5 (.int 0)).set 6 (.int 0)).set 7 (.int 0)).set 8 (.long 0)))), (ro, .inl (cyI, 30, .inl fro)), (wd, .inl (cyI, 30, .inl fwd)), (wo, .inl (cyI, 4, .inl fwo))] := hD
  refine lv_aload_n hx hb dX2_clear_45 rfl (lv_at hl 0 rfl) ?_
  refine gf hC hK hP iX2 0 rfl rfl 9 (by decide) mw_fieldLink_RX2_41_MirrorDrill_Drill_ruleOf_I (gs_ne (by decide) (gs_ne (by decide) (gs_ne (by decide) (gs_ne (by decide) (gs_ne (by decide) (gs_ne (by decide) (gs_ne (by decide) (gs_ne (by decide) (gs_ne (by decide) h_fd__9))))))))) dX2_clear_46 ?_
  refine lv_iconst (v := 0) hx hb dX2_clear_49 (by decide) ?_
  refine aftV (wr := [(ds, .inr (2, (((((((((fd_.set 0 (.int 2)).set 1 (.int 0)).set 2 (.int 0)).set 3 (.int 0)).set 4 (.int 0)).set 5 (.int 0)).set 6 (.int 0)).set 7 (.int 0)).set 8 (.long 0)))), (wd, .inl (cyI, 30, .inl fwd)), (wo, .inl (cyI, 4, .inl fwo))]) (runS hC hK hP hD hl.1 (k_J7_fill_30 l D cyB cyI cyJ cyZ H.size ro 0 fro ) cS_J7_fill_53178 mw_methodLink_RX2_61_yJ7_fill_53178 [1] rfl rfl rfl rfl (Nat.le_of_ble_eq_true rfl) ⟨by decide, by decide⟩ ⟨by decide, by decide⟩ dX2_clear_50) hP hD hS hA [1] [0, 2, 3] rfl rfl rfl (by decide) (fun u_1 H locs hw_1 hP hD hS => ?_)
  obtain ⟨g_1, rfl⟩ : ∃ z, z = u_1 := ⟨_, rfl⟩
  try dsimp only at hw_1
  have hP : va_P D classes [(ds, .inr (2, (((((((((fd_.set 0 (.int 2)).set 1 (.int 0)).set 2 (.int 0)).set 3 (.int 0)).set 4 (.int 0)).set 5 (.int 0)).set 6 (.int 0)).set 7 (.int 0)).set 8 (.long 0)))), (wd, .inl (cyI, 30, .inl fwd)), (wo, .inl (cyI, 4, .inl fwo)), (ro, .inl (cyI, 30, .inl g_1))] H := hP
  have hD : va_D A [(ds, .inr (2, (((((((((fd_.set 0 (.int 2)).set 1 (.int 0)).set 2 (.int 0)).set 3 (.int 0)).set 4 (.int 0)).set 5 (.int 0)).set 6 (.int 0)).set 7 (.int 0)).set 8 (.long 0)))), (wd, .inl (cyI, 30, .inl fwd)), (wo, .inl (cyI, 4, .inl fwo)), (ro, .inl (cyI, 30, .inl g_1))] := hD
  refine W.widen (k := 0) (n := 0) (by decide) (by decide) ?_
  refine lv_aload_n hx hb dX2_clear_53 rfl (lv_at hl 0 rfl) ?_
  refine gf hC hK hP iX2 0 rfl rfl 10 (by decide) mw_fieldLink_RX2_45_MirrorDrill_Drill_windows_I (gs_ne (by decide) (gs_ne (by decide) (gs_ne (by decide) (gs_ne (by decide) (gs_ne (by decide) (gs_ne (by decide) (gs_ne (by decide) (gs_ne (by decide) (gs_ne (by decide) h_fd__10))))))))) dX2_clear_54 ?_
  refine lv_iconst (v := (-1)) hx hb dX2_clear_57 (by decide) ?_
  refine aftV (wr := [(ds, .inr (2, (((((((((fd_.set 0 (.int 2)).set 1 (.int 0)).set 2 (.int 0)).set 3 (.int 0)).set 4 (.int 0)).set 5 (.int 0)).set 6 (.int 0)).set 7 (.int 0)).set 8 (.long 0)))), (wo, .inl (cyI, 4, .inl fwo)), (ro, .inl (cyI, 30, .inl g_1))]) (runS hC hK hP hD hl.1 (k_J7_fill_30 l D cyB cyI cyJ cyZ H.size wd (-1) fwd ) cS_J7_fill_53178 mw_methodLink_RX2_61_yJ7_fill_53178 [1] rfl rfl rfl rfl (Nat.le_of_ble_eq_true rfl) ⟨by decide, by decide⟩ ⟨by decide, by decide⟩ dX2_clear_58) hP hD hS hA [1] [0, 2, 3] rfl rfl rfl (by decide) (fun u_2 H locs hw_2 hP hD hS => ?_)
  obtain ⟨g_2, rfl⟩ : ∃ z, z = u_2 := ⟨_, rfl⟩
  try dsimp only at hw_2
  have hP : va_P D classes [(ds, .inr (2, (((((((((fd_.set 0 (.int 2)).set 1 (.int 0)).set 2 (.int 0)).set 3 (.int 0)).set 4 (.int 0)).set 5 (.int 0)).set 6 (.int 0)).set 7 (.int 0)).set 8 (.long 0)))), (wo, .inl (cyI, 4, .inl fwo)), (ro, .inl (cyI, 30, .inl g_1)), (wd, .inl (cyI, 30, .inl g_2))] H := hP
  have hD : va_D A [(ds, .inr (2, (((((((((fd_.set 0 (.int 2)).set 1 (.int 0)).set 2 (.int 0)).set 3 (.int 0)).set 4 (.int 0)).set 5 (.int 0)).set 6 (.int 0)).set 7 (.int 0)).set 8 (.long 0)))), (wo, .inl (cyI, 4, .inl fwo)), (ro, .inl (cyI, 30, .inl g_1)), (wd, .inl (cyI, 30, .inl g_2))] := hD
  refine W.widen (k := 0) (n := 0) (by decide) (by decide) ?_
  refine lv_iconst (v := 0) hx hb dX2_clear_61 (by decide) ?_
  refine lv_istore_n (lv' := [(1, .int 0), (0, .ref ds)]) hx hb dX2_clear_62 rfl hl (by decide) rfl (fun ls hl => ?_)
  refine lv_iload_n hx hb dX2_clear_63 rfl (lv_at hl 0 rfl) ?_
  refine lv_iconst (v := 4) hx hb dX2_clear_64 (by decide) ?_
  refine lv_icmp_ge (tgt := 81) hx hb dX2_clear_65 (by decide) (fun c_3 => absurd c_3 (by decide)) (fun c_3 => ?_)
  refine lv_aload_n hx hb dX2_clear_68 rfl (lv_at hl 1 rfl) ?_
  refine gf hC hK hP iX2 0 rfl rfl 11 (by decide) mw_fieldLink_RX2_48_MirrorDrill_Drill_worths_I (gs_ne (by decide) (gs_ne (by decide) (gs_ne (by decide) (gs_ne (by decide) (gs_ne (by decide) (gs_ne (by decide) (gs_ne (by decide) (gs_ne (by decide) (gs_ne (by decide) h_fd__11))))))))) dX2_clear_69 ?_
  refine lv_iload_n hx hb dX2_clear_72 rfl (lv_at hl 0 rfl) ?_
  refine lv_iload_n hx hb dX2_clear_73 rfl (lv_at hl 0 rfl) ?_
  refine va_iast hx hb hK hP hD hS 1 1 rfl rfl (vin (by decide)) dX2_clear_74 (fun H locs hP hD hS => ?_)
  obtain ⟨f_4, ef_4⟩ : ∃ g : Nat → Int32, g = upd fwo ((0 : Int32).toNatClampNeg) 0 := ⟨_, rfl⟩
  rw [← ef_4] at hP hD
  have hP : va_P D classes [(ds, .inr (2, (((((((((fd_.set 0 (.int 2)).set 1 (.int 0)).set 2 (.int 0)).set 3 (.int 0)).set 4 (.int 0)).set 5 (.int 0)).set 6 (.int 0)).set 7 (.int 0)).set 8 (.long 0)))), (wo, .inl (cyI, 4, .inl f_4)), (ro, .inl (cyI, 30, .inl g_1)), (wd, .inl (cyI, 30, .inl g_2))] H := hP
  have hD : va_D A [(ds, .inr (2, (((((((((fd_.set 0 (.int 2)).set 1 (.int 0)).set 2 (.int 0)).set 3 (.int 0)).set 4 (.int 0)).set 5 (.int 0)).set 6 (.int 0)).set 7 (.int 0)).set 8 (.long 0)))), (wo, .inl (cyI, 4, .inl f_4)), (ro, .inl (cyI, 30, .inl g_1)), (wd, .inl (cyI, 30, .inl g_2))] := hD
  refine lv_iinc (v := 1) (lv' := [(1, .int 1), (0, .ref ds)]) hx hb dX2_clear_75 hl (k := 0) rfl (by decide) (by decide) rfl (fun ls hl => ?_)
  refine lv_goto (tgt := 63) hx hb dX2_clear_78 (by decide) ?_
  refine lv_iload_n hx hb dX2_clear_63 rfl (lv_at hl 0 rfl) ?_
  refine lv_iconst (v := 4) hx hb dX2_clear_64 (by decide) ?_
  refine lv_icmp_ge (tgt := 81) hx hb dX2_clear_65 (by decide) (fun c_5 => absurd c_5 (by decide)) (fun c_5 => ?_)
  refine lv_aload_n hx hb dX2_clear_68 rfl (lv_at hl 1 rfl) ?_
  refine gf hC hK hP iX2 0 rfl rfl 11 (by decide) mw_fieldLink_RX2_48_MirrorDrill_Drill_worths_I (gs_ne (by decide) (gs_ne (by decide) (gs_ne (by decide) (gs_ne (by decide) (gs_ne (by decide) (gs_ne (by decide) (gs_ne (by decide) (gs_ne (by decide) (gs_ne (by decide) h_fd__11))))))))) dX2_clear_69 ?_
  refine lv_iload_n hx hb dX2_clear_72 rfl (lv_at hl 0 rfl) ?_
  refine lv_iload_n hx hb dX2_clear_73 rfl (lv_at hl 0 rfl) ?_
  refine va_iast hx hb hK hP hD hS 1 1 rfl rfl (vin (by decide)) dX2_clear_74 (fun H locs hP hD hS => ?_)
  obtain ⟨f_6, ef_6⟩ : ∃ g : Nat → Int32, g = upd f_4 ((1 : Int32).toNatClampNeg) 1 := ⟨_, rfl⟩
  rw [← ef_6] at hP hD
  have hP : va_P D classes [(ds, .inr (2, (((((((((fd_.set 0 (.int 2)).set 1 (.int 0)).set 2 (.int 0)).set 3 (.int 0)).set 4 (.int 0)).set 5 (.int 0)).set 6 (.int 0)).set 7 (.int 0)).set 8 (.long 0)))), (wo, .inl (cyI, 4, .inl f_6)), (ro, .inl (cyI, 30, .inl g_1)), (wd, .inl (cyI, 30, .inl g_2))] H := hP
  have hD : va_D A [(ds, .inr (2, (((((((((fd_.set 0 (.int 2)).set 1 (.int 0)).set 2 (.int 0)).set 3 (.int 0)).set 4 (.int 0)).set 5 (.int 0)).set 6 (.int 0)).set 7 (.int 0)).set 8 (.long 0)))), (wo, .inl (cyI, 4, .inl f_6)), (ro, .inl (cyI, 30, .inl g_1)), (wd, .inl (cyI, 30, .inl g_2))] := hD
  refine lv_iinc (v := 2) (lv' := [(1, .int 2), (0, .ref ds)]) hx hb dX2_clear_75 hl (k := 0) rfl (by decide) (by decide) rfl (fun ls hl => ?_)
  refine lv_goto (tgt := 63) hx hb dX2_clear_78 (by decide) ?_
  refine lv_iload_n hx hb dX2_clear_63 rfl (lv_at hl 0 rfl) ?_
  refine lv_iconst (v := 4) hx hb dX2_clear_64 (by decide) ?_
  refine lv_icmp_ge (tgt := 81) hx hb dX2_clear_65 (by decide) (fun c_7 => absurd c_7 (by decide)) (fun c_7 => ?_)
  refine lv_aload_n hx hb dX2_clear_68 rfl (lv_at hl 1 rfl) ?_
  refine gf hC hK hP iX2 0 rfl rfl 11 (by decide) mw_fieldLink_RX2_48_MirrorDrill_Drill_worths_I (gs_ne (by decide) (gs_ne (by decide) (gs_ne (by decide) (gs_ne (by decide) (gs_ne (by decide) (gs_ne (by decide) (gs_ne (by decide) (gs_ne (by decide) (gs_ne (by decide) h_fd__11))))))))) dX2_clear_69 ?_
  refine lv_iload_n hx hb dX2_clear_72 rfl (lv_at hl 0 rfl) ?_
  refine lv_iload_n hx hb dX2_clear_73 rfl (lv_at hl 0 rfl) ?_
  refine va_iast hx hb hK hP hD hS 1 1 rfl rfl (vin (by decide)) dX2_clear_74 (fun H locs hP hD hS => ?_)
  obtain ⟨f_8, ef_8⟩ : ∃ g : Nat → Int32, g = upd f_6 ((2 : Int32).toNatClampNeg) 2 := ⟨_, rfl⟩
  rw [← ef_8] at hP hD
  have hP : va_P D classes [(ds, .inr (2, (((((((((fd_.set 0 (.int 2)).set 1 (.int 0)).set 2 (.int 0)).set 3 (.int 0)).set 4 (.int 0)).set 5 (.int 0)).set 6 (.int 0)).set 7 (.int 0)).set 8 (.long 0)))), (wo, .inl (cyI, 4, .inl f_8)), (ro, .inl (cyI, 30, .inl g_1)), (wd, .inl (cyI, 30, .inl g_2))] H := hP
  have hD : va_D A [(ds, .inr (2, (((((((((fd_.set 0 (.int 2)).set 1 (.int 0)).set 2 (.int 0)).set 3 (.int 0)).set 4 (.int 0)).set 5 (.int 0)).set 6 (.int 0)).set 7 (.int 0)).set 8 (.long 0)))), (wo, .inl (cyI, 4, .inl f_8)), (ro, .inl (cyI, 30, .inl g_1)), (wd, .inl (cyI, 30, .inl g_2))] := hD
  refine lv_iinc (v := 3) (lv' := [(1, .int 3), (0, .ref ds)]) hx hb dX2_clear_75 hl (k := 0) rfl (by decide) (by decide) rfl (fun ls hl => ?_)
  refine lv_goto (tgt := 63) hx hb dX2_clear_78 (by decide) ?_
  refine lv_iload_n hx hb dX2_clear_63 rfl (lv_at hl 0 rfl) ?_
  refine lv_iconst (v := 4) hx hb dX2_clear_64 (by decide) ?_
  refine lv_icmp_ge (tgt := 81) hx hb dX2_clear_65 (by decide) (fun c_9 => absurd c_9 (by decide)) (fun c_9 => ?_)
  refine lv_aload_n hx hb dX2_clear_68 rfl (lv_at hl 1 rfl) ?_
  refine gf hC hK hP iX2 0 rfl rfl 11 (by decide) mw_fieldLink_RX2_48_MirrorDrill_Drill_worths_I (gs_ne (by decide) (gs_ne (by decide) (gs_ne (by decide) (gs_ne (by decide) (gs_ne (by decide) (gs_ne (by decide) (gs_ne (by decide) (gs_ne (by decide) (gs_ne (by decide) h_fd__11))))))))) dX2_clear_69 ?_
  refine lv_iload_n hx hb dX2_clear_72 rfl (lv_at hl 0 rfl) ?_
  refine lv_iload_n hx hb dX2_clear_73 rfl (lv_at hl 0 rfl) ?_
  refine va_iast hx hb hK hP hD hS 1 1 rfl rfl (vin (by decide)) dX2_clear_74 (fun H locs hP hD hS => ?_)
  obtain ⟨f_10, ef_10⟩ : ∃ g : Nat → Int32, g = upd f_8 ((3 : Int32).toNatClampNeg) 3 := ⟨_, rfl⟩
  rw [← ef_10] at hP hD
  have hP : va_P D classes [(ds, .inr (2, (((((((((fd_.set 0 (.int 2)).set 1 (.int 0)).set 2 (.int 0)).set 3 (.int 0)).set 4 (.int 0)).set 5 (.int 0)).set 6 (.int 0)).set 7 (.int 0)).set 8 (.long 0)))), (wo, .inl (cyI, 4, .inl f_10)), (ro, .inl (cyI, 30, .inl g_1)), (wd, .inl (cyI, 30, .inl g_2))] H := hP
  have hD : va_D A [(ds, .inr (2, (((((((((fd_.set 0 (.int 2)).set 1 (.int 0)).set 2 (.int 0)).set 3 (.int 0)).set 4 (.int 0)).set 5 (.int 0)).set 6 (.int 0)).set 7 (.int 0)).set 8 (.long 0)))), (wo, .inl (cyI, 4, .inl f_10)), (ro, .inl (cyI, 30, .inl g_1)), (wd, .inl (cyI, 30, .inl g_2))] := hD
  refine lv_iinc (v := 4) (lv' := [(1, .int 4), (0, .ref ds)]) hx hb dX2_clear_75 hl (k := 0) rfl (by decide) (by decide) rfl (fun ls hl => ?_)
  refine lv_goto (tgt := 63) hx hb dX2_clear_78 (by decide) ?_
  refine lv_iload_n hx hb dX2_clear_63 rfl (lv_at hl 0 rfl) ?_
  refine lv_iconst (v := 4) hx hb dX2_clear_64 (by decide) ?_
  refine lv_icmp_ge (tgt := 81) hx hb dX2_clear_65 (by decide) (fun c_11 => ?_) (fun c_11 => absurd (by decide) c_11)
  exact retV hC hP hD hS (by decide) (by decide) (g_1, g_2, f_10) [0, 2, 3, 1] rfl rfl trivial dX2_clear_81
set_option maxHeartbeats 4000000 in
set_option maxRecDepth 100000 in
theorem k_X7_advance (l : Launch) (D : va_G) (cyB cyI cyJ cyZ : ClassId) (sz : Nat) (rd : Nat) (fr_ : List Value) (hl_fr_ : fr_.length = 16) (h_fr__1 : fr_[1]? = some (.int 0)) (h_fr__2 : fr_[2]? = some (.int 0)) : KV l yX7_advance cX7_advance 1 0 0 0 D (TYS cyB cyI cyJ cyZ) [(rd, .inr (7, fr_))] sz [.ref rd] (fun (u : Unit) => True) (fun (u : Unit) => ([(rd, .inr (7, ((fr_.set 4 (.int 0)).set 3 (.int 0))))] : va_W)) := by
  refine entV (by decide) (Nat.le_of_ble_eq_true rfl) ?_
  intro p e s m below meth c ls A hC hl hP hK hD hA
  obtain ⟨hx, hb, hr, hml, hown, hts, hlk, hnm⟩ := id hC
  have hS : va_S A s.heap s.heap [] := va_S.rf
  have hl : lv_has ls 1 [(0, .ref rd)] := hl
  generalize hHe : s.heap = H at hP ⊢
  rw [hHe] at hS
  have hS : va_S A s.heap H [] := by rw [hHe]; exact hS
  refine lv_aload_n hx hb dX7_advance_0 rfl (lv_at hl 0 rfl) ?_
  refine gf hC hK hP iX7 0 rfl rfl 2 (by decide) mw_fieldLink_RX7_42_MirrorDrill_Reader_at_I h_fr__2 dX7_advance_1 ?_
  refine lv_aload_n hx hb dX7_advance_4 rfl (lv_at hl 0 rfl) ?_
  refine gf hC hK hP iX7 0 rfl rfl 1 (by decide) mw_fieldLink_RX7_35_MirrorDrill_Reader_length_I h_fr__1 dX7_advance_5 ?_
  refine lv_icmp_ge (tgt := 39) hx hb dX7_advance_8 (by decide) (fun c_1 => ?_) (fun c_1 => absurd (by decide) c_1)
  refine lv_aload_n hx hb dX7_advance_39 rfl (lv_at hl 0 rfl) ?_
  refine lv_aload_n hx hb dX7_advance_40 rfl (lv_at hl 0 rfl) ?_
  refine gf hC hK hP iX7 0 rfl rfl 2 (by decide) mw_fieldLink_RX7_42_MirrorDrill_Reader_at_I h_fr__2 dX7_advance_41 ?_
  refine pf (v := .int 0) hC hK hP hD hS iX7 tyX7_ok nmX7 0 rfl rfl 4 (by decide) mw_fieldLink_RX7_62_MirrorDrill_Reader_place_I rfl rfl rfl (ln_lt hl_fr_ (by decide)) dX7_advance_44 (fun H locs hP hD hS => ?_)
  have hP : va_P D classes [(rd, .inr (7, (fr_.set 4 (.int 0))))] H := hP
  have hD : va_D A [(rd, .inr (7, (fr_.set 4 (.int 0))))] := hD
  refine lv_aload_n hx hb dX7_advance_47 rfl (lv_at hl 0 rfl) ?_
  refine gf hC hK hP iX7 0 rfl rfl 2 (by decide) mw_fieldLink_RX7_42_MirrorDrill_Reader_at_I (gs_ne (by decide) h_fr__2) dX7_advance_48 ?_
  refine lv_aload_n hx hb dX7_advance_51 rfl (lv_at hl 0 rfl) ?_
  refine gf hC hK hP iX7 0 rfl rfl 1 (by decide) mw_fieldLink_RX7_35_MirrorDrill_Reader_length_I (gs_ne (by decide) h_fr__1) dX7_advance_52 ?_
  refine lv_icmp_lt (tgt := 66) hx hb dX7_advance_55 (by decide) (fun c_2 => absurd c_2 (by decide)) (fun c_2 => ?_)
  refine lv_aload_n hx hb dX7_advance_58 rfl (lv_at hl 0 rfl) ?_
  refine lv_iconst (v := 0) hx hb dX7_advance_59 (by decide) ?_
  refine pf (v := .int 0) hC hK hP hD hS iX7 tyX7_ok nmX7 0 rfl rfl 3 (by decide) mw_fieldLink_RX7_59_MirrorDrill_Reader_token_I rfl rfl rfl (ln_lt (ln_set hl_fr_) (by decide)) dX7_advance_60 (fun H locs hP hD hS => ?_)
  have hP : va_P D classes [(rd, .inr (7, ((fr_.set 4 (.int 0)).set 3 (.int 0))))] H := hP
  have hD : va_D A [(rd, .inr (7, ((fr_.set 4 (.int 0)).set 3 (.int 0))))] := hD
  refine lv_goto (tgt := 184) hx hb dX7_advance_63 (by decide) ?_
  exact retV hC hP hD hS (by decide) (by decide) () [0] rfl rfl trivial dX7_advance_184
set_option maxHeartbeats 4000000 in
set_option maxRecDepth 100000 in
theorem k_X7_begin (l : Launch) (D : va_G) (cyB cyI cyJ cyZ : ClassId) (sz : Nat) (rd : Nat) (tp : Nat) (ds : Nat) (fr_ : List Value) (ftp : Nat → Int32) (fd_ : List Value) (ro : Nat) (wd : Nat) (wo : Nat) (fro : Nat → Int32) (fwd : Nat → Int32) (fwo : Nat → Int32) (hl_fr_ : fr_.length = 16) (hl_fd_ : fd_.length = 15) (h_fd__9 : fd_[9]? = some (.ref ro)) (h_fd__10 : fd_[10]? = some (.ref wd)) (h_fd__11 : fd_[11]? = some (.ref wo)) : KV l yX7_begin cX7_begin 4 2 0 0 D (TYS cyB cyI cyJ cyZ) [(rd, .inr (7, fr_)), (tp, .inl (cyI, 1600, .inl ftp)), (ds, .inr (2, fd_)), (ro, .inl (cyI, 30, .inl fro)), (wd, .inl (cyI, 30, .inl fwd)), (wo, .inl (cyI, 4, .inl fwo))] sz [.ref rd, .ref tp, .int 0, .ref ds] (fun (u : Unit) => True) (fun (u : Unit) => ([(rd, .inr (7, ((((((((((fr_.set 0 (.ref tp)).set 1 (.int 0)).set 7 (.ref ds)).set 2 (.int 0)).set 8 (.int 0)).set 9 (.int 0)).set 14 (.int 0)).set 15 (.int (-1))).set 4 (.int 0)).set 3 (.int 0)))), (ds, .inr (2, (((((((((fd_.set 0 (.int 2)).set 1 (.int 0)).set 2 (.int 0)).set 3 (.int 0)).set 4 (.int 0)).set 5 (.int 0)).set 6 (.int 0)).set 7 (.int 0)).set 8 (.long 0))))] : va_W)) := by
  refine entV (by decide) (Nat.le_of_ble_eq_true rfl) ?_
  intro p e s m below meth c ls A hC hl hP hK hD hA
  obtain ⟨hx, hb, hr, hml, hown, hts, hlk, hnm⟩ := id hC
  have hS : va_S A s.heap s.heap [] := va_S.rf
  have hl : lv_has ls 4 [(0, .ref rd), (1, .ref tp), (2, .int 0), (3, .ref ds)] := hl
  generalize hHe : s.heap = H at hP ⊢
  rw [hHe] at hS
  have hS : va_S A s.heap H [] := by rw [hHe]; exact hS
  refine lv_aload_n hx hb dX7_begin_0 rfl (lv_at hl 0 rfl) ?_
  refine lv_aload_n hx hb dX7_begin_1 rfl (lv_at hl 1 rfl) ?_
  refine pf (v := .ref tp) hC hK hP hD hS iX7 tyX7_ok nmX7 0 rfl rfl 0 (by decide) mw_fieldLink_RX7_9_MirrorDrill_Reader_text_I rfl rfl rfl (ln_lt hl_fr_ (by decide)) dX7_begin_2 (fun H locs hP hD hS => ?_)
  have hP : va_P D classes [(rd, .inr (7, (fr_.set 0 (.ref tp)))), (tp, .inl (cyI, 1600, .inl ftp)), (ds, .inr (2, fd_)), (ro, .inl (cyI, 30, .inl fro)), (wd, .inl (cyI, 30, .inl fwd)), (wo, .inl (cyI, 4, .inl fwo))] H := hP
  have hD : va_D A [(rd, .inr (7, (fr_.set 0 (.ref tp)))), (tp, .inl (cyI, 1600, .inl ftp)), (ds, .inr (2, fd_)), (ro, .inl (cyI, 30, .inl fro)), (wd, .inl (cyI, 30, .inl fwd)), (wo, .inl (cyI, 4, .inl fwo))] := hD
  refine lv_aload_n hx hb dX7_begin_5 rfl (lv_at hl 0 rfl) ?_
  refine lv_iload_n hx hb dX7_begin_6 rfl (lv_at hl 2 rfl) ?_
  refine lv_aload_n hx hb dX7_begin_7 rfl (lv_at hl 1 rfl) ?_
  refine va_alen (v := 1600) hx hb hK hP 1 1 rfl rfl rfl dX7_begin_8 ?_
  refine va_mmin hx hb (by rw [hml]; exact hl.1.symm) hown (hts _ mn_l) (hts _ mn_s) (hts _ mn_i) (hts _ mn_c) (by decide) (Nat.le_of_ble_eq_true rfl) (by decide) (by decide) dX7_begin_9 ?_
  refine lv_cst (v := 0) (by decide) ?_
  refine pf (v := .int 0) hC hK hP hD hS iX7 tyX7_ok nmX7 0 rfl rfl 1 (by decide) mw_fieldLink_RX7_35_MirrorDrill_Reader_length_I rfl rfl rfl (ln_lt (ln_set hl_fr_) (by decide)) dX7_begin_12 (fun H locs hP hD hS => ?_)
  have hP : va_P D classes [(rd, .inr (7, ((fr_.set 0 (.ref tp)).set 1 (.int 0)))), (tp, .inl (cyI, 1600, .inl ftp)), (ds, .inr (2, fd_)), (ro, .inl (cyI, 30, .inl fro)), (wd, .inl (cyI, 30, .inl fwd)), (wo, .inl (cyI, 4, .inl fwo))] H := hP
  have hD : va_D A [(rd, .inr (7, ((fr_.set 0 (.ref tp)).set 1 (.int 0)))), (tp, .inl (cyI, 1600, .inl ftp)), (ds, .inr (2, fd_)), (ro, .inl (cyI, 30, .inl fro)), (wd, .inl (cyI, 30, .inl fwd)), (wo, .inl (cyI, 4, .inl fwo))] := hD
  refine lv_aload_n hx hb dX7_begin_15 rfl (lv_at hl 0 rfl) ?_
  refine lv_aload_n hx hb dX7_begin_16 rfl (lv_at hl 3 rfl) ?_
  refine pf (v := .ref ds) hC hK hP hD hS iX7 tyX7_ok nmX7 0 rfl rfl 7 (by decide) mw_fieldLink_RX7_38_MirrorDrill_Reader_target_LMirrorDrill_Drill rfl rfl rfl (ln_lt (ln_set (ln_set hl_fr_)) (by decide)) dX7_begin_17 (fun H locs hP hD hS => ?_)
  have hP : va_P D classes [(rd, .inr (7, (((fr_.set 0 (.ref tp)).set 1 (.int 0)).set 7 (.ref ds)))), (tp, .inl (cyI, 1600, .inl ftp)), (ds, .inr (2, fd_)), (ro, .inl (cyI, 30, .inl fro)), (wd, .inl (cyI, 30, .inl fwd)), (wo, .inl (cyI, 4, .inl fwo))] H := hP
  have hD : va_D A [(rd, .inr (7, (((fr_.set 0 (.ref tp)).set 1 (.int 0)).set 7 (.ref ds)))), (tp, .inl (cyI, 1600, .inl ftp)), (ds, .inr (2, fd_)), (ro, .inl (cyI, 30, .inl fro)), (wd, .inl (cyI, 30, .inl fwd)), (wo, .inl (cyI, 4, .inl fwo))] := hD
  refine lv_aload_n hx hb dX7_begin_20 rfl (lv_at hl 0 rfl) ?_
  refine lv_iconst (v := 0) hx hb dX7_begin_21 (by decide) ?_
  refine pf (v := .int 0) hC hK hP hD hS iX7 tyX7_ok nmX7 0 rfl rfl 2 (by decide) mw_fieldLink_RX7_42_MirrorDrill_Reader_at_I rfl rfl rfl (ln_lt (ln_set (ln_set (ln_set hl_fr_))) (by decide)) dX7_begin_22 (fun H locs hP hD hS => ?_)
  have hP : va_P D classes [(rd, .inr (7, ((((fr_.set 0 (.ref tp)).set 1 (.int 0)).set 7 (.ref ds)).set 2 (.int 0)))), (tp, .inl (cyI, 1600, .inl ftp)), (ds, .inr (2, fd_)), (ro, .inl (cyI, 30, .inl fro)), (wd, .inl (cyI, 30, .inl fwd)), (wo, .inl (cyI, 4, .inl fwo))] H := hP
  have hD : va_D A [(rd, .inr (7, ((((fr_.set 0 (.ref tp)).set 1 (.int 0)).set 7 (.ref ds)).set 2 (.int 0)))), (tp, .inl (cyI, 1600, .inl ftp)), (ds, .inr (2, fd_)), (ro, .inl (cyI, 30, .inl fro)), (wd, .inl (cyI, 30, .inl fwd)), (wo, .inl (cyI, 4, .inl fwo))] := hD
  refine lv_aload_n hx hb dX7_begin_25 rfl (lv_at hl 0 rfl) ?_
  refine lv_iconst (v := 0) hx hb dX7_begin_26 (by decide) ?_
  refine pf (v := .int 0) hC hK hP hD hS iX7 tyX7_ok nmX7 0 rfl rfl 8 (by decide) mw_fieldLink_RX7_45_MirrorDrill_Reader_toldLines_I rfl rfl rfl (ln_lt (ln_set (ln_set (ln_set (ln_set hl_fr_)))) (by decide)) dX7_begin_27 (fun H locs hP hD hS => ?_)
  have hP : va_P D classes [(rd, .inr (7, (((((fr_.set 0 (.ref tp)).set 1 (.int 0)).set 7 (.ref ds)).set 2 (.int 0)).set 8 (.int 0)))), (tp, .inl (cyI, 1600, .inl ftp)), (ds, .inr (2, fd_)), (ro, .inl (cyI, 30, .inl fro)), (wd, .inl (cyI, 30, .inl fwd)), (wo, .inl (cyI, 4, .inl fwo))] H := hP
  have hD : va_D A [(rd, .inr (7, (((((fr_.set 0 (.ref tp)).set 1 (.int 0)).set 7 (.ref ds)).set 2 (.int 0)).set 8 (.int 0)))), (tp, .inl (cyI, 1600, .inl ftp)), (ds, .inr (2, fd_)), (ro, .inl (cyI, 30, .inl fro)), (wd, .inl (cyI, 30, .inl fwd)), (wo, .inl (cyI, 4, .inl fwo))] := hD
  refine lv_aload_n hx hb dX7_begin_30 rfl (lv_at hl 0 rfl) ?_
  refine lv_iconst (v := 0) hx hb dX7_begin_31 (by decide) ?_
  refine pf (v := .int 0) hC hK hP hD hS iX7 tyX7_ok nmX7 0 rfl rfl 9 (by decide) mw_fieldLink_RX7_48_MirrorDrill_Reader_toldMen_I rfl rfl rfl (ln_lt (ln_set (ln_set (ln_set (ln_set (ln_set hl_fr_))))) (by decide)) dX7_begin_32 (fun H locs hP hD hS => ?_)
  have hP : va_P D classes [(rd, .inr (7, ((((((fr_.set 0 (.ref tp)).set 1 (.int 0)).set 7 (.ref ds)).set 2 (.int 0)).set 8 (.int 0)).set 9 (.int 0)))), (tp, .inl (cyI, 1600, .inl ftp)), (ds, .inr (2, fd_)), (ro, .inl (cyI, 30, .inl fro)), (wd, .inl (cyI, 30, .inl fwd)), (wo, .inl (cyI, 4, .inl fwo))] H := hP
  have hD : va_D A [(rd, .inr (7, ((((((fr_.set 0 (.ref tp)).set 1 (.int 0)).set 7 (.ref ds)).set 2 (.int 0)).set 8 (.int 0)).set 9 (.int 0)))), (tp, .inl (cyI, 1600, .inl ftp)), (ds, .inr (2, fd_)), (ro, .inl (cyI, 30, .inl fro)), (wd, .inl (cyI, 30, .inl fwd)), (wo, .inl (cyI, 4, .inl fwo))] := hD
  refine lv_aload_n hx hb dX7_begin_35 rfl (lv_at hl 0 rfl) ?_
  refine lv_iconst (v := 0) hx hb dX7_begin_36 (by decide) ?_
  refine pf (v := .int 0) hC hK hP hD hS iX7 tyX7_ok nmX7 0 rfl rfl 14 (by decide) mw_fieldLink_RX7_22_MirrorDrill_Reader_fault_I rfl rfl rfl (ln_lt (ln_set (ln_set (ln_set (ln_set (ln_set (ln_set hl_fr_)))))) (by decide)) dX7_begin_37 (fun H locs hP hD hS => ?_)
  have hP : va_P D classes [(rd, .inr (7, (((((((fr_.set 0 (.ref tp)).set 1 (.int 0)).set 7 (.ref ds)).set 2 (.int 0)).set 8 (.int 0)).set 9 (.int 0)).set 14 (.int 0)))), (tp, .inl (cyI, 1600, .inl ftp)), (ds, .inr (2, fd_)), (ro, .inl (cyI, 30, .inl fro)), (wd, .inl (cyI, 30, .inl fwd)), (wo, .inl (cyI, 4, .inl fwo))] H := hP
  have hD : va_D A [(rd, .inr (7, (((((((fr_.set 0 (.ref tp)).set 1 (.int 0)).set 7 (.ref ds)).set 2 (.int 0)).set 8 (.int 0)).set 9 (.int 0)).set 14 (.int 0)))), (tp, .inl (cyI, 1600, .inl ftp)), (ds, .inr (2, fd_)), (ro, .inl (cyI, 30, .inl fro)), (wd, .inl (cyI, 30, .inl fwd)), (wo, .inl (cyI, 4, .inl fwo))] := hD
  refine lv_aload_n hx hb dX7_begin_40 rfl (lv_at hl 0 rfl) ?_
  refine lv_iconst (v := (-1)) hx hb dX7_begin_41 (by decide) ?_
  refine pf (v := .int (-1)) hC hK hP hD hS iX7 tyX7_ok nmX7 0 rfl rfl 15 (by decide) mw_fieldLink_RX7_26_MirrorDrill_Reader_faultPlace_I rfl rfl rfl (ln_lt (ln_set (ln_set (ln_set (ln_set (ln_set (ln_set (ln_set hl_fr_))))))) (by decide)) dX7_begin_42 (fun H locs hP hD hS => ?_)
  have hP : va_P D classes [(rd, .inr (7, ((((((((fr_.set 0 (.ref tp)).set 1 (.int 0)).set 7 (.ref ds)).set 2 (.int 0)).set 8 (.int 0)).set 9 (.int 0)).set 14 (.int 0)).set 15 (.int (-1))))), (tp, .inl (cyI, 1600, .inl ftp)), (ds, .inr (2, fd_)), (ro, .inl (cyI, 30, .inl fro)), (wd, .inl (cyI, 30, .inl fwd)), (wo, .inl (cyI, 4, .inl fwo))] H := hP
  have hD : va_D A [(rd, .inr (7, ((((((((fr_.set 0 (.ref tp)).set 1 (.int 0)).set 7 (.ref ds)).set 2 (.int 0)).set 8 (.int 0)).set 9 (.int 0)).set 14 (.int 0)).set 15 (.int (-1))))), (tp, .inl (cyI, 1600, .inl ftp)), (ds, .inr (2, fd_)), (ro, .inl (cyI, 30, .inl fro)), (wd, .inl (cyI, 30, .inl fwd)), (wo, .inl (cyI, 4, .inl fwo))] := hD
  refine lv_aload_n hx hb dX7_begin_45 rfl (lv_at hl 0 rfl) ?_
  refine gf hC hK hP iX7 0 rfl rfl 7 (by decide) mw_fieldLink_RX7_38_MirrorDrill_Reader_target_LMirrorDrill_Drill (gs_ne (by decide) (gs_ne (by decide) (gs_ne (by decide) (gs_ne (by decide) (gs_ne (by decide) (gs_eq (ln_lt (ln_set (ln_set hl_fr_)) (by decide)))))))) dX7_begin_46 ?_
  refine aftV (wr := [(rd, .inr (7, ((((((((fr_.set 0 (.ref tp)).set 1 (.int 0)).set 7 (.ref ds)).set 2 (.int 0)).set 8 (.int 0)).set 9 (.int 0)).set 14 (.int 0)).set 15 (.int (-1))))), (tp, .inl (cyI, 1600, .inl ftp))]) (runV hC hK hP hD hl.1 (k_X2_clear l D cyB cyI cyJ cyZ H.size ds fd_ ro wd wo fro fwd fwo hl_fd_ h_fd__9 h_fd__10 h_fd__11) cV_X2_clear mw_methodLink_RX7_51_yX2_clear [2, 3, 4, 5] rfl rfl 2 rfl rfl rfl rfl rfl (Nat.le_of_ble_eq_true rfl) ⟨by decide, by decide⟩ ⟨by decide, by decide⟩ dX7_begin_49) hP hD hS hA [2, 3, 4, 5] [0, 1] rfl rfl rfl (by decide) (fun u_1 H locs hw_1 hP hD hS => ?_)
  obtain ⟨gro_1, gwd_1, gwo_1⟩ := u_1
  try dsimp only at hw_1
  have hP : va_P D classes [(rd, .inr (7, ((((((((fr_.set 0 (.ref tp)).set 1 (.int 0)).set 7 (.ref ds)).set 2 (.int 0)).set 8 (.int 0)).set 9 (.int 0)).set 14 (.int 0)).set 15 (.int (-1))))), (tp, .inl (cyI, 1600, .inl ftp)), (ds, .inr (2, (((((((((fd_.set 0 (.int 2)).set 1 (.int 0)).set 2 (.int 0)).set 3 (.int 0)).set 4 (.int 0)).set 5 (.int 0)).set 6 (.int 0)).set 7 (.int 0)).set 8 (.long 0)))), (ro, .inl (cyI, 30, .inl gro_1)), (wd, .inl (cyI, 30, .inl gwd_1)), (wo, .inl (cyI, 4, .inl gwo_1))] H := hP
  have hD : va_D A [(rd, .inr (7, ((((((((fr_.set 0 (.ref tp)).set 1 (.int 0)).set 7 (.ref ds)).set 2 (.int 0)).set 8 (.int 0)).set 9 (.int 0)).set 14 (.int 0)).set 15 (.int (-1))))), (tp, .inl (cyI, 1600, .inl ftp)), (ds, .inr (2, (((((((((fd_.set 0 (.int 2)).set 1 (.int 0)).set 2 (.int 0)).set 3 (.int 0)).set 4 (.int 0)).set 5 (.int 0)).set 6 (.int 0)).set 7 (.int 0)).set 8 (.long 0)))), (ro, .inl (cyI, 30, .inl gro_1)), (wd, .inl (cyI, 30, .inl gwd_1)), (wo, .inl (cyI, 4, .inl gwo_1))] := hD
  refine W.widen (k := 0) (n := 0) (by decide) (by decide) ?_
  refine lv_aload_n hx hb dX7_begin_52 rfl (lv_at hl 0 rfl) ?_
  refine aftV (wr := [(tp, .inl (cyI, 1600, .inl ftp)), (ds, .inr (2, (((((((((fd_.set 0 (.int 2)).set 1 (.int 0)).set 2 (.int 0)).set 3 (.int 0)).set 4 (.int 0)).set 5 (.int 0)).set 6 (.int 0)).set 7 (.int 0)).set 8 (.long 0)))), (ro, .inl (cyI, 30, .inl gro_1)), (wd, .inl (cyI, 30, .inl gwd_1)), (wo, .inl (cyI, 4, .inl gwo_1))]) (runV hC hK hP hD hl.1 (k_X7_advance l D cyB cyI cyJ cyZ H.size rd ((((((((fr_.set 0 (.ref tp)).set 1 (.int 0)).set 7 (.ref ds)).set 2 (.int 0)).set 8 (.int 0)).set 9 (.int 0)).set 14 (.int 0)).set 15 (.int (-1))) (ln_set (ln_set (ln_set (ln_set (ln_set (ln_set (ln_set (ln_set hl_fr_)))))))) (gs_ne (by decide) (gs_ne (by decide) (gs_ne (by decide) (gs_ne (by decide) (gs_ne (by decide) (gs_ne (by decide) (gs_eq (ln_lt (ln_set hl_fr_) (by decide))))))))) (gs_ne (by decide) (gs_ne (by decide) (gs_ne (by decide) (gs_ne (by decide) (gs_eq (ln_lt (ln_set (ln_set (ln_set hl_fr_))) (by decide)))))))) cV_X7_advance mw_methodLink_RX7_56_yX7_advance [0] rfl rfl 0 rfl rfl rfl rfl rfl (Nat.le_of_ble_eq_true rfl) ⟨by decide, by decide⟩ ⟨by decide, by decide⟩ dX7_begin_53) hP hD hS hA [0] [1, 2, 3, 4, 5] rfl rfl rfl (by decide) (fun u_2 H locs hw_2 hP hD hS => ?_)
  have hP : va_P D classes [(tp, .inl (cyI, 1600, .inl ftp)), (ds, .inr (2, (((((((((fd_.set 0 (.int 2)).set 1 (.int 0)).set 2 (.int 0)).set 3 (.int 0)).set 4 (.int 0)).set 5 (.int 0)).set 6 (.int 0)).set 7 (.int 0)).set 8 (.long 0)))), (ro, .inl (cyI, 30, .inl gro_1)), (wd, .inl (cyI, 30, .inl gwd_1)), (wo, .inl (cyI, 4, .inl gwo_1)), (rd, .inr (7, ((((((((((fr_.set 0 (.ref tp)).set 1 (.int 0)).set 7 (.ref ds)).set 2 (.int 0)).set 8 (.int 0)).set 9 (.int 0)).set 14 (.int 0)).set 15 (.int (-1))).set 4 (.int 0)).set 3 (.int 0))))] H := hP
  have hD : va_D A [(tp, .inl (cyI, 1600, .inl ftp)), (ds, .inr (2, (((((((((fd_.set 0 (.int 2)).set 1 (.int 0)).set 2 (.int 0)).set 3 (.int 0)).set 4 (.int 0)).set 5 (.int 0)).set 6 (.int 0)).set 7 (.int 0)).set 8 (.long 0)))), (ro, .inl (cyI, 30, .inl gro_1)), (wd, .inl (cyI, 30, .inl gwd_1)), (wo, .inl (cyI, 4, .inl gwo_1)), (rd, .inr (7, ((((((((((fr_.set 0 (.ref tp)).set 1 (.int 0)).set 7 (.ref ds)).set 2 (.int 0)).set 8 (.int 0)).set 9 (.int 0)).set 14 (.int 0)).set 15 (.int (-1))).set 4 (.int 0)).set 3 (.int 0))))] := hD
  refine W.widen (k := 0) (n := 0) (by decide) (by decide) ?_
  exact retV hC hP hD hS (by decide) (by decide) () [5, 1] rfl rfl trivial dX7_begin_56
set_option maxHeartbeats 4000000 in
set_option maxRecDepth 100000 in
theorem k_X7_faultFound (l : Launch) (D : va_G) (cyB cyI cyJ cyZ : ClassId) (sz : Nat) (rd : Nat) (fr_ : List Value) (hl_fr_ : fr_.length = 16) (h_fr__14 : fr_[14]? = some (.int 0)) : KI l yX7_faultFound cX7_faultFound 1 .int 0 0 0 D (TYS cyB cyI cyJ cyZ) [(rd, .inr (7, fr_))] sz [.ref rd] (fun (r : Int32) (u : Unit) => r = 0) (fun (u : Unit) => ([(rd, .inr (7, fr_))] : va_W)) := by
  refine entI (by decide) (Nat.le_of_ble_eq_true rfl) ?_
  intro p e s m below meth c ls A hC hl hP hK hD hA
  obtain ⟨hx, hb, hr, hml, hown, hts, hlk, hnm⟩ := id hC
  have hS : va_S A s.heap s.heap [] := va_S.rf
  have hl : lv_has ls 1 [(0, .ref rd)] := hl
  generalize hHe : s.heap = H at hP ⊢
  rw [hHe] at hS
  have hS : va_S A s.heap H [] := by rw [hHe]; exact hS
  refine lv_aload_n hx hb dX7_faultFound_0 rfl (lv_at hl 0 rfl) ?_
  refine gf hC hK hP iX7 0 rfl rfl 14 (by decide) mw_fieldLink_RX7_22_MirrorDrill_Reader_fault_I h_fr__14 dX7_faultFound_1 ?_
  exact retI hC hP hD hS (by decide) (by decide) () [0] rfl rfl rfl dX7_faultFound_4
set_option maxHeartbeats 4000000 in
set_option maxRecDepth 100000 in
theorem k_X7_placeOfFault (l : Launch) (D : va_G) (cyB cyI cyJ cyZ : ClassId) (sz : Nat) (rd : Nat) (fr_ : List Value) (hl_fr_ : fr_.length = 16) (h_fr__15 : fr_[15]? = some (.int (-1))) : KI l yX7_placeOfFault cX7_placeOfFault 1 .int 0 0 0 D (TYS cyB cyI cyJ cyZ) [(rd, .inr (7, fr_))] sz [.ref rd] (fun (r : Int32) (u : Unit) => r = (-1)) (fun (u : Unit) => ([(rd, .inr (7, fr_))] : va_W)) := by
  refine entI (by decide) (Nat.le_of_ble_eq_true rfl) ?_
  intro p e s m below meth c ls A hC hl hP hK hD hA
  obtain ⟨hx, hb, hr, hml, hown, hts, hlk, hnm⟩ := id hC
  have hS : va_S A s.heap s.heap [] := va_S.rf
  have hl : lv_has ls 1 [(0, .ref rd)] := hl
  generalize hHe : s.heap = H at hP ⊢
  rw [hHe] at hS
  have hS : va_S A s.heap H [] := by rw [hHe]; exact hS
  refine lv_aload_n hx hb dX7_placeOfFault_0 rfl (lv_at hl 0 rfl) ?_
  refine gf hC hK hP iX7 0 rfl rfl 15 (by decide) mw_fieldLink_RX7_26_MirrorDrill_Reader_faultPlace_I h_fr__15 dX7_placeOfFault_1 ?_
  exact retI hC hP hD hS (by decide) (by decide) () [0] rfl rfl rfl dX7_placeOfFault_4
set_option maxHeartbeats 4000000 in
set_option maxRecDepth 100000 in
theorem k_X2_settle (l : Launch) (D : va_G) (cyB cyI cyJ cyZ : ClassId) (sz : Nat) (ds : Nat) (fd_ : List Value) (hl_fd_ : fd_.length = 15) (h_fd__1 : fd_[1]? = some (.int 0)) : KV l yX2_settle cX2_settle 4 0 0 0 D (TYS cyB cyI cyJ cyZ) [(ds, .inr (2, fd_))] sz [.ref ds] (fun (u : Unit) => True) (fun (u : Unit) => ([(ds, .inr (2, fd_))] : va_W)) := by
  refine entV (by decide) (Nat.le_of_ble_eq_true rfl) ?_
  intro p e s m below meth c ls A hC hl hP hK hD hA
  obtain ⟨hx, hb, hr, hml, hown, hts, hlk, hnm⟩ := id hC
  have hS : va_S A s.heap s.heap [] := va_S.rf
  have hl : lv_has ls 4 [(0, .ref ds)] := hl
  generalize hHe : s.heap = H at hP ⊢
  rw [hHe] at hS
  have hS : va_S A s.heap H [] := by rw [hHe]; exact hS
  refine lv_aload_n hx hb dX2_settle_0 rfl (lv_at hl 0 rfl) ?_
  refine gf hC hK hP iX2 0 rfl rfl 1 (by decide) mw_fieldLink_RX2_15_MirrorDrill_Drill_men_I h_fd__1 dX2_settle_1 ?_
  refine lv_if_le (tgt := 33) hx hb dX2_settle_4 (by decide) (fun c_1 => ?_) (fun c_1 => absurd (by decide) c_1)
  refine lv_iconst (v := 0) hx hb dX2_settle_33 (by decide) ?_
  refine lv_istore_n (lv' := [(1, .int 0), (0, .ref ds)]) hx hb dX2_settle_34 rfl hl (by decide) rfl (fun ls hl => ?_)
  refine lv_iload_n hx hb dX2_settle_35 rfl (lv_at hl 0 rfl) ?_
  refine lv_aload_n hx hb dX2_settle_36 rfl (lv_at hl 1 rfl) ?_
  refine gf hC hK hP iX2 0 rfl rfl 1 (by decide) mw_fieldLink_RX2_15_MirrorDrill_Drill_men_I h_fd__1 dX2_settle_37 ?_
  refine lv_icmp_ge (tgt := 91) hx hb dX2_settle_40 (by decide) (fun c_2 => ?_) (fun c_2 => absurd (by decide) c_2)
  refine lv_iconst (v := 0) hx hb dX2_settle_91 (by decide) ?_
  refine lv_istore_n (lv' := [(1, .int 0), (0, .ref ds)]) hx hb dX2_settle_92 rfl hl (by decide) rfl (fun ls hl => ?_)
  refine lv_iload_n hx hb dX2_settle_93 rfl (lv_at hl 0 rfl) ?_
  refine lv_aload_n hx hb dX2_settle_94 rfl (lv_at hl 1 rfl) ?_
  refine gf hC hK hP iX2 0 rfl rfl 1 (by decide) mw_fieldLink_RX2_15_MirrorDrill_Drill_men_I h_fd__1 dX2_settle_95 ?_
  refine lv_icmp_ge (tgt := 175) hx hb dX2_settle_98 (by decide) (fun c_3 => ?_) (fun c_3 => absurd (by decide) c_3)
  exact retV hC hP hD hS (by decide) (by decide) () [0] rfl rfl trivial dX2_settle_175
set_option maxHeartbeats 4000000 in
set_option maxRecDepth 100000 in
theorem k_X3_begin (l : Launch) (D : va_G) (cyB cyI cyJ cyZ : ClassId) (sz : Nat) (ea : Nat) (fe_ : List Value) (er : Nat) (eb : Nat) (fer : Nat → Int64) (feb : Nat → Int32) (hl_fe_ : fe_.length = 4) (h_fe__0 : fe_[0]? = some (.ref er)) (h_fe__1 : fe_[1]? = some (.ref eb)) : KV l yX3_begin cX3_begin 4 0 0 0 D (TYS cyB cyI cyJ cyZ) [(ea, .inr (3, fe_)), (er, .inl (cyJ, 41, .inr (.inl fer))), (eb, .inl (cyI, 41, .inl feb))] sz [.ref ea, .long 0, .int 0] (fun (u : Unit) => True) (fun (u : Unit) => ([] : va_W)) := by
  refine entV (by decide) (Nat.le_of_ble_eq_true rfl) ?_
  intro p e s m below meth c ls A hC hl hP hK hD hA
  obtain ⟨hx, hb, hr, hml, hown, hts, hlk, hnm⟩ := id hC
  have hS : va_S A s.heap s.heap [] := va_S.rf
  have hl : lv_has ls 4 [(0, .ref ea), (1, .long 0), (3, .int 0)] := hl
  generalize hHe : s.heap = H at hP ⊢
  rw [hHe] at hS
  have hS : va_S A s.heap H [] := by rw [hHe]; exact hS
  refine lv_aload_n hx hb dX3_begin_0 rfl (lv_at hl 0 rfl) ?_
  refine lv_iconst (v := 0) hx hb dX3_begin_1 (by decide) ?_
  refine pf (v := .int 0) hC hK hP hD hS iX3 tyX3_ok nmX3 0 rfl rfl 2 (by decide) mw_fieldLink_RX3_19_MirrorDrill_Earnest_now_I rfl rfl rfl (ln_lt hl_fe_ (by decide)) dX3_begin_2 (fun H locs hP hD hS => ?_)
  have hP : va_P D classes [(ea, .inr (3, (fe_.set 2 (.int 0)))), (er, .inl (cyJ, 41, .inr (.inl fer))), (eb, .inl (cyI, 41, .inl feb))] H := hP
  have hD : va_D A [(ea, .inr (3, (fe_.set 2 (.int 0)))), (er, .inl (cyJ, 41, .inr (.inl fer))), (eb, .inl (cyI, 41, .inl feb))] := hD
  refine lv_aload_n hx hb dX3_begin_5 rfl (lv_at hl 0 rfl) ?_
  refine lv_iconst (v := 0) hx hb dX3_begin_6 (by decide) ?_
  refine pf (v := .int 0) hC hK hP hD hS iX3 tyX3_ok nmX3 0 rfl rfl 3 (by decide) mw_fieldLink_RX3_23_MirrorDrill_Earnest_last_I rfl rfl rfl (ln_lt (ln_set hl_fe_) (by decide)) dX3_begin_7 (fun H locs hP hD hS => ?_)
  have hP : va_P D classes [(ea, .inr (3, ((fe_.set 2 (.int 0)).set 3 (.int 0)))), (er, .inl (cyJ, 41, .inr (.inl fer))), (eb, .inl (cyI, 41, .inl feb))] H := hP
  have hD : va_D A [(ea, .inr (3, ((fe_.set 2 (.int 0)).set 3 (.int 0)))), (er, .inl (cyJ, 41, .inr (.inl fer))), (eb, .inl (cyI, 41, .inl feb))] := hD
  refine lv_aload_n hx hb dX3_begin_10 rfl (lv_at hl 0 rfl) ?_
  refine gf hC hK hP iX3 0 rfl rfl 0 (by decide) mw_fieldLink_RX3_9_MirrorDrill_Earnest_rows_J (gs_ne (by decide) (gs_ne (by decide) h_fe__0)) dX3_begin_11 ?_
  refine lv_iconst (v := 0) hx hb dX3_begin_14 (by decide) ?_
  refine lv_lload_n hx hb dX3_begin_15 rfl (lv_at hl 1 rfl) ?_
  refine va_last hx hb hK hP hD hS 1 2 rfl rfl (vin (by decide)) dX3_begin_16 (fun H locs hP hD hS => ?_)
  obtain ⟨f_1, ef_1⟩ : ∃ g : Nat → Int64, g = vp_updL fer ((0 : Int32).toNatClampNeg) 0 := ⟨_, rfl⟩
  rw [← ef_1] at hP hD
  have hP : va_P D classes [(ea, .inr (3, ((fe_.set 2 (.int 0)).set 3 (.int 0)))), (er, .inl (cyJ, 41, .inr (.inl f_1))), (eb, .inl (cyI, 41, .inl feb))] H := hP
  have hD : va_D A [(ea, .inr (3, ((fe_.set 2 (.int 0)).set 3 (.int 0)))), (er, .inl (cyJ, 41, .inr (.inl f_1))), (eb, .inl (cyI, 41, .inl feb))] := hD
  refine lv_aload_n hx hb dX3_begin_17 rfl (lv_at hl 0 rfl) ?_
  refine gf hC hK hP iX3 0 rfl rfl 1 (by decide) mw_fieldLink_RX3_15_MirrorDrill_Earnest_beatsThen_I (gs_ne (by decide) (gs_ne (by decide) h_fe__1)) dX3_begin_18 ?_
  refine lv_iconst (v := 0) hx hb dX3_begin_21 (by decide) ?_
  refine lv_iload_n hx hb dX3_begin_22 rfl (lv_at hl 2 rfl) ?_
  refine va_iast hx hb hK hP hD hS 2 1 rfl rfl (vin (by decide)) dX3_begin_23 (fun H locs hP hD hS => ?_)
  obtain ⟨f_2, ef_2⟩ : ∃ g : Nat → Int32, g = upd feb ((0 : Int32).toNatClampNeg) 0 := ⟨_, rfl⟩
  rw [← ef_2] at hP hD
  have hP : va_P D classes [(ea, .inr (3, ((fe_.set 2 (.int 0)).set 3 (.int 0)))), (er, .inl (cyJ, 41, .inr (.inl f_1))), (eb, .inl (cyI, 41, .inl f_2))] H := hP
  have hD : va_D A [(ea, .inr (3, ((fe_.set 2 (.int 0)).set 3 (.int 0)))), (er, .inl (cyJ, 41, .inr (.inl f_1))), (eb, .inl (cyI, 41, .inl f_2))] := hD
  exact retV hC hP hD hS (by decide) (by decide) () [] rfl rfl trivial dX3_begin_24
set_option maxHeartbeats 4000000 in
set_option maxRecDepth 100000 in
theorem k_X1_forget (l : Launch) (D : va_G) (cyB cyI cyJ cyZ : ClassId) (sz : Nat) (cs : Nat) (fc_ : List Value) (hl_fc_ : fc_.length = 5) : KV l yX1_forget cX1_forget 1 0 0 0 D (TYS cyB cyI cyJ cyZ) [(cs, .inr (1, fc_))] sz [.ref cs] (fun (u : Unit) => True) (fun (u : Unit) => ([] : va_W)) := by
  refine entV (by decide) (Nat.le_of_ble_eq_true rfl) ?_
  intro p e s m below meth c ls A hC hl hP hK hD hA
  obtain ⟨hx, hb, hr, hml, hown, hts, hlk, hnm⟩ := id hC
  have hS : va_S A s.heap s.heap [] := va_S.rf
  have hl : lv_has ls 1 [(0, .ref cs)] := hl
  generalize hHe : s.heap = H at hP ⊢
  rw [hHe] at hS
  have hS : va_S A s.heap H [] := by rw [hHe]; exact hS
  refine lv_aload_n hx hb dX1_forget_0 rfl (lv_at hl 0 rfl) ?_
  refine lv_iconst (v := 0) hx hb dX1_forget_1 (by decide) ?_
  refine pf (v := .int 0) hC hK hP hD hS iX1 tyX1_ok nmX1 0 rfl rfl 1 (by decide) mw_fieldLink_RX1_15_MirrorDrill_Course_known_Z rfl rfl rfl (ln_lt hl_fc_ (by decide)) dX1_forget_2 (fun H locs hP hD hS => ?_)
  have hP : va_P D classes [(cs, .inr (1, (fc_.set 1 (.int 0))))] H := hP
  have hD : va_D A [(cs, .inr (1, (fc_.set 1 (.int 0))))] := hD
  exact retV hC hP hD hS (by decide) (by decide) () [] rfl rfl trivial dX1_forget_5
set_option maxHeartbeats 4000000 in
set_option maxRecDepth 100000 in
theorem k_X8_forget (l : Launch) (D : va_G) (cyB cyI cyJ cyZ : ClassId) (sz : Nat) (wt : Nat) (fw_ : List Value) (hl_fw_ : fw_.length = 17) : KV l yX8_forget cX8_forget 1 0 0 0 D (TYS cyB cyI cyJ cyZ) [(wt, .inr (8, fw_))] sz [.ref wt] (fun (u : Unit) => True) (fun (u : Unit) => ([] : va_W)) := by
  refine entV (by decide) (Nat.le_of_ble_eq_true rfl) ?_
  intro p e s m below meth c ls A hC hl hP hK hD hA
  obtain ⟨hx, hb, hr, hml, hown, hts, hlk, hnm⟩ := id hC
  have hS : va_S A s.heap s.heap [] := va_S.rf
  have hl : lv_has ls 1 [(0, .ref wt)] := hl
  generalize hHe : s.heap = H at hP ⊢
  rw [hHe] at hS
  have hS : va_S A s.heap H [] := by rw [hHe]; exact hS
  refine lv_aload_n hx hb dX8_forget_0 rfl (lv_at hl 0 rfl) ?_
  refine lv_iconst (v := 0) hx hb dX8_forget_1 (by decide) ?_
  refine pf (v := .int 0) hC hK hP hD hS iX8 tyX8_ok nmX8 0 rfl rfl 5 (by decide) mw_fieldLink_RX8_27_MirrorDrill_Witness_sights_I rfl rfl rfl (ln_lt hl_fw_ (by decide)) dX8_forget_2 (fun H locs hP hD hS => ?_)
  have hP : va_P D classes [(wt, .inr (8, (fw_.set 5 (.int 0))))] H := hP
  have hD : va_D A [(wt, .inr (8, (fw_.set 5 (.int 0))))] := hD
  refine lv_aload_n hx hb dX8_forget_5 rfl (lv_at hl 0 rfl) ?_
  refine lv_iconst (v := 0) hx hb dX8_forget_6 (by decide) ?_
  refine pf (v := .int 0) hC hK hP hD hS iX8 tyX8_ok nmX8 0 rfl rfl 6 (by decide) mw_fieldLink_RX8_31_MirrorDrill_Witness_unsureMen_I rfl rfl rfl (ln_lt (ln_set hl_fw_) (by decide)) dX8_forget_7 (fun H locs hP hD hS => ?_)
  have hP : va_P D classes [(wt, .inr (8, ((fw_.set 5 (.int 0)).set 6 (.int 0))))] H := hP
  have hD : va_D A [(wt, .inr (8, ((fw_.set 5 (.int 0)).set 6 (.int 0))))] := hD
  refine lv_aload_n hx hb dX8_forget_10 rfl (lv_at hl 0 rfl) ?_
  refine lv_iconst (v := 0) hx hb dX8_forget_11 (by decide) ?_
  refine pf (v := .int 0) hC hK hP hD hS iX8 tyX8_ok nmX8 0 rfl rfl 13 (by decide) mw_fieldLink_RX8_44_MirrorDrill_Witness_known_Z rfl rfl rfl (ln_lt (ln_set (ln_set hl_fw_)) (by decide)) dX8_forget_12 (fun H locs hP hD hS => ?_)
  have hP : va_P D classes [(wt, .inr (8, (((fw_.set 5 (.int 0)).set 6 (.int 0)).set 13 (.int 0))))] H := hP
  have hD : va_D A [(wt, .inr (8, (((fw_.set 5 (.int 0)).set 6 (.int 0)).set 13 (.int 0))))] := hD
  exact retV hC hP hD hS (by decide) (by decide) () [] rfl rfl trivial dX8_forget_15
set_option maxHeartbeats 4000000 in
set_option maxRecDepth 100000 in
theorem k_X9_drill (l : Launch) (D : va_G) (cyB cyI cyJ cyZ : ClassId) (sz : Nat) (h0 : Nat) (fs : List Value) (rd : Nat) (tp : Nat) (ds : Nat) (dd : Nat) (ea : Nat) (bb : Nat) (pl : Nat) (cs : Nat) (wt : Nat) (fr_ : List Value) (ftp : Nat → Int32) (fd_ : List Value) (ro : Nat) (wd : Nat) (wo : Nat) (fro : Nat → Int32) (fwd : Nat → Int32) (fwo : Nat → Int32) (fe_ : List Value) (er : Nat) (eb : Nat) (fer : Nat → Int64) (feb : Nat → Int32) (fbb : Nat → Int32) (fp_ : List Value) (fc_ : List Value) (fw_ : List Value) (hl_fs : fs.length = 17) (h_fs_2 : fs[2]? = some (.ref rd)) (h_fs_0 : fs[0]? = some (.ref tp)) (h_fs_4 : fs[4]? = some (.ref ds)) (h_fs_3 : fs[3]? = some (.ref dd)) (h_fs_7 : fs[7]? = some (.ref ea)) (h_fs_9 : fs[9]? = some (.ref bb)) (h_fs_10 : fs[10]? = some (.ref pl)) (h_fs_12 : fs[12]? = some (.ref cs)) (h_fs_16 : fs[16]? = some (.ref wt)) (h_fs_1 : fs[1]? = some (.int 0)) (hl_fr_ : fr_.length = 16) (hl_fd_ : fd_.length = 15) (h_fd__9 : fd_[9]? = some (.ref ro)) (h_fd__10 : fd_[10]? = some (.ref wd)) (h_fd__11 : fd_[11]? = some (.ref wo)) (hl_fe_ : fe_.length = 4) (h_fe__0 : fe_[0]? = some (.ref er)) (h_fe__1 : fe_[1]? = some (.ref eb)) (hl_fp_ : fp_.length = 2) (hl_fc_ : fc_.length = 5) (hl_fw_ : fw_.length = 17) : KI l yX9_drill cX9_drill 3 .int 3 0 0 D (TYS cyB cyI cyJ cyZ) [(h0, .inr (9, fs)), (rd, .inr (7, fr_)), (tp, .inl (cyI, 1600, .inl ftp)), (ds, .inr (2, fd_)), (ro, .inl (cyI, 30, .inl fro)), (wd, .inl (cyI, 30, .inl fwd)), (wo, .inl (cyI, 4, .inl fwo)), (ea, .inr (3, fe_)), (er, .inl (cyJ, 41, .inr (.inl fer))), (eb, .inl (cyI, 41, .inl feb)), (bb, .inl (cyI, 3, .inl fbb)), (pl, .inr (6, fp_)), (cs, .inr (1, fc_)), (wt, .inr (8, fw_))] sz [.ref h0] (fun (r : Int32) (u : Unit) => r = 0) (fun (u : Unit) => ([] : va_W)) := by
  refine entI (by decide) (Nat.le_of_ble_eq_true rfl) ?_
  intro p e s m below meth c ls A hC hl hP hK hD hA
  obtain ⟨hx, hb, hr, hml, hown, hts, hlk, hnm⟩ := id hC
  have hS : va_S A s.heap s.heap [] := va_S.rf
  have hl : lv_has ls 3 [(0, .ref h0)] := hl
  generalize hHe : s.heap = H at hP ⊢
  rw [hHe] at hS
  have hS : va_S A s.heap H [] := by rw [hHe]; exact hS
  refine lv_aload_n hx hb dX9_drill_0 rfl (lv_at hl 0 rfl) ?_
  refine gf hC hK hP iX9 0 rfl rfl 2 (by decide) mw_fieldLink_RX9_20_MirrorDrill_reader_LMirrorDrill_Reader h_fs_2 dX9_drill_1 ?_
  refine lv_aload_n hx hb dX9_drill_4 rfl (lv_at hl 0 rfl) ?_
  refine gf hC hK hP iX9 0 rfl rfl 0 (by decide) mw_fieldLink_RX9_9_MirrorDrill_tape_I h_fs_0 dX9_drill_5 ?_
  refine lv_aload_n hx hb dX9_drill_8 rfl (lv_at hl 0 rfl) ?_
  refine gf hC hK hP iX9 0 rfl rfl 1 (by decide) mw_fieldLink_RX9_13_MirrorDrill_taped_I h_fs_1 dX9_drill_9 ?_
  refine lv_aload_n hx hb dX9_drill_12 rfl (lv_at hl 0 rfl) ?_
  refine gf hC hK hP iX9 0 rfl rfl 4 (by decide) mw_fieldLink_RX9_31_MirrorDrill_spare_LMirrorDrill_Drill h_fs_4 dX9_drill_13 ?_
  refine aftV (wr := [(h0, .inr (9, fs)), (ea, .inr (3, fe_)), (er, .inl (cyJ, 41, .inr (.inl fer))), (eb, .inl (cyI, 41, .inl feb)), (bb, .inl (cyI, 3, .inl fbb)), (pl, .inr (6, fp_)), (cs, .inr (1, fc_)), (wt, .inr (8, fw_))]) (runV hC hK hP hD hl.1 (k_X7_begin l D cyB cyI cyJ cyZ H.size rd tp ds fr_ ftp fd_ ro wd wo fro fwd fwo hl_fr_ hl_fd_ h_fd__9 h_fd__10 h_fd__11) cV_X7_begin mw_methodLink_RX9_103_yX7_begin [1, 2, 3, 4, 5, 6] rfl rfl 1 rfl rfl rfl rfl rfl (Nat.le_of_ble_eq_true rfl) ⟨by decide, by decide⟩ ⟨by decide, by decide⟩ dX9_drill_16) hP hD hS hA [1, 2, 3, 4, 5, 6] [0, 7, 8, 9, 10, 11, 12, 13] rfl rfl rfl (by decide) (fun u_1 H locs hw_1 hP hD hS => ?_)
  have hP : va_P D classes [(h0, .inr (9, fs)), (ea, .inr (3, fe_)), (er, .inl (cyJ, 41, .inr (.inl fer))), (eb, .inl (cyI, 41, .inl feb)), (bb, .inl (cyI, 3, .inl fbb)), (pl, .inr (6, fp_)), (cs, .inr (1, fc_)), (wt, .inr (8, fw_)), (rd, .inr (7, ((((((((((fr_.set 0 (.ref tp)).set 1 (.int 0)).set 7 (.ref ds)).set 2 (.int 0)).set 8 (.int 0)).set 9 (.int 0)).set 14 (.int 0)).set 15 (.int (-1))).set 4 (.int 0)).set 3 (.int 0)))), (ds, .inr (2, (((((((((fd_.set 0 (.int 2)).set 1 (.int 0)).set 2 (.int 0)).set 3 (.int 0)).set 4 (.int 0)).set 5 (.int 0)).set 6 (.int 0)).set 7 (.int 0)).set 8 (.long 0))))] H := hP
  have hD : va_D A [(h0, .inr (9, fs)), (ea, .inr (3, fe_)), (er, .inl (cyJ, 41, .inr (.inl fer))), (eb, .inl (cyI, 41, .inl feb)), (bb, .inl (cyI, 3, .inl fbb)), (pl, .inr (6, fp_)), (cs, .inr (1, fc_)), (wt, .inr (8, fw_)), (rd, .inr (7, ((((((((((fr_.set 0 (.ref tp)).set 1 (.int 0)).set 7 (.ref ds)).set 2 (.int 0)).set 8 (.int 0)).set 9 (.int 0)).set 14 (.int 0)).set 15 (.int (-1))).set 4 (.int 0)).set 3 (.int 0)))), (ds, .inr (2, (((((((((fd_.set 0 (.int 2)).set 1 (.int 0)).set 2 (.int 0)).set 3 (.int 0)).set 4 (.int 0)).set 5 (.int 0)).set 6 (.int 0)).set 7 (.int 0)).set 8 (.long 0))))] := hD
  refine W.widen (k := 0) (n := 0) (by decide) (by decide) ?_
  refine lv_iconst (v := 1) hx hb dX9_drill_19 (by decide) ?_
  refine lv_istore_n (lv' := [(1, .int 1), (0, .ref h0)]) hx hb dX9_drill_20 rfl hl (by decide) rfl (fun ls hl => ?_)
  refine lv_iconst (v := 0) hx hb dX9_drill_21 (by decide) ?_
  refine lv_istore_n (lv' := [(2, .int 0), (1, .int 1), (0, .ref h0)]) hx hb dX9_drill_22 rfl hl (by decide) rfl (fun ls hl => ?_)
  refine lv_iload_n hx hb dX9_drill_23 rfl (lv_at hl 0 rfl) ?_
  refine lv_aload_n hx hb dX9_drill_24 rfl (lv_at hl 2 rfl) ?_
  refine gf hC hK hP iX9 0 rfl rfl 1 (by decide) mw_fieldLink_RX9_13_MirrorDrill_taped_I h_fs_1 dX9_drill_25 ?_
  refine lv_icmp_ge (tgt := 59) hx hb dX9_drill_28 (by decide) (fun c_2 => ?_) (fun c_2 => absurd (by decide) c_2)
  refine lv_aload_n hx hb dX9_drill_59 rfl (lv_at hl 2 rfl) ?_
  refine lv_aload_n hx hb dX9_drill_60 rfl (lv_at hl 2 rfl) ?_
  refine gf hC hK hP iX9 0 rfl rfl 2 (by decide) mw_fieldLink_RX9_20_MirrorDrill_reader_LMirrorDrill_Reader h_fs_2 dX9_drill_61 ?_
  refine aftI (wr := [(h0, .inr (9, fs)), (ea, .inr (3, fe_)), (er, .inl (cyJ, 41, .inr (.inl fer))), (eb, .inl (cyI, 41, .inl feb)), (bb, .inl (cyI, 3, .inl fbb)), (pl, .inr (6, fp_)), (cs, .inr (1, fc_)), (wt, .inr (8, fw_)), (ds, .inr (2, (((((((((fd_.set 0 (.int 2)).set 1 (.int 0)).set 2 (.int 0)).set 3 (.int 0)).set 4 (.int 0)).set 5 (.int 0)).set 6 (.int 0)).set 7 (.int 0)).set 8 (.long 0))))]) (runV hC hK hP hD hl.1 (k_X7_faultFound l D cyB cyI cyJ cyZ H.size rd ((((((((((fr_.set 0 (.ref tp)).set 1 (.int 0)).set 7 (.ref ds)).set 2 (.int 0)).set 8 (.int 0)).set 9 (.int 0)).set 14 (.int 0)).set 15 (.int (-1))).set 4 (.int 0)).set 3 (.int 0)) (ln_set (ln_set (ln_set (ln_set (ln_set (ln_set (ln_set (ln_set (ln_set (ln_set hl_fr_)))))))))) (gs_ne (by decide) (gs_ne (by decide) (gs_ne (by decide) (gs_eq (ln_lt (ln_set (ln_set (ln_set (ln_set (ln_set (ln_set hl_fr_)))))) (by decide))))))) cV_X7_faultFound mw_methodLink_RX9_114_yX7_faultFound [8] rfl rfl 8 rfl rfl rfl rfl rfl (Nat.le_of_ble_eq_true rfl) ⟨by decide, by decide⟩ ⟨by decide, by decide⟩ dX9_drill_64) hP hD hS hA [8] [0, 1, 2, 3, 4, 5, 6, 7, 9] rfl rfl rfl (by decide) (fun r_3 u_3 H locs hw_3 hP hD hS => ?_)
  have hr_3 := hw_3
  refine lv_cst (v := 0) hr_3 ?_
  have hP : va_P D classes [(h0, .inr (9, fs)), (ea, .inr (3, fe_)), (er, .inl (cyJ, 41, .inr (.inl fer))), (eb, .inl (cyI, 41, .inl feb)), (bb, .inl (cyI, 3, .inl fbb)), (pl, .inr (6, fp_)), (cs, .inr (1, fc_)), (wt, .inr (8, fw_)), (ds, .inr (2, (((((((((fd_.set 0 (.int 2)).set 1 (.int 0)).set 2 (.int 0)).set 3 (.int 0)).set 4 (.int 0)).set 5 (.int 0)).set 6 (.int 0)).set 7 (.int 0)).set 8 (.long 0)))), (rd, .inr (7, ((((((((((fr_.set 0 (.ref tp)).set 1 (.int 0)).set 7 (.ref ds)).set 2 (.int 0)).set 8 (.int 0)).set 9 (.int 0)).set 14 (.int 0)).set 15 (.int (-1))).set 4 (.int 0)).set 3 (.int 0))))] H := hP
  have hD : va_D A [(h0, .inr (9, fs)), (ea, .inr (3, fe_)), (er, .inl (cyJ, 41, .inr (.inl fer))), (eb, .inl (cyI, 41, .inl feb)), (bb, .inl (cyI, 3, .inl fbb)), (pl, .inr (6, fp_)), (cs, .inr (1, fc_)), (wt, .inr (8, fw_)), (ds, .inr (2, (((((((((fd_.set 0 (.int 2)).set 1 (.int 0)).set 2 (.int 0)).set 3 (.int 0)).set 4 (.int 0)).set 5 (.int 0)).set 6 (.int 0)).set 7 (.int 0)).set 8 (.long 0)))), (rd, .inr (7, ((((((((((fr_.set 0 (.ref tp)).set 1 (.int 0)).set 7 (.ref ds)).set 2 (.int 0)).set 8 (.int 0)).set 9 (.int 0)).set 14 (.int 0)).set 15 (.int (-1))).set 4 (.int 0)).set 3 (.int 0))))] := hD
  refine W.widen (k := 0) (n := 0) (by decide) (by decide) ?_
  refine pf (v := .int 0) hC hK hP hD hS iX9 tyX9_ok nmX9 0 rfl rfl 5 (by decide) mw_fieldLink_RX9_34_MirrorDrill_fault_I rfl rfl rfl (ln_lt hl_fs (by decide)) dX9_drill_67 (fun H locs hP hD hS => ?_)
  have hP : va_P D classes [(h0, .inr (9, (fs.set 5 (.int 0)))), (ea, .inr (3, fe_)), (er, .inl (cyJ, 41, .inr (.inl fer))), (eb, .inl (cyI, 41, .inl feb)), (bb, .inl (cyI, 3, .inl fbb)), (pl, .inr (6, fp_)), (cs, .inr (1, fc_)), (wt, .inr (8, fw_)), (ds, .inr (2, (((((((((fd_.set 0 (.int 2)).set 1 (.int 0)).set 2 (.int 0)).set 3 (.int 0)).set 4 (.int 0)).set 5 (.int 0)).set 6 (.int 0)).set 7 (.int 0)).set 8 (.long 0)))), (rd, .inr (7, ((((((((((fr_.set 0 (.ref tp)).set 1 (.int 0)).set 7 (.ref ds)).set 2 (.int 0)).set 8 (.int 0)).set 9 (.int 0)).set 14 (.int 0)).set 15 (.int (-1))).set 4 (.int 0)).set 3 (.int 0))))] H := hP
  have hD : va_D A [(h0, .inr (9, (fs.set 5 (.int 0)))), (ea, .inr (3, fe_)), (er, .inl (cyJ, 41, .inr (.inl fer))), (eb, .inl (cyI, 41, .inl feb)), (bb, .inl (cyI, 3, .inl fbb)), (pl, .inr (6, fp_)), (cs, .inr (1, fc_)), (wt, .inr (8, fw_)), (ds, .inr (2, (((((((((fd_.set 0 (.int 2)).set 1 (.int 0)).set 2 (.int 0)).set 3 (.int 0)).set 4 (.int 0)).set 5 (.int 0)).set 6 (.int 0)).set 7 (.int 0)).set 8 (.long 0)))), (rd, .inr (7, ((((((((((fr_.set 0 (.ref tp)).set 1 (.int 0)).set 7 (.ref ds)).set 2 (.int 0)).set 8 (.int 0)).set 9 (.int 0)).set 14 (.int 0)).set 15 (.int (-1))).set 4 (.int 0)).set 3 (.int 0))))] := hD
  refine lv_aload_n hx hb dX9_drill_70 rfl (lv_at hl 2 rfl) ?_
  refine lv_aload_n hx hb dX9_drill_71 rfl (lv_at hl 2 rfl) ?_
  refine gf hC hK hP iX9 0 rfl rfl 2 (by decide) mw_fieldLink_RX9_20_MirrorDrill_reader_LMirrorDrill_Reader (gs_ne (by decide) h_fs_2) dX9_drill_72 ?_
  refine aftI (wr := [(h0, .inr (9, (fs.set 5 (.int 0)))), (ea, .inr (3, fe_)), (er, .inl (cyJ, 41, .inr (.inl fer))), (eb, .inl (cyI, 41, .inl feb)), (bb, .inl (cyI, 3, .inl fbb)), (pl, .inr (6, fp_)), (cs, .inr (1, fc_)), (wt, .inr (8, fw_)), (ds, .inr (2, (((((((((fd_.set 0 (.int 2)).set 1 (.int 0)).set 2 (.int 0)).set 3 (.int 0)).set 4 (.int 0)).set 5 (.int 0)).set 6 (.int 0)).set 7 (.int 0)).set 8 (.long 0))))]) (runV hC hK hP hD hl.1 (k_X7_placeOfFault l D cyB cyI cyJ cyZ H.size rd ((((((((((fr_.set 0 (.ref tp)).set 1 (.int 0)).set 7 (.ref ds)).set 2 (.int 0)).set 8 (.int 0)).set 9 (.int 0)).set 14 (.int 0)).set 15 (.int (-1))).set 4 (.int 0)).set 3 (.int 0)) (ln_set (ln_set (ln_set (ln_set (ln_set (ln_set (ln_set (ln_set (ln_set (ln_set hl_fr_)))))))))) (gs_ne (by decide) (gs_ne (by decide) (gs_eq (ln_lt (ln_set (ln_set (ln_set (ln_set (ln_set (ln_set (ln_set hl_fr_))))))) (by decide)))))) cV_X7_placeOfFault mw_methodLink_RX9_118_yX7_placeOfFault [9] rfl rfl 9 rfl rfl rfl rfl rfl (Nat.le_of_ble_eq_true rfl) ⟨by decide, by decide⟩ ⟨by decide, by decide⟩ dX9_drill_75) hP hD hS hA [9] [0, 1, 2, 3, 4, 5, 6, 7, 8] rfl rfl rfl (by decide) (fun r_4 u_4 H locs hw_4 hP hD hS => ?_)
  have hr_4 := hw_4
  refine lv_cst (v := (-1)) hr_4 ?_
  have hP : va_P D classes [(h0, .inr (9, (fs.set 5 (.int 0)))), (ea, .inr (3, fe_)), (er, .inl (cyJ, 41, .inr (.inl fer))), (eb, .inl (cyI, 41, .inl feb)), (bb, .inl (cyI, 3, .inl fbb)), (pl, .inr (6, fp_)), (cs, .inr (1, fc_)), (wt, .inr (8, fw_)), (ds, .inr (2, (((((((((fd_.set 0 (.int 2)).set 1 (.int 0)).set 2 (.int 0)).set 3 (.int 0)).set 4 (.int 0)).set 5 (.int 0)).set 6 (.int 0)).set 7 (.int 0)).set 8 (.long 0)))), (rd, .inr (7, ((((((((((fr_.set 0 (.ref tp)).set 1 (.int 0)).set 7 (.ref ds)).set 2 (.int 0)).set 8 (.int 0)).set 9 (.int 0)).set 14 (.int 0)).set 15 (.int (-1))).set 4 (.int 0)).set 3 (.int 0))))] H := hP
  have hD : va_D A [(h0, .inr (9, (fs.set 5 (.int 0)))), (ea, .inr (3, fe_)), (er, .inl (cyJ, 41, .inr (.inl fer))), (eb, .inl (cyI, 41, .inl feb)), (bb, .inl (cyI, 3, .inl fbb)), (pl, .inr (6, fp_)), (cs, .inr (1, fc_)), (wt, .inr (8, fw_)), (ds, .inr (2, (((((((((fd_.set 0 (.int 2)).set 1 (.int 0)).set 2 (.int 0)).set 3 (.int 0)).set 4 (.int 0)).set 5 (.int 0)).set 6 (.int 0)).set 7 (.int 0)).set 8 (.long 0)))), (rd, .inr (7, ((((((((((fr_.set 0 (.ref tp)).set 1 (.int 0)).set 7 (.ref ds)).set 2 (.int 0)).set 8 (.int 0)).set 9 (.int 0)).set 14 (.int 0)).set 15 (.int (-1))).set 4 (.int 0)).set 3 (.int 0))))] := hD
  refine W.widen (k := 0) (n := 0) (by decide) (by decide) ?_
  refine pf (v := .int (-1)) hC hK hP hD hS iX9 tyX9_ok nmX9 0 rfl rfl 6 (by decide) mw_fieldLink_RX9_37_MirrorDrill_faultPlace_I rfl rfl rfl (ln_lt (ln_set hl_fs) (by decide)) dX9_drill_78 (fun H locs hP hD hS => ?_)
  have hP : va_P D classes [(h0, .inr (9, ((fs.set 5 (.int 0)).set 6 (.int (-1))))), (ea, .inr (3, fe_)), (er, .inl (cyJ, 41, .inr (.inl fer))), (eb, .inl (cyI, 41, .inl feb)), (bb, .inl (cyI, 3, .inl fbb)), (pl, .inr (6, fp_)), (cs, .inr (1, fc_)), (wt, .inr (8, fw_)), (ds, .inr (2, (((((((((fd_.set 0 (.int 2)).set 1 (.int 0)).set 2 (.int 0)).set 3 (.int 0)).set 4 (.int 0)).set 5 (.int 0)).set 6 (.int 0)).set 7 (.int 0)).set 8 (.long 0)))), (rd, .inr (7, ((((((((((fr_.set 0 (.ref tp)).set 1 (.int 0)).set 7 (.ref ds)).set 2 (.int 0)).set 8 (.int 0)).set 9 (.int 0)).set 14 (.int 0)).set 15 (.int (-1))).set 4 (.int 0)).set 3 (.int 0))))] H := hP
  have hD : va_D A [(h0, .inr (9, ((fs.set 5 (.int 0)).set 6 (.int (-1))))), (ea, .inr (3, fe_)), (er, .inl (cyJ, 41, .inr (.inl fer))), (eb, .inl (cyI, 41, .inl feb)), (bb, .inl (cyI, 3, .inl fbb)), (pl, .inr (6, fp_)), (cs, .inr (1, fc_)), (wt, .inr (8, fw_)), (ds, .inr (2, (((((((((fd_.set 0 (.int 2)).set 1 (.int 0)).set 2 (.int 0)).set 3 (.int 0)).set 4 (.int 0)).set 5 (.int 0)).set 6 (.int 0)).set 7 (.int 0)).set 8 (.long 0)))), (rd, .inr (7, ((((((((((fr_.set 0 (.ref tp)).set 1 (.int 0)).set 7 (.ref ds)).set 2 (.int 0)).set 8 (.int 0)).set 9 (.int 0)).set 14 (.int 0)).set 15 (.int (-1))).set 4 (.int 0)).set 3 (.int 0))))] := hD
  refine lv_iload_n hx hb dX9_drill_81 rfl (lv_at hl 1 rfl) ?_
  refine lv_if_ne (tgt := 87) hx hb dX9_drill_82 (by decide) (fun c_5 => ?_) (fun c_5 => absurd c_5 (by decide))
  refine lv_aload_n hx hb dX9_drill_87 rfl (lv_at hl 2 rfl) ?_
  refine gf hC hK hP iX9 0 rfl rfl 3 (by decide) mw_fieldLink_RX9_27_MirrorDrill_drill_LMirrorDrill_Drill (gs_ne (by decide) (gs_ne (by decide) h_fs_3)) dX9_drill_88 ?_
  refine lv_astore_n (lv' := [(2, .ref dd), (1, .int 1), (0, .ref h0)]) hx hb dX9_drill_91 rfl hl (by decide) rfl (fun ls hl => ?_)
  refine lv_aload_n hx hb dX9_drill_92 rfl (lv_at hl 2 rfl) ?_
  refine lv_aload_n hx hb dX9_drill_93 rfl (lv_at hl 2 rfl) ?_
  refine gf hC hK hP iX9 0 rfl rfl 4 (by decide) mw_fieldLink_RX9_31_MirrorDrill_spare_LMirrorDrill_Drill (gs_ne (by decide) (gs_ne (by decide) h_fs_4)) dX9_drill_94 ?_
  refine pf (v := .ref ds) hC hK hP hD hS iX9 tyX9_ok nmX9 0 rfl rfl 3 (by decide) mw_fieldLink_RX9_27_MirrorDrill_drill_LMirrorDrill_Drill rfl rfl rfl (ln_lt (ln_set (ln_set hl_fs)) (by decide)) dX9_drill_97 (fun H locs hP hD hS => ?_)
  have hP : va_P D classes [(h0, .inr (9, (((fs.set 5 (.int 0)).set 6 (.int (-1))).set 3 (.ref ds)))), (ea, .inr (3, fe_)), (er, .inl (cyJ, 41, .inr (.inl fer))), (eb, .inl (cyI, 41, .inl feb)), (bb, .inl (cyI, 3, .inl fbb)), (pl, .inr (6, fp_)), (cs, .inr (1, fc_)), (wt, .inr (8, fw_)), (ds, .inr (2, (((((((((fd_.set 0 (.int 2)).set 1 (.int 0)).set 2 (.int 0)).set 3 (.int 0)).set 4 (.int 0)).set 5 (.int 0)).set 6 (.int 0)).set 7 (.int 0)).set 8 (.long 0)))), (rd, .inr (7, ((((((((((fr_.set 0 (.ref tp)).set 1 (.int 0)).set 7 (.ref ds)).set 2 (.int 0)).set 8 (.int 0)).set 9 (.int 0)).set 14 (.int 0)).set 15 (.int (-1))).set 4 (.int 0)).set 3 (.int 0))))] H := hP
  have hD : va_D A [(h0, .inr (9, (((fs.set 5 (.int 0)).set 6 (.int (-1))).set 3 (.ref ds)))), (ea, .inr (3, fe_)), (er, .inl (cyJ, 41, .inr (.inl fer))), (eb, .inl (cyI, 41, .inl feb)), (bb, .inl (cyI, 3, .inl fbb)), (pl, .inr (6, fp_)), (cs, .inr (1, fc_)), (wt, .inr (8, fw_)), (ds, .inr (2, (((((((((fd_.set 0 (.int 2)).set 1 (.int 0)).set 2 (.int 0)).set 3 (.int 0)).set 4 (.int 0)).set 5 (.int 0)).set 6 (.int 0)).set 7 (.int 0)).set 8 (.long 0)))), (rd, .inr (7, ((((((((((fr_.set 0 (.ref tp)).set 1 (.int 0)).set 7 (.ref ds)).set 2 (.int 0)).set 8 (.int 0)).set 9 (.int 0)).set 14 (.int 0)).set 15 (.int (-1))).set 4 (.int 0)).set 3 (.int 0))))] := hD
  refine lv_aload_n hx hb dX9_drill_100 rfl (lv_at hl 2 rfl) ?_
  refine lv_aload_n hx hb dX9_drill_101 rfl (lv_at hl 0 rfl) ?_
  refine pf (v := .ref dd) hC hK hP hD hS iX9 tyX9_ok nmX9 0 rfl rfl 4 (by decide) mw_fieldLink_RX9_31_MirrorDrill_spare_LMirrorDrill_Drill rfl rfl rfl (ln_lt (ln_set (ln_set (ln_set hl_fs))) (by decide)) dX9_drill_102 (fun H locs hP hD hS => ?_)
  have hP : va_P D classes [(h0, .inr (9, ((((fs.set 5 (.int 0)).set 6 (.int (-1))).set 3 (.ref ds)).set 4 (.ref dd)))), (ea, .inr (3, fe_)), (er, .inl (cyJ, 41, .inr (.inl fer))), (eb, .inl (cyI, 41, .inl feb)), (bb, .inl (cyI, 3, .inl fbb)), (pl, .inr (6, fp_)), (cs, .inr (1, fc_)), (wt, .inr (8, fw_)), (ds, .inr (2, (((((((((fd_.set 0 (.int 2)).set 1 (.int 0)).set 2 (.int 0)).set 3 (.int 0)).set 4 (.int 0)).set 5 (.int 0)).set 6 (.int 0)).set 7 (.int 0)).set 8 (.long 0)))), (rd, .inr (7, ((((((((((fr_.set 0 (.ref tp)).set 1 (.int 0)).set 7 (.ref ds)).set 2 (.int 0)).set 8 (.int 0)).set 9 (.int 0)).set 14 (.int 0)).set 15 (.int (-1))).set 4 (.int 0)).set 3 (.int 0))))] H := hP
  have hD : va_D A [(h0, .inr (9, ((((fs.set 5 (.int 0)).set 6 (.int (-1))).set 3 (.ref ds)).set 4 (.ref dd)))), (ea, .inr (3, fe_)), (er, .inl (cyJ, 41, .inr (.inl fer))), (eb, .inl (cyI, 41, .inl feb)), (bb, .inl (cyI, 3, .inl fbb)), (pl, .inr (6, fp_)), (cs, .inr (1, fc_)), (wt, .inr (8, fw_)), (ds, .inr (2, (((((((((fd_.set 0 (.int 2)).set 1 (.int 0)).set 2 (.int 0)).set 3 (.int 0)).set 4 (.int 0)).set 5 (.int 0)).set 6 (.int 0)).set 7 (.int 0)).set 8 (.long 0)))), (rd, .inr (7, ((((((((((fr_.set 0 (.ref tp)).set 1 (.int 0)).set 7 (.ref ds)).set 2 (.int 0)).set 8 (.int 0)).set 9 (.int 0)).set 14 (.int 0)).set 15 (.int (-1))).set 4 (.int 0)).set 3 (.int 0))))] := hD
  refine lv_aload_n hx hb dX9_drill_105 rfl (lv_at hl 2 rfl) ?_
  refine gf hC hK hP iX9 0 rfl rfl 3 (by decide) mw_fieldLink_RX9_27_MirrorDrill_drill_LMirrorDrill_Drill (gs_ne (by decide) (gs_eq (ln_lt (ln_set (ln_set hl_fs)) (by decide)))) dX9_drill_106 ?_
  refine aftV (wr := [(h0, .inr (9, ((((fs.set 5 (.int 0)).set 6 (.int (-1))).set 3 (.ref ds)).set 4 (.ref dd)))), (ea, .inr (3, fe_)), (er, .inl (cyJ, 41, .inr (.inl fer))), (eb, .inl (cyI, 41, .inl feb)), (bb, .inl (cyI, 3, .inl fbb)), (pl, .inr (6, fp_)), (cs, .inr (1, fc_)), (wt, .inr (8, fw_)), (rd, .inr (7, ((((((((((fr_.set 0 (.ref tp)).set 1 (.int 0)).set 7 (.ref ds)).set 2 (.int 0)).set 8 (.int 0)).set 9 (.int 0)).set 14 (.int 0)).set 15 (.int (-1))).set 4 (.int 0)).set 3 (.int 0))))]) (runV hC hK hP hD hl.1 (k_X2_settle l D cyB cyI cyJ cyZ H.size ds (((((((((fd_.set 0 (.int 2)).set 1 (.int 0)).set 2 (.int 0)).set 3 (.int 0)).set 4 (.int 0)).set 5 (.int 0)).set 6 (.int 0)).set 7 (.int 0)).set 8 (.long 0)) (ln_set (ln_set (ln_set (ln_set (ln_set (ln_set (ln_set (ln_set (ln_set hl_fd_))))))))) (gs_ne (by decide) (gs_ne (by decide) (gs_ne (by decide) (gs_ne (by decide) (gs_ne (by decide) (gs_ne (by decide) (gs_ne (by decide) (gs_eq (ln_lt (ln_set hl_fd_) (by decide))))))))))) cV_X2_settle mw_methodLink_RX9_121_yX2_settle [8] rfl rfl 8 rfl rfl rfl rfl rfl (Nat.le_of_ble_eq_true rfl) ⟨by decide, by decide⟩ ⟨by decide, by decide⟩ dX9_drill_109) hP hD hS hA [8] [0, 1, 2, 3, 4, 5, 6, 7, 9] rfl rfl rfl (by decide) (fun u_6 H locs hw_6 hP hD hS => ?_)
  have hP : va_P D classes [(h0, .inr (9, ((((fs.set 5 (.int 0)).set 6 (.int (-1))).set 3 (.ref ds)).set 4 (.ref dd)))), (ea, .inr (3, fe_)), (er, .inl (cyJ, 41, .inr (.inl fer))), (eb, .inl (cyI, 41, .inl feb)), (bb, .inl (cyI, 3, .inl fbb)), (pl, .inr (6, fp_)), (cs, .inr (1, fc_)), (wt, .inr (8, fw_)), (rd, .inr (7, ((((((((((fr_.set 0 (.ref tp)).set 1 (.int 0)).set 7 (.ref ds)).set 2 (.int 0)).set 8 (.int 0)).set 9 (.int 0)).set 14 (.int 0)).set 15 (.int (-1))).set 4 (.int 0)).set 3 (.int 0)))), (ds, .inr (2, (((((((((fd_.set 0 (.int 2)).set 1 (.int 0)).set 2 (.int 0)).set 3 (.int 0)).set 4 (.int 0)).set 5 (.int 0)).set 6 (.int 0)).set 7 (.int 0)).set 8 (.long 0))))] H := hP
  have hD : va_D A [(h0, .inr (9, ((((fs.set 5 (.int 0)).set 6 (.int (-1))).set 3 (.ref ds)).set 4 (.ref dd)))), (ea, .inr (3, fe_)), (er, .inl (cyJ, 41, .inr (.inl fer))), (eb, .inl (cyI, 41, .inl feb)), (bb, .inl (cyI, 3, .inl fbb)), (pl, .inr (6, fp_)), (cs, .inr (1, fc_)), (wt, .inr (8, fw_)), (rd, .inr (7, ((((((((((fr_.set 0 (.ref tp)).set 1 (.int 0)).set 7 (.ref ds)).set 2 (.int 0)).set 8 (.int 0)).set 9 (.int 0)).set 14 (.int 0)).set 15 (.int (-1))).set 4 (.int 0)).set 3 (.int 0)))), (ds, .inr (2, (((((((((fd_.set 0 (.int 2)).set 1 (.int 0)).set 2 (.int 0)).set 3 (.int 0)).set 4 (.int 0)).set 5 (.int 0)).set 6 (.int 0)).set 7 (.int 0)).set 8 (.long 0))))] := hD
  refine W.widen (k := 0) (n := 0) (by decide) (by decide) ?_
  refine lv_aload_n hx hb dX9_drill_112 rfl (lv_at hl 2 rfl) ?_
  refine lv_iconst (v := 0) hx hb dX9_drill_113 (by decide) ?_
  refine pf (v := .int 0) hC hK hP hD hS iX9 tyX9_ok nmX9 0 rfl rfl 1 (by decide) mw_fieldLink_RX9_13_MirrorDrill_taped_I rfl rfl rfl (ln_lt (ln_set (ln_set (ln_set (ln_set hl_fs)))) (by decide)) dX9_drill_114 (fun H locs hP hD hS => ?_)
  have hP : va_P D classes [(h0, .inr (9, (((((fs.set 5 (.int 0)).set 6 (.int (-1))).set 3 (.ref ds)).set 4 (.ref dd)).set 1 (.int 0)))), (ea, .inr (3, fe_)), (er, .inl (cyJ, 41, .inr (.inl fer))), (eb, .inl (cyI, 41, .inl feb)), (bb, .inl (cyI, 3, .inl fbb)), (pl, .inr (6, fp_)), (cs, .inr (1, fc_)), (wt, .inr (8, fw_)), (rd, .inr (7, ((((((((((fr_.set 0 (.ref tp)).set 1 (.int 0)).set 7 (.ref ds)).set 2 (.int 0)).set 8 (.int 0)).set 9 (.int 0)).set 14 (.int 0)).set 15 (.int (-1))).set 4 (.int 0)).set 3 (.int 0)))), (ds, .inr (2, (((((((((fd_.set 0 (.int 2)).set 1 (.int 0)).set 2 (.int 0)).set 3 (.int 0)).set 4 (.int 0)).set 5 (.int 0)).set 6 (.int 0)).set 7 (.int 0)).set 8 (.long 0))))] H := hP
  have hD : va_D A [(h0, .inr (9, (((((fs.set 5 (.int 0)).set 6 (.int (-1))).set 3 (.ref ds)).set 4 (.ref dd)).set 1 (.int 0)))), (ea, .inr (3, fe_)), (er, .inl (cyJ, 41, .inr (.inl fer))), (eb, .inl (cyI, 41, .inl feb)), (bb, .inl (cyI, 3, .inl fbb)), (pl, .inr (6, fp_)), (cs, .inr (1, fc_)), (wt, .inr (8, fw_)), (rd, .inr (7, ((((((((((fr_.set 0 (.ref tp)).set 1 (.int 0)).set 7 (.ref ds)).set 2 (.int 0)).set 8 (.int 0)).set 9 (.int 0)).set 14 (.int 0)).set 15 (.int (-1))).set 4 (.int 0)).set 3 (.int 0)))), (ds, .inr (2, (((((((((fd_.set 0 (.int 2)).set 1 (.int 0)).set 2 (.int 0)).set 3 (.int 0)).set 4 (.int 0)).set 5 (.int 0)).set 6 (.int 0)).set 7 (.int 0)).set 8 (.long 0))))] := hD
  refine lv_aload_n hx hb dX9_drill_117 rfl (lv_at hl 2 rfl) ?_
  refine gf hC hK hP iX9 0 rfl rfl 7 (by decide) mw_fieldLink_RX9_43_MirrorDrill_earnest_LMirrorDrill_Earnest (gs_ne (by decide) (gs_ne (by decide) (gs_ne (by decide) (gs_ne (by decide) (gs_ne (by decide) h_fs_7))))) dX9_drill_118 ?_
  refine lv_aload_n hx hb dX9_drill_121 rfl (lv_at hl 2 rfl) ?_
  refine gf hC hK hP iX9 0 rfl rfl 3 (by decide) mw_fieldLink_RX9_27_MirrorDrill_drill_LMirrorDrill_Drill (gs_ne (by decide) (gs_ne (by decide) (gs_eq (ln_lt (ln_set (ln_set hl_fs)) (by decide))))) dX9_drill_122 ?_
  refine gf hC hK hP iX2 9 rfl rfl 8 (by decide) mw_fieldLink_RX9_124_MirrorDrill_Drill_first_J (gs_eq (ln_lt (ln_set (ln_set (ln_set (ln_set (ln_set (ln_set (ln_set (ln_set hl_fd_)))))))) (by decide))) dX9_drill_125 ?_
  refine lv_iconst (v := 0) hx hb dX9_drill_128 (by decide) ?_
  refine aftV (wr := [(h0, .inr (9, (((((fs.set 5 (.int 0)).set 6 (.int (-1))).set 3 (.ref ds)).set 4 (.ref dd)).set 1 (.int 0)))), (bb, .inl (cyI, 3, .inl fbb)), (pl, .inr (6, fp_)), (cs, .inr (1, fc_)), (wt, .inr (8, fw_)), (rd, .inr (7, ((((((((((fr_.set 0 (.ref tp)).set 1 (.int 0)).set 7 (.ref ds)).set 2 (.int 0)).set 8 (.int 0)).set 9 (.int 0)).set 14 (.int 0)).set 15 (.int (-1))).set 4 (.int 0)).set 3 (.int 0)))), (ds, .inr (2, (((((((((fd_.set 0 (.int 2)).set 1 (.int 0)).set 2 (.int 0)).set 3 (.int 0)).set 4 (.int 0)).set 5 (.int 0)).set 6 (.int 0)).set 7 (.int 0)).set 8 (.long 0))))]) (runV hC hK hP hD hl.1 (k_X3_begin l D cyB cyI cyJ cyZ H.size ea fe_ er eb fer feb hl_fe_ h_fe__0 h_fe__1) cV_X3_begin mw_methodLink_RX9_128_yX3_begin [1, 2, 3] rfl rfl 1 rfl rfl rfl rfl rfl (Nat.le_of_ble_eq_true rfl) ⟨by decide, by decide⟩ ⟨by decide, by decide⟩ dX9_drill_129) hP hD hS hA [1, 2, 3] [0, 4, 5, 6, 7, 8, 9] rfl rfl rfl (by decide) (fun u_7 H locs hw_7 hP hD hS => ?_)
  have hP : va_P D classes [(h0, .inr (9, (((((fs.set 5 (.int 0)).set 6 (.int (-1))).set 3 (.ref ds)).set 4 (.ref dd)).set 1 (.int 0)))), (bb, .inl (cyI, 3, .inl fbb)), (pl, .inr (6, fp_)), (cs, .inr (1, fc_)), (wt, .inr (8, fw_)), (rd, .inr (7, ((((((((((fr_.set 0 (.ref tp)).set 1 (.int 0)).set 7 (.ref ds)).set 2 (.int 0)).set 8 (.int 0)).set 9 (.int 0)).set 14 (.int 0)).set 15 (.int (-1))).set 4 (.int 0)).set 3 (.int 0)))), (ds, .inr (2, (((((((((fd_.set 0 (.int 2)).set 1 (.int 0)).set 2 (.int 0)).set 3 (.int 0)).set 4 (.int 0)).set 5 (.int 0)).set 6 (.int 0)).set 7 (.int 0)).set 8 (.long 0))))] H := hP
  have hD : va_D A [(h0, .inr (9, (((((fs.set 5 (.int 0)).set 6 (.int (-1))).set 3 (.ref ds)).set 4 (.ref dd)).set 1 (.int 0)))), (bb, .inl (cyI, 3, .inl fbb)), (pl, .inr (6, fp_)), (cs, .inr (1, fc_)), (wt, .inr (8, fw_)), (rd, .inr (7, ((((((((((fr_.set 0 (.ref tp)).set 1 (.int 0)).set 7 (.ref ds)).set 2 (.int 0)).set 8 (.int 0)).set 9 (.int 0)).set 14 (.int 0)).set 15 (.int (-1))).set 4 (.int 0)).set 3 (.int 0)))), (ds, .inr (2, (((((((((fd_.set 0 (.int 2)).set 1 (.int 0)).set 2 (.int 0)).set 3 (.int 0)).set 4 (.int 0)).set 5 (.int 0)).set 6 (.int 0)).set 7 (.int 0)).set 8 (.long 0))))] := hD
  refine W.widen (k := 0) (n := 0) (by decide) (by decide) ?_
  refine lv_aload_n hx hb dX9_drill_132 rfl (lv_at hl 2 rfl) ?_
  refine gf hC hK hP iX9 0 rfl rfl 9 (by decide) mw_fieldLink_RX9_51_MirrorDrill_boxBeats_I (gs_ne (by decide) (gs_ne (by decide) (gs_ne (by decide) (gs_ne (by decide) (gs_ne (by decide) h_fs_9))))) dX9_drill_133 ?_
  refine lv_iconst (v := (-1)) hx hb dX9_drill_136 (by decide) ?_
  refine aftV (wr := [(h0, .inr (9, (((((fs.set 5 (.int 0)).set 6 (.int (-1))).set 3 (.ref ds)).set 4 (.ref dd)).set 1 (.int 0)))), (pl, .inr (6, fp_)), (cs, .inr (1, fc_)), (wt, .inr (8, fw_)), (rd, .inr (7, ((((((((((fr_.set 0 (.ref tp)).set 1 (.int 0)).set 7 (.ref ds)).set 2 (.int 0)).set 8 (.int 0)).set 9 (.int 0)).set 14 (.int 0)).set 15 (.int (-1))).set 4 (.int 0)).set 3 (.int 0)))), (ds, .inr (2, (((((((((fd_.set 0 (.int 2)).set 1 (.int 0)).set 2 (.int 0)).set 3 (.int 0)).set 4 (.int 0)).set 5 (.int 0)).set 6 (.int 0)).set 7 (.int 0)).set 8 (.long 0))))]) (runS hC hK hP hD hl.1 (k_J7_fill_3 l D cyB cyI cyJ cyZ H.size bb (-1) fbb ) cS_J7_fill_53178 mw_methodLink_RX9_131_yJ7_fill_53178 [1] rfl rfl rfl rfl (Nat.le_of_ble_eq_true rfl) ⟨by decide, by decide⟩ ⟨by decide, by decide⟩ dX9_drill_137) hP hD hS hA [1] [0, 2, 3, 4, 5, 6] rfl rfl rfl (by decide) (fun u_8 H locs hw_8 hP hD hS => ?_)
  obtain ⟨g_8, rfl⟩ : ∃ z, z = u_8 := ⟨_, rfl⟩
  try dsimp only at hw_8
  have hP : va_P D classes [(h0, .inr (9, (((((fs.set 5 (.int 0)).set 6 (.int (-1))).set 3 (.ref ds)).set 4 (.ref dd)).set 1 (.int 0)))), (pl, .inr (6, fp_)), (cs, .inr (1, fc_)), (wt, .inr (8, fw_)), (rd, .inr (7, ((((((((((fr_.set 0 (.ref tp)).set 1 (.int 0)).set 7 (.ref ds)).set 2 (.int 0)).set 8 (.int 0)).set 9 (.int 0)).set 14 (.int 0)).set 15 (.int (-1))).set 4 (.int 0)).set 3 (.int 0)))), (ds, .inr (2, (((((((((fd_.set 0 (.int 2)).set 1 (.int 0)).set 2 (.int 0)).set 3 (.int 0)).set 4 (.int 0)).set 5 (.int 0)).set 6 (.int 0)).set 7 (.int 0)).set 8 (.long 0)))), (bb, .inl (cyI, 3, .inl g_8))] H := hP
  have hD : va_D A [(h0, .inr (9, (((((fs.set 5 (.int 0)).set 6 (.int (-1))).set 3 (.ref ds)).set 4 (.ref dd)).set 1 (.int 0)))), (pl, .inr (6, fp_)), (cs, .inr (1, fc_)), (wt, .inr (8, fw_)), (rd, .inr (7, ((((((((((fr_.set 0 (.ref tp)).set 1 (.int 0)).set 7 (.ref ds)).set 2 (.int 0)).set 8 (.int 0)).set 9 (.int 0)).set 14 (.int 0)).set 15 (.int (-1))).set 4 (.int 0)).set 3 (.int 0)))), (ds, .inr (2, (((((((((fd_.set 0 (.int 2)).set 1 (.int 0)).set 2 (.int 0)).set 3 (.int 0)).set 4 (.int 0)).set 5 (.int 0)).set 6 (.int 0)).set 7 (.int 0)).set 8 (.long 0)))), (bb, .inl (cyI, 3, .inl g_8))] := hD
  refine W.widen (k := 0) (n := 0) (by decide) (by decide) ?_
  refine lv_aload_n hx hb dX9_drill_140 rfl (lv_at hl 2 rfl) ?_
  refine gf hC hK hP iX9 0 rfl rfl 10 (by decide) mw_fieldLink_RX9_57_MirrorDrill_pile_LMirrorDrill_Pile (gs_ne (by decide) (gs_ne (by decide) (gs_ne (by decide) (gs_ne (by decide) (gs_ne (by decide) h_fs_10))))) dX9_drill_141 ?_
  refine aftV (wr := [(h0, .inr (9, (((((fs.set 5 (.int 0)).set 6 (.int (-1))).set 3 (.ref ds)).set 4 (.ref dd)).set 1 (.int 0)))), (cs, .inr (1, fc_)), (wt, .inr (8, fw_)), (rd, .inr (7, ((((((((((fr_.set 0 (.ref tp)).set 1 (.int 0)).set 7 (.ref ds)).set 2 (.int 0)).set 8 (.int 0)).set 9 (.int 0)).set 14 (.int 0)).set 15 (.int (-1))).set 4 (.int 0)).set 3 (.int 0)))), (ds, .inr (2, (((((((((fd_.set 0 (.int 2)).set 1 (.int 0)).set 2 (.int 0)).set 3 (.int 0)).set 4 (.int 0)).set 5 (.int 0)).set 6 (.int 0)).set 7 (.int 0)).set 8 (.long 0)))), (bb, .inl (cyI, 3, .inl g_8))]) (runV hC hK hP hD hl.1 (k_X6_clear l D cyB cyI cyJ cyZ H.size pl fp_ hl_fp_) cV_X6_clear mw_methodLink_RX9_137_yX6_clear [1] rfl rfl 1 rfl rfl rfl rfl rfl (Nat.le_of_ble_eq_true rfl) ⟨by decide, by decide⟩ ⟨by decide, by decide⟩ dX9_drill_144) hP hD hS hA [1] [0, 2, 3, 4, 5, 6] rfl rfl rfl (by decide) (fun u_9 H locs hw_9 hP hD hS => ?_)
  have hP : va_P D classes [(h0, .inr (9, (((((fs.set 5 (.int 0)).set 6 (.int (-1))).set 3 (.ref ds)).set 4 (.ref dd)).set 1 (.int 0)))), (cs, .inr (1, fc_)), (wt, .inr (8, fw_)), (rd, .inr (7, ((((((((((fr_.set 0 (.ref tp)).set 1 (.int 0)).set 7 (.ref ds)).set 2 (.int 0)).set 8 (.int 0)).set 9 (.int 0)).set 14 (.int 0)).set 15 (.int (-1))).set 4 (.int 0)).set 3 (.int 0)))), (ds, .inr (2, (((((((((fd_.set 0 (.int 2)).set 1 (.int 0)).set 2 (.int 0)).set 3 (.int 0)).set 4 (.int 0)).set 5 (.int 0)).set 6 (.int 0)).set 7 (.int 0)).set 8 (.long 0)))), (bb, .inl (cyI, 3, .inl g_8)), (pl, .inr (6, (fp_.set 1 (.int 0))))] H := hP
  have hD : va_D A [(h0, .inr (9, (((((fs.set 5 (.int 0)).set 6 (.int (-1))).set 3 (.ref ds)).set 4 (.ref dd)).set 1 (.int 0)))), (cs, .inr (1, fc_)), (wt, .inr (8, fw_)), (rd, .inr (7, ((((((((((fr_.set 0 (.ref tp)).set 1 (.int 0)).set 7 (.ref ds)).set 2 (.int 0)).set 8 (.int 0)).set 9 (.int 0)).set 14 (.int 0)).set 15 (.int (-1))).set 4 (.int 0)).set 3 (.int 0)))), (ds, .inr (2, (((((((((fd_.set 0 (.int 2)).set 1 (.int 0)).set 2 (.int 0)).set 3 (.int 0)).set 4 (.int 0)).set 5 (.int 0)).set 6 (.int 0)).set 7 (.int 0)).set 8 (.long 0)))), (bb, .inl (cyI, 3, .inl g_8)), (pl, .inr (6, (fp_.set 1 (.int 0))))] := hD
  refine W.widen (k := 0) (n := 0) (by decide) (by decide) ?_
  refine lv_aload_n hx hb dX9_drill_147 rfl (lv_at hl 2 rfl) ?_
  refine gf hC hK hP iX9 0 rfl rfl 12 (by decide) mw_fieldLink_RX9_67_MirrorDrill_course_LMirrorDrill_Course (gs_ne (by decide) (gs_ne (by decide) (gs_ne (by decide) (gs_ne (by decide) (gs_ne (by decide) h_fs_12))))) dX9_drill_148 ?_
  refine aftV (wr := [(h0, .inr (9, (((((fs.set 5 (.int 0)).set 6 (.int (-1))).set 3 (.ref ds)).set 4 (.ref dd)).set 1 (.int 0)))), (wt, .inr (8, fw_)), (rd, .inr (7, ((((((((((fr_.set 0 (.ref tp)).set 1 (.int 0)).set 7 (.ref ds)).set 2 (.int 0)).set 8 (.int 0)).set 9 (.int 0)).set 14 (.int 0)).set 15 (.int (-1))).set 4 (.int 0)).set 3 (.int 0)))), (ds, .inr (2, (((((((((fd_.set 0 (.int 2)).set 1 (.int 0)).set 2 (.int 0)).set 3 (.int 0)).set 4 (.int 0)).set 5 (.int 0)).set 6 (.int 0)).set 7 (.int 0)).set 8 (.long 0)))), (bb, .inl (cyI, 3, .inl g_8)), (pl, .inr (6, (fp_.set 1 (.int 0))))]) (runV hC hK hP hD hl.1 (k_X1_forget l D cyB cyI cyJ cyZ H.size cs fc_ hl_fc_) cV_X1_forget mw_methodLink_RX9_140_yX1_forget [1] rfl rfl 1 rfl rfl rfl rfl rfl (Nat.le_of_ble_eq_true rfl) ⟨by decide, by decide⟩ ⟨by decide, by decide⟩ dX9_drill_151) hP hD hS hA [1] [0, 2, 3, 4, 5, 6] rfl rfl rfl (by decide) (fun u_10 H locs hw_10 hP hD hS => ?_)
  have hP : va_P D classes [(h0, .inr (9, (((((fs.set 5 (.int 0)).set 6 (.int (-1))).set 3 (.ref ds)).set 4 (.ref dd)).set 1 (.int 0)))), (wt, .inr (8, fw_)), (rd, .inr (7, ((((((((((fr_.set 0 (.ref tp)).set 1 (.int 0)).set 7 (.ref ds)).set 2 (.int 0)).set 8 (.int 0)).set 9 (.int 0)).set 14 (.int 0)).set 15 (.int (-1))).set 4 (.int 0)).set 3 (.int 0)))), (ds, .inr (2, (((((((((fd_.set 0 (.int 2)).set 1 (.int 0)).set 2 (.int 0)).set 3 (.int 0)).set 4 (.int 0)).set 5 (.int 0)).set 6 (.int 0)).set 7 (.int 0)).set 8 (.long 0)))), (bb, .inl (cyI, 3, .inl g_8)), (pl, .inr (6, (fp_.set 1 (.int 0))))] H := hP
  have hD : va_D A [(h0, .inr (9, (((((fs.set 5 (.int 0)).set 6 (.int (-1))).set 3 (.ref ds)).set 4 (.ref dd)).set 1 (.int 0)))), (wt, .inr (8, fw_)), (rd, .inr (7, ((((((((((fr_.set 0 (.ref tp)).set 1 (.int 0)).set 7 (.ref ds)).set 2 (.int 0)).set 8 (.int 0)).set 9 (.int 0)).set 14 (.int 0)).set 15 (.int (-1))).set 4 (.int 0)).set 3 (.int 0)))), (ds, .inr (2, (((((((((fd_.set 0 (.int 2)).set 1 (.int 0)).set 2 (.int 0)).set 3 (.int 0)).set 4 (.int 0)).set 5 (.int 0)).set 6 (.int 0)).set 7 (.int 0)).set 8 (.long 0)))), (bb, .inl (cyI, 3, .inl g_8)), (pl, .inr (6, (fp_.set 1 (.int 0))))] := hD
  refine W.widen (k := 0) (n := 0) (by decide) (by decide) ?_
  refine lv_aload_n hx hb dX9_drill_154 rfl (lv_at hl 2 rfl) ?_
  refine gf hC hK hP iX9 0 rfl rfl 16 (by decide) mw_fieldLink_RX9_95_MirrorDrill_witness_LMirrorDrill_Witness (gs_ne (by decide) (gs_ne (by decide) (gs_ne (by decide) (gs_ne (by decide) (gs_ne (by decide) h_fs_16))))) dX9_drill_155 ?_
  refine aftV (wr := [(h0, .inr (9, (((((fs.set 5 (.int 0)).set 6 (.int (-1))).set 3 (.ref ds)).set 4 (.ref dd)).set 1 (.int 0)))), (rd, .inr (7, ((((((((((fr_.set 0 (.ref tp)).set 1 (.int 0)).set 7 (.ref ds)).set 2 (.int 0)).set 8 (.int 0)).set 9 (.int 0)).set 14 (.int 0)).set 15 (.int (-1))).set 4 (.int 0)).set 3 (.int 0)))), (ds, .inr (2, (((((((((fd_.set 0 (.int 2)).set 1 (.int 0)).set 2 (.int 0)).set 3 (.int 0)).set 4 (.int 0)).set 5 (.int 0)).set 6 (.int 0)).set 7 (.int 0)).set 8 (.long 0)))), (bb, .inl (cyI, 3, .inl g_8)), (pl, .inr (6, (fp_.set 1 (.int 0))))]) (runV hC hK hP hD hl.1 (k_X8_forget l D cyB cyI cyJ cyZ H.size wt fw_ hl_fw_) cV_X8_forget mw_methodLink_RX9_143_yX8_forget [1] rfl rfl 1 rfl rfl rfl rfl rfl (Nat.le_of_ble_eq_true rfl) ⟨by decide, by decide⟩ ⟨by decide, by decide⟩ dX9_drill_158) hP hD hS hA [1] [0, 2, 3, 4, 5] rfl rfl rfl (by decide) (fun u_11 H locs hw_11 hP hD hS => ?_)
  have hP : va_P D classes [(h0, .inr (9, (((((fs.set 5 (.int 0)).set 6 (.int (-1))).set 3 (.ref ds)).set 4 (.ref dd)).set 1 (.int 0)))), (rd, .inr (7, ((((((((((fr_.set 0 (.ref tp)).set 1 (.int 0)).set 7 (.ref ds)).set 2 (.int 0)).set 8 (.int 0)).set 9 (.int 0)).set 14 (.int 0)).set 15 (.int (-1))).set 4 (.int 0)).set 3 (.int 0)))), (ds, .inr (2, (((((((((fd_.set 0 (.int 2)).set 1 (.int 0)).set 2 (.int 0)).set 3 (.int 0)).set 4 (.int 0)).set 5 (.int 0)).set 6 (.int 0)).set 7 (.int 0)).set 8 (.long 0)))), (bb, .inl (cyI, 3, .inl g_8)), (pl, .inr (6, (fp_.set 1 (.int 0))))] H := hP
  have hD : va_D A [(h0, .inr (9, (((((fs.set 5 (.int 0)).set 6 (.int (-1))).set 3 (.ref ds)).set 4 (.ref dd)).set 1 (.int 0)))), (rd, .inr (7, ((((((((((fr_.set 0 (.ref tp)).set 1 (.int 0)).set 7 (.ref ds)).set 2 (.int 0)).set 8 (.int 0)).set 9 (.int 0)).set 14 (.int 0)).set 15 (.int (-1))).set 4 (.int 0)).set 3 (.int 0)))), (ds, .inr (2, (((((((((fd_.set 0 (.int 2)).set 1 (.int 0)).set 2 (.int 0)).set 3 (.int 0)).set 4 (.int 0)).set 5 (.int 0)).set 6 (.int 0)).set 7 (.int 0)).set 8 (.long 0)))), (bb, .inl (cyI, 3, .inl g_8)), (pl, .inr (6, (fp_.set 1 (.int 0))))] := hD
  refine W.widen (k := 0) (n := 0) (by decide) (by decide) ?_
  refine lv_aload_n hx hb dX9_drill_161 rfl (lv_at hl 2 rfl) ?_
  refine gf hC hK hP iX9 0 rfl rfl 3 (by decide) mw_fieldLink_RX9_27_MirrorDrill_drill_LMirrorDrill_Drill (gs_ne (by decide) (gs_ne (by decide) (gs_eq (ln_lt (ln_set (ln_set hl_fs)) (by decide))))) dX9_drill_162 ?_
  refine gf hC hK hP iX2 2 rfl rfl 1 (by decide) mw_fieldLink_RX9_144_MirrorDrill_Drill_men_I (gs_ne (by decide) (gs_ne (by decide) (gs_ne (by decide) (gs_ne (by decide) (gs_ne (by decide) (gs_ne (by decide) (gs_ne (by decide) (gs_eq (ln_lt (ln_set hl_fd_) (by decide)))))))))) dX9_drill_165 ?_
  exact retI hC hP hD hS (by decide) (by decide) () [] rfl rfl rfl dX9_drill_168
