theorem dX10_clearBank_0 : decode cX10_clearBank 0 = .ok (.aload_n 0, 1) := by decide +kernel
theorem dX10_clearBank_1 : decode cX10_clearBank 1 = .ok (.getfield 20, 3) := by decide +kernel
theorem dX10_clearBank_4 : decode cX10_clearBank 4 = .ok (.aload_n 0, 1) := by decide +kernel
theorem dX10_clearBank_5 : decode cX10_clearBank 5 = .ok (.getfield 273, 3) := by decide +kernel
theorem dX10_clearBank_8 : decode cX10_clearBank 8 = .ok (.iconst 2, 1) := by decide +kernel
theorem dX10_clearBank_9 : decode cX10_clearBank 9 = .ok (.iastore, 1) := by decide +kernel
theorem dX10_clearBank_10 : decode cX10_clearBank 10 = .ok (.aload_n 0, 1) := by decide +kernel
theorem dX10_clearBank_11 : decode cX10_clearBank 11 = .ok (.getfield 24, 3) := by decide +kernel
theorem dX10_clearBank_14 : decode cX10_clearBank 14 = .ok (.aload_n 0, 1) := by decide +kernel
theorem dX10_clearBank_15 : decode cX10_clearBank 15 = .ok (.getfield 273, 3) := by decide +kernel
theorem dX10_clearBank_18 : decode cX10_clearBank 18 = .ok (.iconst 0, 1) := by decide +kernel
theorem dX10_clearBank_19 : decode cX10_clearBank 19 = .ok (.iastore, 1) := by decide +kernel
theorem dX10_clearBank_20 : decode cX10_clearBank 20 = .ok (.aload_n 0, 1) := by decide +kernel
theorem dX10_clearBank_21 : decode cX10_clearBank 21 = .ok (.getfield 27, 3) := by decide +kernel
theorem dX10_clearBank_24 : decode cX10_clearBank 24 = .ok (.aload_n 0, 1) := by decide +kernel
theorem dX10_clearBank_25 : decode cX10_clearBank 25 = .ok (.getfield 273, 3) := by decide +kernel
theorem dX10_clearBank_28 : decode cX10_clearBank 28 = .ok (.iconst 0, 1) := by decide +kernel
theorem dX10_clearBank_29 : decode cX10_clearBank 29 = .ok (.iastore, 1) := by decide +kernel
theorem dX10_clearBank_30 : decode cX10_clearBank 30 = .ok (.aload_n 0, 1) := by decide +kernel
theorem dX10_clearBank_31 : decode cX10_clearBank 31 = .ok (.getfield 30, 3) := by decide +kernel
theorem dX10_clearBank_34 : decode cX10_clearBank 34 = .ok (.aload_n 0, 1) := by decide +kernel
theorem dX10_clearBank_35 : decode cX10_clearBank 35 = .ok (.getfield 273, 3) := by decide +kernel
theorem dX10_clearBank_38 : decode cX10_clearBank 38 = .ok (.iconst 0, 1) := by decide +kernel
theorem dX10_clearBank_39 : decode cX10_clearBank 39 = .ok (.iastore, 1) := by decide +kernel
theorem dX10_clearBank_40 : decode cX10_clearBank 40 = .ok (.aload_n 0, 1) := by decide +kernel
theorem dX10_clearBank_41 : decode cX10_clearBank 41 = .ok (.getfield 33, 3) := by decide +kernel
theorem dX10_clearBank_44 : decode cX10_clearBank 44 = .ok (.aload_n 0, 1) := by decide +kernel
theorem dX10_clearBank_45 : decode cX10_clearBank 45 = .ok (.getfield 273, 3) := by decide +kernel
theorem dX10_clearBank_48 : decode cX10_clearBank 48 = .ok (.iconst 0, 1) := by decide +kernel
theorem dX10_clearBank_49 : decode cX10_clearBank 49 = .ok (.iastore, 1) := by decide +kernel
theorem dX10_clearBank_50 : decode cX10_clearBank 50 = .ok (.aload_n 0, 1) := by decide +kernel
theorem dX10_clearBank_51 : decode cX10_clearBank 51 = .ok (.getfield 57, 3) := by decide +kernel
theorem dX10_clearBank_54 : decode cX10_clearBank 54 = .ok (.aload_n 0, 1) := by decide +kernel
theorem dX10_clearBank_55 : decode cX10_clearBank 55 = .ok (.getfield 273, 3) := by decide +kernel
theorem dX10_clearBank_58 : decode cX10_clearBank 58 = .ok (.iconst 0, 1) := by decide +kernel
theorem dX10_clearBank_59 : decode cX10_clearBank 59 = .ok (.bastore, 1) := by decide +kernel
theorem dX10_clearBank_60 : decode cX10_clearBank 60 = .ok (.aload_n 0, 1) := by decide +kernel
theorem dX10_clearBank_61 : decode cX10_clearBank 61 = .ok (.getfield 61, 3) := by decide +kernel
theorem dX10_clearBank_64 : decode cX10_clearBank 64 = .ok (.aload_n 0, 1) := by decide +kernel
theorem dX10_clearBank_65 : decode cX10_clearBank 65 = .ok (.getfield 273, 3) := by decide +kernel
theorem dX10_clearBank_68 : decode cX10_clearBank 68 = .ok (.iconst 0, 1) := by decide +kernel
theorem dX10_clearBank_69 : decode cX10_clearBank 69 = .ok (.bastore, 1) := by decide +kernel
theorem dX10_clearBank_70 : decode cX10_clearBank 70 = .ok (.aload_n 0, 1) := by decide +kernel
theorem dX10_clearBank_71 : decode cX10_clearBank 71 = .ok (.getfield 64, 3) := by decide +kernel
theorem dX10_clearBank_74 : decode cX10_clearBank 74 = .ok (.aload_n 0, 1) := by decide +kernel
theorem dX10_clearBank_75 : decode cX10_clearBank 75 = .ok (.getfield 273, 3) := by decide +kernel
theorem dX10_clearBank_78 : decode cX10_clearBank 78 = .ok (.iconst 0, 1) := by decide +kernel
theorem dX10_clearBank_79 : decode cX10_clearBank 79 = .ok (.bastore, 1) := by decide +kernel
theorem dX10_clearBank_80 : decode cX10_clearBank 80 = .ok (.aload_n 0, 1) := by decide +kernel
theorem dX10_clearBank_81 : decode cX10_clearBank 81 = .ok (.getfield 67, 3) := by decide +kernel
theorem dX10_clearBank_84 : decode cX10_clearBank 84 = .ok (.aload_n 0, 1) := by decide +kernel
theorem dX10_clearBank_85 : decode cX10_clearBank 85 = .ok (.getfield 273, 3) := by decide +kernel
theorem dX10_clearBank_88 : decode cX10_clearBank 88 = .ok (.iconst 0, 1) := by decide +kernel
theorem dX10_clearBank_89 : decode cX10_clearBank 89 = .ok (.bastore, 1) := by decide +kernel
theorem dX10_clearBank_90 : decode cX10_clearBank 90 = .ok (.aload_n 0, 1) := by decide +kernel
theorem dX10_clearBank_91 : decode cX10_clearBank 91 = .ok (.getfield 70, 3) := by decide +kernel
theorem dX10_clearBank_94 : decode cX10_clearBank 94 = .ok (.aload_n 0, 1) := by decide +kernel
theorem dX10_clearBank_95 : decode cX10_clearBank 95 = .ok (.getfield 273, 3) := by decide +kernel
theorem dX10_clearBank_98 : decode cX10_clearBank 98 = .ok (.iconst 0, 1) := by decide +kernel
theorem dX10_clearBank_99 : decode cX10_clearBank 99 = .ok (.bastore, 1) := by decide +kernel
theorem dX10_clearBank_100 : decode cX10_clearBank 100 = .ok (.aload_n 0, 1) := by decide +kernel
theorem dX10_clearBank_101 : decode cX10_clearBank 101 = .ok (.sipush 600, 3) := by decide +kernel
theorem dX10_clearBank_104 : decode cX10_clearBank 104 = .ok (.aload_n 0, 1) := by decide +kernel
theorem dX10_clearBank_105 : decode cX10_clearBank 105 = .ok (.getfield 273, 3) := by decide +kernel
theorem dX10_clearBank_108 : decode cX10_clearBank 108 = .ok (.imul, 1) := by decide +kernel
theorem dX10_clearBank_109 : decode cX10_clearBank 109 = .ok (.putfield 276, 3) := by decide +kernel
theorem dX10_clearBank_112 : decode cX10_clearBank 112 = .ok (.iconst 0, 1) := by decide +kernel
theorem dX10_clearBank_113 : decode cX10_clearBank 113 = .ok (.istore_n 1, 1) := by decide +kernel
theorem dX10_clearBank_114 : decode cX10_clearBank 114 = .ok (.iload_n 1, 1) := by decide +kernel
theorem dX10_clearBank_115 : decode cX10_clearBank 115 = .ok (.iconst 4, 1) := by decide +kernel
theorem dX10_clearBank_116 : decode cX10_clearBank 116 = .ok (.if_icmp .ge 23, 3) := by decide +kernel
theorem dX10_clearBank_119 : decode cX10_clearBank 119 = .ok (.aload_n 0, 1) := by decide +kernel
theorem dX10_clearBank_120 : decode cX10_clearBank 120 = .ok (.getfield 36, 3) := by decide +kernel
theorem dX10_clearBank_123 : decode cX10_clearBank 123 = .ok (.iconst 4, 1) := by decide +kernel
theorem dX10_clearBank_124 : decode cX10_clearBank 124 = .ok (.aload_n 0, 1) := by decide +kernel
theorem dX10_clearBank_125 : decode cX10_clearBank 125 = .ok (.getfield 273, 3) := by decide +kernel
theorem dX10_clearBank_128 : decode cX10_clearBank 128 = .ok (.imul, 1) := by decide +kernel
theorem dX10_clearBank_129 : decode cX10_clearBank 129 = .ok (.iload_n 1, 1) := by decide +kernel
theorem dX10_clearBank_130 : decode cX10_clearBank 130 = .ok (.iadd, 1) := by decide +kernel
theorem dX10_clearBank_131 : decode cX10_clearBank 131 = .ok (.iload_n 1, 1) := by decide +kernel
theorem dX10_clearBank_132 : decode cX10_clearBank 132 = .ok (.iastore, 1) := by decide +kernel
theorem dX10_clearBank_133 : decode cX10_clearBank 133 = .ok (.iinc 1 1, 3) := by decide +kernel
theorem dX10_clearBank_136 : decode cX10_clearBank 136 = .ok (.goto (-22), 3) := by decide +kernel
theorem dX10_clearBank_139 : decode cX10_clearBank 139 = .ok (.bipush 30, 2) := by decide +kernel
theorem dX10_clearBank_141 : decode cX10_clearBank 141 = .ok (.aload_n 0, 1) := by decide +kernel
theorem dX10_clearBank_142 : decode cX10_clearBank 142 = .ok (.getfield 273, 3) := by decide +kernel
theorem dX10_clearBank_145 : decode cX10_clearBank 145 = .ok (.imul, 1) := by decide +kernel
theorem dX10_clearBank_146 : decode cX10_clearBank 146 = .ok (.istore_n 1, 1) := by decide +kernel
theorem dX10_clearBank_147 : decode cX10_clearBank 147 = .ok (.iload_n 1, 1) := by decide +kernel
theorem dX10_clearBank_148 : decode cX10_clearBank 148 = .ok (.bipush 30, 2) := by decide +kernel
theorem dX10_clearBank_150 : decode cX10_clearBank 150 = .ok (.aload_n 0, 1) := by decide +kernel
theorem dX10_clearBank_151 : decode cX10_clearBank 151 = .ok (.getfield 273, 3) := by decide +kernel
theorem dX10_clearBank_154 : decode cX10_clearBank 154 = .ok (.imul, 1) := by decide +kernel
theorem dX10_clearBank_155 : decode cX10_clearBank 155 = .ok (.bipush 30, 2) := by decide +kernel
theorem dX10_clearBank_157 : decode cX10_clearBank 157 = .ok (.iadd, 1) := by decide +kernel
theorem dX10_clearBank_158 : decode cX10_clearBank 158 = .ok (.if_icmp .ge 51, 3) := by decide +kernel
theorem dX10_clearBank_161 : decode cX10_clearBank 161 = .ok (.aload_n 0, 1) := by decide +kernel
theorem dX10_clearBank_162 : decode cX10_clearBank 162 = .ok (.getfield 48, 3) := by decide +kernel
theorem dX10_clearBank_165 : decode cX10_clearBank 165 = .ok (.iload_n 1, 1) := by decide +kernel
theorem dX10_clearBank_166 : decode cX10_clearBank 166 = .ok (.iconst 0, 1) := by decide +kernel
theorem dX10_clearBank_167 : decode cX10_clearBank 167 = .ok (.iastore, 1) := by decide +kernel
theorem dX10_clearBank_168 : decode cX10_clearBank 168 = .ok (.aload_n 0, 1) := by decide +kernel
theorem dX10_clearBank_169 : decode cX10_clearBank 169 = .ok (.getfield 51, 3) := by decide +kernel
theorem dX10_clearBank_172 : decode cX10_clearBank 172 = .ok (.iload_n 1, 1) := by decide +kernel
theorem dX10_clearBank_173 : decode cX10_clearBank 173 = .ok (.iconst 0, 1) := by decide +kernel
theorem dX10_clearBank_174 : decode cX10_clearBank 174 = .ok (.iastore, 1) := by decide +kernel
theorem dX10_clearBank_175 : decode cX10_clearBank 175 = .ok (.aload_n 0, 1) := by decide +kernel
theorem dX10_clearBank_176 : decode cX10_clearBank 176 = .ok (.getfield 54, 3) := by decide +kernel
theorem dX10_clearBank_179 : decode cX10_clearBank 179 = .ok (.iload_n 1, 1) := by decide +kernel
theorem dX10_clearBank_180 : decode cX10_clearBank 180 = .ok (.iconst (-1), 1) := by decide +kernel
theorem dX10_clearBank_181 : decode cX10_clearBank 181 = .ok (.iastore, 1) := by decide +kernel
theorem dX10_clearBank_182 : decode cX10_clearBank 182 = .ok (.aload_n 0, 1) := by decide +kernel
theorem dX10_clearBank_183 : decode cX10_clearBank 183 = .ok (.getfield 73, 3) := by decide +kernel
theorem dX10_clearBank_186 : decode cX10_clearBank 186 = .ok (.iload_n 1, 1) := by decide +kernel
theorem dX10_clearBank_187 : decode cX10_clearBank 187 = .ok (.iconst 0, 1) := by decide +kernel
theorem dX10_clearBank_188 : decode cX10_clearBank 188 = .ok (.bastore, 1) := by decide +kernel
theorem dX10_clearBank_189 : decode cX10_clearBank 189 = .ok (.aload_n 0, 1) := by decide +kernel
theorem dX10_clearBank_190 : decode cX10_clearBank 190 = .ok (.getfield 76, 3) := by decide +kernel
theorem dX10_clearBank_193 : decode cX10_clearBank 193 = .ok (.iload_n 1, 1) := by decide +kernel
theorem dX10_clearBank_194 : decode cX10_clearBank 194 = .ok (.iconst 0, 1) := by decide +kernel
theorem dX10_clearBank_195 : decode cX10_clearBank 195 = .ok (.bastore, 1) := by decide +kernel
theorem dX10_clearBank_196 : decode cX10_clearBank 196 = .ok (.aload_n 0, 1) := by decide +kernel
theorem dX10_clearBank_197 : decode cX10_clearBank 197 = .ok (.getfield 79, 3) := by decide +kernel
theorem dX10_clearBank_200 : decode cX10_clearBank 200 = .ok (.iload_n 1, 1) := by decide +kernel
theorem dX10_clearBank_201 : decode cX10_clearBank 201 = .ok (.iconst 0, 1) := by decide +kernel
theorem dX10_clearBank_202 : decode cX10_clearBank 202 = .ok (.bastore, 1) := by decide +kernel
theorem dX10_clearBank_203 : decode cX10_clearBank 203 = .ok (.iinc 1 1, 3) := by decide +kernel
theorem dX10_clearBank_206 : decode cX10_clearBank 206 = .ok (.goto (-59), 3) := by decide +kernel
theorem dX10_clearBank_209 : decode cX10_clearBank 209 = .ok (.return_, 1) := by decide +kernel
theorem dX10_sign_0 : decode cX10_sign 0 = .ok (.iload_n 1, 1) := by decide +kernel
theorem dX10_sign_1 : decode cX10_sign 1 = .ok (.aload_n 0, 1) := by decide +kernel
theorem dX10_sign_2 : decode cX10_sign 2 = .ok (.getfield 183, 3) := by decide +kernel
theorem dX10_sign_5 : decode cX10_sign 5 = .ok (.if_icmp .ge 16, 3) := by decide +kernel
theorem dX10_sign_8 : decode cX10_sign 8 = .ok (.aload_n 0, 1) := by decide +kernel
theorem dX10_sign_9 : decode cX10_sign 9 = .ok (.getfield 13, 3) := by decide +kernel
theorem dX10_sign_12 : decode cX10_sign 12 = .ok (.iload_n 1, 1) := by decide +kernel
theorem dX10_sign_13 : decode cX10_sign 13 = .ok (.baload, 1) := by decide +kernel
theorem dX10_sign_14 : decode cX10_sign 14 = .ok (.sipush 255, 3) := by decide +kernel
theorem dX10_sign_17 : decode cX10_sign 17 = .ok (.iand, 1) := by decide +kernel
theorem dX10_sign_18 : decode cX10_sign 18 = .ok (.goto 4, 3) := by decide +kernel
theorem dX10_sign_21 : decode cX10_sign 21 = .ok (.iconst 0, 1) := by decide +kernel
theorem dX10_sign_22 : decode cX10_sign 22 = .ok (.ireturn, 1) := by decide +kernel
theorem dX10_isGood_0 : decode cX10_isGood 0 = .ok (.aload_n 0, 1) := by decide +kernel
theorem dX10_isGood_1 : decode cX10_isGood 1 = .ok (.getfield 186, 3) := by decide +kernel
theorem dX10_isGood_4 : decode cX10_isGood 4 = .ok (.ifCond .ne 7, 3) := by decide +kernel
theorem dX10_isGood_7 : decode cX10_isGood 7 = .ok (.iconst 1, 1) := by decide +kernel
theorem dX10_isGood_8 : decode cX10_isGood 8 = .ok (.goto 4, 3) := by decide +kernel
theorem dX10_isGood_11 : decode cX10_isGood 11 = .ok (.iconst 0, 1) := by decide +kernel
theorem dX10_isGood_12 : decode cX10_isGood 12 = .ok (.ireturn, 1) := by decide +kernel
theorem dX10_goOn_0 : decode cX10_goOn 0 = .ok (.aload_n 0, 1) := by decide +kernel
theorem dX10_goOn_1 : decode cX10_goOn 1 = .ok (.aload_n 0, 1) := by decide +kernel
theorem dX10_goOn_2 : decode cX10_goOn 2 = .ok (.getfield 225, 3) := by decide +kernel
theorem dX10_goOn_5 : decode cX10_goOn 5 = .ok (.putfield 228, 3) := by decide +kernel
theorem dX10_goOn_8 : decode cX10_goOn 8 = .ok (.aload_n 0, 1) := by decide +kernel
theorem dX10_goOn_9 : decode cX10_goOn 9 = .ok (.getfield 228, 3) := by decide +kernel
theorem dX10_goOn_12 : decode cX10_goOn 12 = .ok (.aload_n 0, 1) := by decide +kernel
theorem dX10_goOn_13 : decode cX10_goOn 13 = .ok (.getfield 183, 3) := by decide +kernel
theorem dX10_goOn_16 : decode cX10_goOn 16 = .ok (.if_icmp .ge 42, 3) := by decide +kernel
theorem dX10_goOn_19 : decode cX10_goOn 19 = .ok (.aload_n 0, 1) := by decide +kernel
theorem dX10_goOn_20 : decode cX10_goOn 20 = .ok (.aload_n 0, 1) := by decide +kernel
theorem dX10_goOn_21 : decode cX10_goOn 21 = .ok (.getfield 228, 3) := by decide +kernel
theorem dX10_goOn_24 : decode cX10_goOn 24 = .ok (.invokevirtual 231, 3) := by decide +kernel
theorem dX10_goOn_27 : decode cX10_goOn 27 = .ok (.bipush 32, 2) := by decide +kernel
theorem dX10_goOn_29 : decode cX10_goOn 29 = .ok (.if_icmp .eq 16, 3) := by decide +kernel
theorem dX10_goOn_32 : decode cX10_goOn 32 = .ok (.aload_n 0, 1) := by decide +kernel
theorem dX10_goOn_33 : decode cX10_goOn 33 = .ok (.aload_n 0, 1) := by decide +kernel
theorem dX10_goOn_34 : decode cX10_goOn 34 = .ok (.getfield 228, 3) := by decide +kernel
theorem dX10_goOn_37 : decode cX10_goOn 37 = .ok (.invokevirtual 231, 3) := by decide +kernel
theorem dX10_goOn_40 : decode cX10_goOn 40 = .ok (.bipush 10, 2) := by decide +kernel
theorem dX10_goOn_42 : decode cX10_goOn 42 = .ok (.if_icmp .ne 16, 3) := by decide +kernel
theorem dX10_goOn_45 : decode cX10_goOn 45 = .ok (.aload_n 0, 1) := by decide +kernel
theorem dX10_goOn_46 : decode cX10_goOn 46 = .ok (.dup, 1) := by decide +kernel
theorem dX10_goOn_47 : decode cX10_goOn 47 = .ok (.getfield 228, 3) := by decide +kernel
theorem dX10_goOn_50 : decode cX10_goOn 50 = .ok (.iconst 1, 1) := by decide +kernel
theorem dX10_goOn_51 : decode cX10_goOn 51 = .ok (.iadd, 1) := by decide +kernel
theorem dX10_goOn_52 : decode cX10_goOn 52 = .ok (.putfield 228, 3) := by decide +kernel
theorem dX10_goOn_55 : decode cX10_goOn 55 = .ok (.goto (-47), 3) := by decide +kernel
theorem dX10_goOn_58 : decode cX10_goOn 58 = .ok (.aload_n 0, 1) := by decide +kernel
theorem dX10_goOn_59 : decode cX10_goOn 59 = .ok (.aload_n 0, 1) := by decide +kernel
theorem dX10_goOn_60 : decode cX10_goOn 60 = .ok (.getfield 228, 3) := by decide +kernel
theorem dX10_goOn_63 : decode cX10_goOn 63 = .ok (.invokevirtual 231, 3) := by decide +kernel
theorem dX10_goOn_66 : decode cX10_goOn 66 = .ok (.istore_n 1, 1) := by decide +kernel
theorem dX10_goOn_67 : decode cX10_goOn 67 = .ok (.aload_n 0, 1) := by decide +kernel
theorem dX10_goOn_68 : decode cX10_goOn 68 = .ok (.aload_n 0, 1) := by decide +kernel
theorem dX10_goOn_69 : decode cX10_goOn 69 = .ok (.getfield 228, 3) := by decide +kernel
theorem dX10_goOn_72 : decode cX10_goOn 72 = .ok (.iconst 1, 1) := by decide +kernel
theorem dX10_goOn_73 : decode cX10_goOn 73 = .ok (.iadd, 1) := by decide +kernel
theorem dX10_goOn_74 : decode cX10_goOn 74 = .ok (.putfield 225, 3) := by decide +kernel
theorem dX10_goOn_77 : decode cX10_goOn 77 = .ok (.aload_n 0, 1) := by decide +kernel
theorem dX10_goOn_78 : decode cX10_goOn 78 = .ok (.getfield 228, 3) := by decide +kernel
theorem dX10_goOn_81 : decode cX10_goOn 81 = .ok (.aload_n 0, 1) := by decide +kernel
theorem dX10_goOn_82 : decode cX10_goOn 82 = .ok (.getfield 183, 3) := by decide +kernel
theorem dX10_goOn_85 : decode cX10_goOn 85 = .ok (.if_icmp .lt 27, 3) := by decide +kernel
theorem dX10_goOn_88 : decode cX10_goOn 88 = .ok (.aload_n 0, 1) := by decide +kernel
theorem dX10_goOn_89 : decode cX10_goOn 89 = .ok (.iconst 0, 1) := by decide +kernel
theorem dX10_goOn_90 : decode cX10_goOn 90 = .ok (.putfield 235, 3) := by decide +kernel
theorem dX10_goOn_93 : decode cX10_goOn 93 = .ok (.aload_n 0, 1) := by decide +kernel
theorem dX10_goOn_94 : decode cX10_goOn 94 = .ok (.aload_n 0, 1) := by decide +kernel
theorem dX10_goOn_95 : decode cX10_goOn 95 = .ok (.getfield 183, 3) := by decide +kernel
theorem dX10_goOn_98 : decode cX10_goOn 98 = .ok (.putfield 228, 3) := by decide +kernel
theorem dX10_goOn_101 : decode cX10_goOn 101 = .ok (.aload_n 0, 1) := by decide +kernel
theorem dX10_goOn_102 : decode cX10_goOn 102 = .ok (.aload_n 0, 1) := by decide +kernel
theorem dX10_goOn_103 : decode cX10_goOn 103 = .ok (.getfield 183, 3) := by decide +kernel
theorem dX10_goOn_106 : decode cX10_goOn 106 = .ok (.putfield 225, 3) := by decide +kernel
theorem dX10_goOn_109 : decode cX10_goOn 109 = .ok (.goto 268, 3) := by decide +kernel
theorem dX10_goOn_112 : decode cX10_goOn 112 = .ok (.iload_n 1, 1) := by decide +kernel
theorem dX10_goOn_113 : decode cX10_goOn 113 = .ok (.invokestatic 238, 3) := by decide +kernel
theorem dX10_goOn_116 : decode cX10_goOn 116 = .ok (.ifCond .eq 123, 3) := by decide +kernel
theorem dX10_goOn_119 : decode cX10_goOn 119 = .ok (.aload_n 0, 1) := by decide +kernel
theorem dX10_goOn_120 : decode cX10_goOn 120 = .ok (.aload_n 0, 1) := by decide +kernel
theorem dX10_goOn_121 : decode cX10_goOn 121 = .ok (.getfield 225, 3) := by decide +kernel
theorem dX10_goOn_124 : decode cX10_goOn 124 = .ok (.invokevirtual 231, 3) := by decide +kernel
theorem dX10_goOn_127 : decode cX10_goOn 127 = .ok (.invokestatic 238, 3) := by decide +kernel
theorem dX10_goOn_130 : decode cX10_goOn 130 = .ok (.ifCond .eq 16, 3) := by decide +kernel
theorem dX10_goOn_133 : decode cX10_goOn 133 = .ok (.aload_n 0, 1) := by decide +kernel
theorem dX10_goOn_134 : decode cX10_goOn 134 = .ok (.dup, 1) := by decide +kernel
theorem dX10_goOn_135 : decode cX10_goOn 135 = .ok (.getfield 225, 3) := by decide +kernel
theorem dX10_goOn_138 : decode cX10_goOn 138 = .ok (.iconst 1, 1) := by decide +kernel
theorem dX10_goOn_139 : decode cX10_goOn 139 = .ok (.iadd, 1) := by decide +kernel
theorem dX10_goOn_140 : decode cX10_goOn 140 = .ok (.putfield 225, 3) := by decide +kernel
theorem dX10_goOn_143 : decode cX10_goOn 143 = .ok (.goto (-24), 3) := by decide +kernel
theorem dX10_goOn_146 : decode cX10_goOn 146 = .ok (.aload_n 0, 1) := by decide +kernel
theorem dX10_goOn_147 : decode cX10_goOn 147 = .ok (.lconst 0, 1) := by decide +kernel
theorem dX10_goOn_148 : decode cX10_goOn 148 = .ok (.putfield 242, 3) := by decide +kernel
theorem dX10_goOn_151 : decode cX10_goOn 151 = .ok (.aload_n 0, 1) := by decide +kernel
theorem dX10_goOn_152 : decode cX10_goOn 152 = .ok (.getfield 228, 3) := by decide +kernel
theorem dX10_goOn_155 : decode cX10_goOn 155 = .ok (.istore_n 2, 1) := by decide +kernel
theorem dX10_goOn_156 : decode cX10_goOn 156 = .ok (.iload_n 2, 1) := by decide +kernel
theorem dX10_goOn_157 : decode cX10_goOn 157 = .ok (.aload_n 0, 1) := by decide +kernel
theorem dX10_goOn_158 : decode cX10_goOn 158 = .ok (.getfield 225, 3) := by decide +kernel
theorem dX10_goOn_161 : decode cX10_goOn 161 = .ok (.if_icmp .ge 38, 3) := by decide +kernel
theorem dX10_goOn_164 : decode cX10_goOn 164 = .ok (.iload_n 2, 1) := by decide +kernel
theorem dX10_goOn_165 : decode cX10_goOn 165 = .ok (.aload_n 0, 1) := by decide +kernel
theorem dX10_goOn_166 : decode cX10_goOn 166 = .ok (.getfield 228, 3) := by decide +kernel
theorem dX10_goOn_169 : decode cX10_goOn 169 = .ok (.bipush 8, 2) := by decide +kernel
theorem dX10_goOn_171 : decode cX10_goOn 171 = .ok (.iadd, 1) := by decide +kernel
theorem dX10_goOn_172 : decode cX10_goOn 172 = .ok (.if_icmp .ge 27, 3) := by decide +kernel
theorem dX10_goOn_175 : decode cX10_goOn 175 = .ok (.aload_n 0, 1) := by decide +kernel
theorem dX10_goOn_176 : decode cX10_goOn 176 = .ok (.aload_n 0, 1) := by decide +kernel
theorem dX10_goOn_177 : decode cX10_goOn 177 = .ok (.getfield 242, 3) := by decide +kernel
theorem dX10_goOn_180 : decode cX10_goOn 180 = .ok (.bipush 8, 2) := by decide +kernel
theorem dX10_goOn_182 : decode cX10_goOn 182 = .ok (.lshl, 1) := by decide +kernel
theorem dX10_goOn_183 : decode cX10_goOn 183 = .ok (.aload_n 0, 1) := by decide +kernel
theorem dX10_goOn_184 : decode cX10_goOn 184 = .ok (.iload_n 2, 1) := by decide +kernel
theorem dX10_goOn_185 : decode cX10_goOn 185 = .ok (.invokevirtual 231, 3) := by decide +kernel
theorem dX10_goOn_188 : decode cX10_goOn 188 = .ok (.i2l, 1) := by decide +kernel
theorem dX10_goOn_189 : decode cX10_goOn 189 = .ok (.lor, 1) := by decide +kernel
theorem dX10_goOn_190 : decode cX10_goOn 190 = .ok (.putfield 242, 3) := by decide +kernel
theorem dX10_goOn_193 : decode cX10_goOn 193 = .ok (.iinc 2 1, 3) := by decide +kernel
theorem dX10_goOn_196 : decode cX10_goOn 196 = .ok (.goto (-40), 3) := by decide +kernel
theorem dX10_goOn_199 : decode cX10_goOn 199 = .ok (.aload_n 0, 1) := by decide +kernel
theorem dX10_goOn_200 : decode cX10_goOn 200 = .ok (.aload_n 0, 1) := by decide +kernel
theorem dX10_goOn_201 : decode cX10_goOn 201 = .ok (.getfield 225, 3) := by decide +kernel
theorem dX10_goOn_204 : decode cX10_goOn 204 = .ok (.aload_n 0, 1) := by decide +kernel
theorem dX10_goOn_205 : decode cX10_goOn 205 = .ok (.getfield 228, 3) := by decide +kernel
theorem dX10_goOn_208 : decode cX10_goOn 208 = .ok (.isub, 1) := by decide +kernel
theorem dX10_goOn_209 : decode cX10_goOn 209 = .ok (.bipush 8, 2) := by decide +kernel
theorem dX10_goOn_211 : decode cX10_goOn 211 = .ok (.if_icmp .le 7, 3) := by decide +kernel
theorem dX10_goOn_214 : decode cX10_goOn 214 = .ok (.iconst 1, 1) := by decide +kernel
theorem dX10_goOn_215 : decode cX10_goOn 215 = .ok (.goto 18, 3) := by decide +kernel
theorem dX10_goOn_218 : decode cX10_goOn 218 = .ok (.aload_n 0, 1) := by decide +kernel
theorem dX10_goOn_219 : decode cX10_goOn 219 = .ok (.getfield 242, 3) := by decide +kernel
theorem dX10_goOn_222 : decode cX10_goOn 222 = .ok (.invokestatic 246, 3) := by decide +kernel
theorem dX10_goOn_225 : decode cX10_goOn 225 = .ok (.ifCond .eq 7, 3) := by decide +kernel
theorem dX10_goOn_228 : decode cX10_goOn 228 = .ok (.iconst 3, 1) := by decide +kernel
theorem dX10_goOn_229 : decode cX10_goOn 229 = .ok (.goto 4, 3) := by decide +kernel
theorem dX10_goOn_232 : decode cX10_goOn 232 = .ok (.iconst 2, 1) := by decide +kernel
theorem dX10_goOn_233 : decode cX10_goOn 233 = .ok (.putfield 235, 3) := by decide +kernel
theorem dX10_goOn_236 : decode cX10_goOn 236 = .ok (.goto 141, 3) := by decide +kernel
theorem dX10_goOn_239 : decode cX10_goOn 239 = .ok (.iload_n 1, 1) := by decide +kernel
theorem dX10_goOn_240 : decode cX10_goOn 240 = .ok (.invokestatic 250, 3) := by decide +kernel
theorem dX10_goOn_243 : decode cX10_goOn 243 = .ok (.ifCond .eq 118, 3) := by decide +kernel
theorem dX10_goOn_246 : decode cX10_goOn 246 = .ok (.aload_n 0, 1) := by decide +kernel
theorem dX10_goOn_247 : decode cX10_goOn 247 = .ok (.iconst 0, 1) := by decide +kernel
theorem dX10_goOn_248 : decode cX10_goOn 248 = .ok (.putfield 253, 3) := by decide +kernel
theorem dX10_goOn_251 : decode cX10_goOn 251 = .ok (.aload_n 0, 1) := by decide +kernel
theorem dX10_goOn_252 : decode cX10_goOn 252 = .ok (.aload_n 0, 1) := by decide +kernel
theorem dX10_goOn_253 : decode cX10_goOn 253 = .ok (.getfield 228, 3) := by decide +kernel
theorem dX10_goOn_256 : decode cX10_goOn 256 = .ok (.putfield 225, 3) := by decide +kernel
theorem dX10_goOn_259 : decode cX10_goOn 259 = .ok (.aload_n 0, 1) := by decide +kernel
theorem dX10_goOn_260 : decode cX10_goOn 260 = .ok (.aload_n 0, 1) := by decide +kernel
theorem dX10_goOn_261 : decode cX10_goOn 261 = .ok (.getfield 225, 3) := by decide +kernel
theorem dX10_goOn_264 : decode cX10_goOn 264 = .ok (.invokevirtual 231, 3) := by decide +kernel
theorem dX10_goOn_267 : decode cX10_goOn 267 = .ok (.invokestatic 250, 3) := by decide +kernel
theorem dX10_goOn_270 : decode cX10_goOn 270 = .ok (.ifCond .eq 52, 3) := by decide +kernel
theorem dX10_goOn_273 : decode cX10_goOn 273 = .ok (.aload_n 0, 1) := by decide +kernel
theorem dX10_goOn_274 : decode cX10_goOn 274 = .ok (.getfield 225, 3) := by decide +kernel
theorem dX10_goOn_277 : decode cX10_goOn 277 = .ok (.aload_n 0, 1) := by decide +kernel
theorem dX10_goOn_278 : decode cX10_goOn 278 = .ok (.getfield 228, 3) := by decide +kernel
theorem dX10_goOn_281 : decode cX10_goOn 281 = .ok (.isub, 1) := by decide +kernel
theorem dX10_goOn_282 : decode cX10_goOn 282 = .ok (.iconst 4, 1) := by decide +kernel
theorem dX10_goOn_283 : decode cX10_goOn 283 = .ok (.if_icmp .ge 26, 3) := by decide +kernel
theorem dX10_goOn_286 : decode cX10_goOn 286 = .ok (.aload_n 0, 1) := by decide +kernel
theorem dX10_goOn_287 : decode cX10_goOn 287 = .ok (.bipush 10, 2) := by decide +kernel
theorem dX10_goOn_289 : decode cX10_goOn 289 = .ok (.aload_n 0, 1) := by decide +kernel
theorem dX10_goOn_290 : decode cX10_goOn 290 = .ok (.getfield 253, 3) := by decide +kernel
theorem dX10_goOn_293 : decode cX10_goOn 293 = .ok (.imul, 1) := by decide +kernel
theorem dX10_goOn_294 : decode cX10_goOn 294 = .ok (.aload_n 0, 1) := by decide +kernel
theorem dX10_goOn_295 : decode cX10_goOn 295 = .ok (.aload_n 0, 1) := by decide +kernel
theorem dX10_goOn_296 : decode cX10_goOn 296 = .ok (.getfield 225, 3) := by decide +kernel
theorem dX10_goOn_299 : decode cX10_goOn 299 = .ok (.invokevirtual 231, 3) := by decide +kernel
theorem dX10_goOn_302 : decode cX10_goOn 302 = .ok (.iadd, 1) := by decide +kernel
theorem dX10_goOn_303 : decode cX10_goOn 303 = .ok (.bipush 48, 2) := by decide +kernel
theorem dX10_goOn_305 : decode cX10_goOn 305 = .ok (.isub, 1) := by decide +kernel
theorem dX10_goOn_306 : decode cX10_goOn 306 = .ok (.putfield 253, 3) := by decide +kernel
theorem dX10_goOn_309 : decode cX10_goOn 309 = .ok (.aload_n 0, 1) := by decide +kernel
theorem dX10_goOn_310 : decode cX10_goOn 310 = .ok (.dup, 1) := by decide +kernel
theorem dX10_goOn_311 : decode cX10_goOn 311 = .ok (.getfield 225, 3) := by decide +kernel
theorem dX10_goOn_314 : decode cX10_goOn 314 = .ok (.iconst 1, 1) := by decide +kernel
theorem dX10_goOn_315 : decode cX10_goOn 315 = .ok (.iadd, 1) := by decide +kernel
theorem dX10_goOn_316 : decode cX10_goOn 316 = .ok (.putfield 225, 3) := by decide +kernel
theorem dX10_goOn_319 : decode cX10_goOn 319 = .ok (.goto (-60), 3) := by decide +kernel
theorem dX10_goOn_322 : decode cX10_goOn 322 = .ok (.aload_n 0, 1) := by decide +kernel
theorem dX10_goOn_323 : decode cX10_goOn 323 = .ok (.aload_n 0, 1) := by decide +kernel
theorem dX10_goOn_324 : decode cX10_goOn 324 = .ok (.getfield 225, 3) := by decide +kernel
theorem dX10_goOn_327 : decode cX10_goOn 327 = .ok (.aload_n 0, 1) := by decide +kernel
theorem dX10_goOn_328 : decode cX10_goOn 328 = .ok (.getfield 228, 3) := by decide +kernel
theorem dX10_goOn_331 : decode cX10_goOn 331 = .ok (.isub, 1) := by decide +kernel
theorem dX10_goOn_332 : decode cX10_goOn 332 = .ok (.iconst 4, 1) := by decide +kernel
theorem dX10_goOn_333 : decode cX10_goOn 333 = .ok (.if_icmp .gt 17, 3) := by decide +kernel
theorem dX10_goOn_336 : decode cX10_goOn 336 = .ok (.aload_n 0, 1) := by decide +kernel
theorem dX10_goOn_337 : decode cX10_goOn 337 = .ok (.aload_n 0, 1) := by decide +kernel
theorem dX10_goOn_338 : decode cX10_goOn 338 = .ok (.getfield 225, 3) := by decide +kernel
theorem dX10_goOn_341 : decode cX10_goOn 341 = .ok (.invokevirtual 231, 3) := by decide +kernel
theorem dX10_goOn_344 : decode cX10_goOn 344 = .ok (.invokestatic 238, 3) := by decide +kernel
theorem dX10_goOn_347 : decode cX10_goOn 347 = .ok (.ifCond .eq 7, 3) := by decide +kernel
theorem dX10_goOn_350 : decode cX10_goOn 350 = .ok (.iconst 1, 1) := by decide +kernel
theorem dX10_goOn_351 : decode cX10_goOn 351 = .ok (.goto 4, 3) := by decide +kernel
theorem dX10_goOn_354 : decode cX10_goOn 354 = .ok (.iconst 4, 1) := by decide +kernel
theorem dX10_goOn_355 : decode cX10_goOn 355 = .ok (.putfield 235, 3) := by decide +kernel
theorem dX10_goOn_358 : decode cX10_goOn 358 = .ok (.goto 19, 3) := by decide +kernel
theorem dX10_goOn_361 : decode cX10_goOn 361 = .ok (.aload_n 0, 1) := by decide +kernel
theorem dX10_goOn_362 : decode cX10_goOn 362 = .ok (.iload_n 1, 1) := by decide +kernel
theorem dX10_goOn_363 : decode cX10_goOn 363 = .ok (.invokestatic 256, 3) := by decide +kernel
theorem dX10_goOn_366 : decode cX10_goOn 366 = .ok (.ifCond .eq 7, 3) := by decide +kernel
theorem dX10_goOn_369 : decode cX10_goOn 369 = .ok (.iconst 5, 1) := by decide +kernel
theorem dX10_goOn_370 : decode cX10_goOn 370 = .ok (.goto 4, 3) := by decide +kernel
theorem dX10_goOn_373 : decode cX10_goOn 373 = .ok (.iconst 1, 1) := by decide +kernel
theorem dX10_goOn_374 : decode cX10_goOn 374 = .ok (.putfield 235, 3) := by decide +kernel
theorem dX10_goOn_377 : decode cX10_goOn 377 = .ok (.return_, 1) := by decide +kernel
theorem dX10_layTables_0 : decode cX10_layTables 0 = .ok (.aload_n 0, 1) := by decide +kernel
theorem dX10_layTables_1 : decode cX10_layTables 1 = .ok (.getfield 20, 3) := by decide +kernel
theorem dX10_layTables_4 : decode cX10_layTables 4 = .ok (.aload_n 0, 1) := by decide +kernel
theorem dX10_layTables_5 : decode cX10_layTables 5 = .ok (.getfield 282, 3) := by decide +kernel
theorem dX10_layTables_8 : decode cX10_layTables 8 = .ok (.iaload, 1) := by decide +kernel
theorem dX10_layTables_9 : decode cX10_layTables 9 = .ok (.istore_n 1, 1) := by decide +kernel
theorem dX10_layTables_10 : decode cX10_layTables 10 = .ok (.bipush 6, 2) := by decide +kernel
theorem dX10_layTables_12 : decode cX10_layTables 12 = .ok (.aload_n 0, 1) := by decide +kernel
theorem dX10_layTables_13 : decode cX10_layTables 13 = .ok (.getfield 282, 3) := by decide +kernel
theorem dX10_layTables_16 : decode cX10_layTables 16 = .ok (.imul, 1) := by decide +kernel
theorem dX10_layTables_17 : decode cX10_layTables 17 = .ok (.istore_n 2, 1) := by decide +kernel
theorem dX10_layTables_18 : decode cX10_layTables 18 = .ok (.iload_n 2, 1) := by decide +kernel
theorem dX10_layTables_19 : decode cX10_layTables 19 = .ok (.bipush 6, 2) := by decide +kernel
theorem dX10_layTables_21 : decode cX10_layTables 21 = .ok (.aload_n 0, 1) := by decide +kernel
theorem dX10_layTables_22 : decode cX10_layTables 22 = .ok (.getfield 282, 3) := by decide +kernel
theorem dX10_layTables_25 : decode cX10_layTables 25 = .ok (.imul, 1) := by decide +kernel
theorem dX10_layTables_26 : decode cX10_layTables 26 = .ok (.aload_n 0, 1) := by decide +kernel
theorem dX10_layTables_27 : decode cX10_layTables 27 = .ok (.getfield 27, 3) := by decide +kernel
theorem dX10_layTables_30 : decode cX10_layTables 30 = .ok (.aload_n 0, 1) := by decide +kernel
theorem dX10_layTables_31 : decode cX10_layTables 31 = .ok (.getfield 282, 3) := by decide +kernel
theorem dX10_layTables_34 : decode cX10_layTables 34 = .ok (.iaload, 1) := by decide +kernel
theorem dX10_layTables_35 : decode cX10_layTables 35 = .ok (.iadd, 1) := by decide +kernel
theorem dX10_layTables_36 : decode cX10_layTables 36 = .ok (.if_icmp .ge 84, 3) := by decide +kernel
theorem dX10_layTables_39 : decode cX10_layTables 39 = .ok (.iconst 0, 1) := by decide +kernel
theorem dX10_layTables_40 : decode cX10_layTables 40 = .ok (.istore_n 3, 1) := by decide +kernel
theorem dX10_layTables_41 : decode cX10_layTables 41 = .ok (.iload_n 3, 1) := by decide +kernel
theorem dX10_layTables_42 : decode cX10_layTables 42 = .ok (.iload_n 1, 1) := by decide +kernel
theorem dX10_layTables_43 : decode cX10_layTables 43 = .ok (.if_icmp .ge 71, 3) := by decide +kernel
theorem dX10_layTables_46 : decode cX10_layTables 46 = .ok (.iconst 0, 1) := by decide +kernel
theorem dX10_layTables_47 : decode cX10_layTables 47 = .ok (.istore 4, 2) := by decide +kernel
theorem dX10_layTables_49 : decode cX10_layTables 49 = .ok (.iload 4, 2) := by decide +kernel
theorem dX10_layTables_51 : decode cX10_layTables 51 = .ok (.iload_n 1, 1) := by decide +kernel
theorem dX10_layTables_52 : decode cX10_layTables 52 = .ok (.if_icmp .ge 56, 3) := by decide +kernel
theorem dX10_layTables_55 : decode cX10_layTables 55 = .ok (.iconst 0, 1) := by decide +kernel
theorem dX10_layTables_56 : decode cX10_layTables 56 = .ok (.istore 5, 2) := by decide +kernel
theorem dX10_layTables_58 : decode cX10_layTables 58 = .ok (.iload 5, 2) := by decide +kernel
theorem dX10_layTables_60 : decode cX10_layTables 60 = .ok (.iload_n 1, 1) := by decide +kernel
theorem dX10_layTables_61 : decode cX10_layTables 61 = .ok (.if_icmp .ge 41, 3) := by decide +kernel
theorem dX10_layTables_64 : decode cX10_layTables 64 = .ok (.aload_n 0, 1) := by decide +kernel
theorem dX10_layTables_65 : decode cX10_layTables 65 = .ok (.getfield 45, 3) := by decide +kernel
theorem dX10_layTables_68 : decode cX10_layTables 68 = .ok (.bipush 64, 2) := by decide +kernel
theorem dX10_layTables_70 : decode cX10_layTables 70 = .ok (.iload_n 2, 1) := by decide +kernel
theorem dX10_layTables_71 : decode cX10_layTables 71 = .ok (.imul, 1) := by decide +kernel
theorem dX10_layTables_72 : decode cX10_layTables 72 = .ok (.bipush 16, 2) := by decide +kernel
theorem dX10_layTables_74 : decode cX10_layTables 74 = .ok (.iload_n 3, 1) := by decide +kernel
theorem dX10_layTables_75 : decode cX10_layTables 75 = .ok (.imul, 1) := by decide +kernel
theorem dX10_layTables_76 : decode cX10_layTables 76 = .ok (.iadd, 1) := by decide +kernel
theorem dX10_layTables_77 : decode cX10_layTables 77 = .ok (.iconst 4, 1) := by decide +kernel
theorem dX10_layTables_78 : decode cX10_layTables 78 = .ok (.iload 4, 2) := by decide +kernel
theorem dX10_layTables_80 : decode cX10_layTables 80 = .ok (.imul, 1) := by decide +kernel
theorem dX10_layTables_81 : decode cX10_layTables 81 = .ok (.iadd, 1) := by decide +kernel
theorem dX10_layTables_82 : decode cX10_layTables 82 = .ok (.iload 5, 2) := by decide +kernel
theorem dX10_layTables_84 : decode cX10_layTables 84 = .ok (.iadd, 1) := by decide +kernel
theorem dX10_layTables_85 : decode cX10_layTables 85 = .ok (.aload_n 0, 1) := by decide +kernel
theorem dX10_layTables_86 : decode cX10_layTables 86 = .ok (.iload_n 2, 1) := by decide +kernel
theorem dX10_layTables_87 : decode cX10_layTables 87 = .ok (.iload_n 3, 1) := by decide +kernel
theorem dX10_layTables_88 : decode cX10_layTables 88 = .ok (.iload 4, 2) := by decide +kernel
theorem dX10_layTables_90 : decode cX10_layTables 90 = .ok (.iload 5, 2) := by decide +kernel
theorem dX10_layTables_92 : decode cX10_layTables 92 = .ok (.invokevirtual 371, 3) := by decide +kernel
theorem dX10_layTables_95 : decode cX10_layTables 95 = .ok (.iastore, 1) := by decide +kernel
theorem dX10_layTables_96 : decode cX10_layTables 96 = .ok (.iinc 5 1, 3) := by decide +kernel
theorem dX10_layTables_99 : decode cX10_layTables 99 = .ok (.goto (-41), 3) := by decide +kernel
theorem dX10_layTables_102 : decode cX10_layTables 102 = .ok (.iinc 4 1, 3) := by decide +kernel
theorem dX10_layTables_105 : decode cX10_layTables 105 = .ok (.goto (-56), 3) := by decide +kernel
theorem dX10_layTables_108 : decode cX10_layTables 108 = .ok (.iinc 3 1, 3) := by decide +kernel
theorem dX10_layTables_111 : decode cX10_layTables 111 = .ok (.goto (-70), 3) := by decide +kernel
theorem dX10_layTables_114 : decode cX10_layTables 114 = .ok (.iinc 2 1, 3) := by decide +kernel
theorem dX10_layTables_117 : decode cX10_layTables 117 = .ok (.goto (-99), 3) := by decide +kernel
theorem dX10_layTables_120 : decode cX10_layTables 120 = .ok (.return_, 1) := by decide +kernel
theorem dX10_drill_0 : decode cX10_drill 0 = .ok (.aload_n 0, 1) := by decide +kernel
theorem dX10_drill_1 : decode cX10_drill 1 = .ok (.iconst 0, 1) := by decide +kernel
theorem dX10_drill_2 : decode cX10_drill 2 = .ok (.putfield 186, 3) := by decide +kernel
theorem dX10_drill_5 : decode cX10_drill 5 = .ok (.aload_n 0, 1) := by decide +kernel
theorem dX10_drill_6 : decode cX10_drill 6 = .ok (.iconst (-1), 1) := by decide +kernel
theorem dX10_drill_7 : decode cX10_drill 7 = .ok (.putfield 16, 3) := by decide +kernel
theorem dX10_drill_10 : decode cX10_drill 10 = .ok (.aload_n 0, 1) := by decide +kernel
theorem dX10_drill_11 : decode cX10_drill 11 = .ok (.aload_n 0, 1) := by decide +kernel
theorem dX10_drill_12 : decode cX10_drill 12 = .ok (.getfield 279, 3) := by decide +kernel
theorem dX10_drill_15 : decode cX10_drill 15 = .ok (.putfield 183, 3) := by decide +kernel
theorem dX10_drill_18 : decode cX10_drill 18 = .ok (.iconst 0, 1) := by decide +kernel
theorem dX10_drill_19 : decode cX10_drill 19 = .ok (.istore_n 1, 1) := by decide +kernel
theorem dX10_drill_20 : decode cX10_drill 20 = .ok (.iload_n 1, 1) := by decide +kernel
theorem dX10_drill_21 : decode cX10_drill 21 = .ok (.aload_n 0, 1) := by decide +kernel
theorem dX10_drill_22 : decode cX10_drill 22 = .ok (.getfield 183, 3) := by decide +kernel
theorem dX10_drill_25 : decode cX10_drill 25 = .ok (.if_icmp .ge 21, 3) := by decide +kernel
theorem dX10_drill_28 : decode cX10_drill 28 = .ok (.aload_n 0, 1) := by decide +kernel
theorem dX10_drill_29 : decode cX10_drill 29 = .ok (.getfield 13, 3) := by decide +kernel
theorem dX10_drill_32 : decode cX10_drill 32 = .ok (.iload_n 1, 1) := by decide +kernel
theorem dX10_drill_33 : decode cX10_drill 33 = .ok (.aload_n 0, 1) := by decide +kernel
theorem dX10_drill_34 : decode cX10_drill 34 = .ok (.getfield 7, 3) := by decide +kernel
theorem dX10_drill_37 : decode cX10_drill 37 = .ok (.iload_n 1, 1) := by decide +kernel
theorem dX10_drill_38 : decode cX10_drill 38 = .ok (.baload, 1) := by decide +kernel
theorem dX10_drill_39 : decode cX10_drill 39 = .ok (.bastore, 1) := by decide +kernel
theorem dX10_drill_40 : decode cX10_drill 40 = .ok (.iinc 1 1, 3) := by decide +kernel
theorem dX10_drill_43 : decode cX10_drill 43 = .ok (.goto (-23), 3) := by decide +kernel
theorem dX10_drill_46 : decode cX10_drill 46 = .ok (.aload_n 0, 1) := by decide +kernel
theorem dX10_drill_47 : decode cX10_drill 47 = .ok (.iconst 0, 1) := by decide +kernel
theorem dX10_drill_48 : decode cX10_drill 48 = .ok (.putfield 279, 3) := by decide +kernel
theorem dX10_drill_51 : decode cX10_drill 51 = .ok (.aload_n 0, 1) := by decide +kernel
theorem dX10_drill_52 : decode cX10_drill 52 = .ok (.iconst 0, 1) := by decide +kernel
theorem dX10_drill_53 : decode cX10_drill 53 = .ok (.putfield 225, 3) := by decide +kernel
theorem dX10_drill_56 : decode cX10_drill 56 = .ok (.aload_n 0, 1) := by decide +kernel
theorem dX10_drill_57 : decode cX10_drill 57 = .ok (.iconst 1, 1) := by decide +kernel
theorem dX10_drill_58 : decode cX10_drill 58 = .ok (.aload_n 0, 1) := by decide +kernel
theorem dX10_drill_59 : decode cX10_drill 59 = .ok (.getfield 282, 3) := by decide +kernel
theorem dX10_drill_62 : decode cX10_drill 62 = .ok (.isub, 1) := by decide +kernel
theorem dX10_drill_63 : decode cX10_drill 63 = .ok (.putfield 273, 3) := by decide +kernel
theorem dX10_drill_66 : decode cX10_drill 66 = .ok (.aload_n 0, 1) := by decide +kernel
theorem dX10_drill_67 : decode cX10_drill 67 = .ok (.invokevirtual 177, 3) := by decide +kernel
theorem dX10_drill_70 : decode cX10_drill 70 = .ok (.aload_n 0, 1) := by decide +kernel
theorem dX10_drill_71 : decode cX10_drill 71 = .ok (.invokevirtual 267, 3) := by decide +kernel
theorem dX10_drill_74 : decode cX10_drill 74 = .ok (.aload_n 0, 1) := by decide +kernel
theorem dX10_drill_75 : decode cX10_drill 75 = .ok (.invokevirtual 263, 3) := by decide +kernel
theorem dX10_drill_78 : decode cX10_drill 78 = .ok (.ifCond .eq 17, 3) := by decide +kernel
theorem dX10_drill_81 : decode cX10_drill 81 = .ok (.aload_n 0, 1) := by decide +kernel
theorem dX10_drill_82 : decode cX10_drill 82 = .ok (.getfield 235, 3) := by decide +kernel
theorem dX10_drill_85 : decode cX10_drill 85 = .ok (.ifCond .eq 10, 3) := by decide +kernel
theorem dX10_drill_88 : decode cX10_drill 88 = .ok (.aload_n 0, 1) := by decide +kernel
theorem dX10_drill_89 : decode cX10_drill 89 = .ok (.invokevirtual 285, 3) := by decide +kernel
theorem dX10_drill_92 : decode cX10_drill 92 = .ok (.goto (-18), 3) := by decide +kernel
theorem dX10_drill_95 : decode cX10_drill 95 = .ok (.aload_n 0, 1) := by decide +kernel
theorem dX10_drill_96 : decode cX10_drill 96 = .ok (.invokevirtual 263, 3) := by decide +kernel
theorem dX10_drill_99 : decode cX10_drill 99 = .ok (.ifCond .ne 5, 3) := by decide +kernel
theorem dX10_drill_102 : decode cX10_drill 102 = .ok (.iconst (-1), 1) := by decide +kernel
theorem dX10_drill_103 : decode cX10_drill 103 = .ok (.ireturn, 1) := by decide +kernel
theorem dX10_drill_104 : decode cX10_drill 104 = .ok (.aload_n 0, 1) := by decide +kernel
theorem dX10_drill_105 : decode cX10_drill 105 = .ok (.aload_n 0, 1) := by decide +kernel
theorem dX10_drill_106 : decode cX10_drill 106 = .ok (.getfield 273, 3) := by decide +kernel
theorem dX10_drill_109 : decode cX10_drill 109 = .ok (.putfield 282, 3) := by decide +kernel
theorem dX10_drill_112 : decode cX10_drill 112 = .ok (.aload_n 0, 1) := by decide +kernel
theorem dX10_drill_113 : decode cX10_drill 113 = .ok (.invokevirtual 288, 3) := by decide +kernel
theorem dX10_drill_116 : decode cX10_drill 116 = .ok (.aload_n 0, 1) := by decide +kernel
theorem dX10_drill_117 : decode cX10_drill 117 = .ok (.invokevirtual 180, 3) := by decide +kernel
theorem dX10_drill_120 : decode cX10_drill 120 = .ok (.aload_n 0, 1) := by decide +kernel
theorem dX10_drill_121 : decode cX10_drill 121 = .ok (.iconst 0, 1) := by decide +kernel
theorem dX10_drill_122 : decode cX10_drill 122 = .ok (.putfield 291, 3) := by decide +kernel
theorem dX10_drill_125 : decode cX10_drill 125 = .ok (.aload_n 0, 1) := by decide +kernel
theorem dX10_drill_126 : decode cX10_drill 126 = .ok (.iconst 0, 1) := by decide +kernel
theorem dX10_drill_127 : decode cX10_drill 127 = .ok (.putfield 294, 3) := by decide +kernel
theorem dX10_drill_130 : decode cX10_drill 130 = .ok (.aload_n 0, 1) := by decide +kernel
theorem dX10_drill_131 : decode cX10_drill 131 = .ok (.iconst 0, 1) := by decide +kernel
theorem dX10_drill_132 : decode cX10_drill 132 = .ok (.putfield 297, 3) := by decide +kernel
theorem dX10_drill_135 : decode cX10_drill 135 = .ok (.iconst 0, 1) := by decide +kernel
theorem dX10_drill_136 : decode cX10_drill 136 = .ok (.istore_n 1, 1) := by decide +kernel
theorem dX10_drill_137 : decode cX10_drill 137 = .ok (.iload_n 1, 1) := by decide +kernel
theorem dX10_drill_138 : decode cX10_drill 138 = .ok (.iconst 3, 1) := by decide +kernel
theorem dX10_drill_139 : decode cX10_drill 139 = .ok (.if_icmp .ge 16, 3) := by decide +kernel
theorem dX10_drill_142 : decode cX10_drill 142 = .ok (.aload_n 0, 1) := by decide +kernel
theorem dX10_drill_143 : decode cX10_drill 143 = .ok (.getfield 171, 3) := by decide +kernel
theorem dX10_drill_146 : decode cX10_drill 146 = .ok (.iload_n 1, 1) := by decide +kernel
theorem dX10_drill_147 : decode cX10_drill 147 = .ok (.iconst (-1), 1) := by decide +kernel
theorem dX10_drill_148 : decode cX10_drill 148 = .ok (.iastore, 1) := by decide +kernel
theorem dX10_drill_149 : decode cX10_drill 149 = .ok (.iinc 1 1, 3) := by decide +kernel
theorem dX10_drill_152 : decode cX10_drill 152 = .ok (.goto (-15), 3) := by decide +kernel
theorem dX10_drill_155 : decode cX10_drill 155 = .ok (.aload_n 0, 1) := by decide +kernel
theorem dX10_drill_156 : decode cX10_drill 156 = .ok (.getfield 24, 3) := by decide +kernel
theorem dX10_drill_159 : decode cX10_drill 159 = .ok (.aload_n 0, 1) := by decide +kernel
theorem dX10_drill_160 : decode cX10_drill 160 = .ok (.getfield 282, 3) := by decide +kernel
theorem dX10_drill_163 : decode cX10_drill 163 = .ok (.iaload, 1) := by decide +kernel
theorem dX10_drill_164 : decode cX10_drill 164 = .ok (.ireturn, 1) := by decide +kernel
set_option maxHeartbeats 4000000 in
set_option maxRecDepth 100000 in
theorem k_X10_clearBank (l : Launch) (D : va_G) (cyB cyI cyJ cyZ : ClassId) (sz : Nat) (o : Nat) (fs : List Value) (mv : Nat) (mn : Nat) (rl : Nat) (uo : Nat) (ed : Nat) (z1 : Nat) (z2 : Nat) (rg : Nat) (z4 : Nat) (z5 : Nat) (wo : Nat) (fi : Nat) (bym : Nat) (wi : Nat) (tu : Nat) (cr : Nat) (tld : Nat) (fmv : Nat → Int32) (fm : Nat → Int32) (fr : Nat → Int32) (fuo : Nat → Int32) (fed : Nat → Int32) (fz1 : Nat → Int32) (fz2 : Nat → Int32) (frg : Nat → Int32) (fz4 : Nat → Int32) (fz5 : Nat → Int32) (fwo : Nat → Int32) (ffi : Nat → Int32) (fby : Nat → Int32) (fwi : Nat → Int32) (ftu : Nat → Int32) (fcr : Nat → Int32) (fto : Nat → Int32) (hl_fs : fs.length = 80) (h_fs_11 : fs[11]? = some (.ref mv)) (h_fs_12 : fs[12]? = some (.ref mn)) (h_fs_13 : fs[13]? = some (.ref rl)) (h_fs_14 : fs[14]? = some (.ref uo)) (h_fs_15 : fs[15]? = some (.ref ed)) (h_fs_23 : fs[23]? = some (.ref z1)) (h_fs_24 : fs[24]? = some (.ref z2)) (h_fs_25 : fs[25]? = some (.ref rg)) (h_fs_26 : fs[26]? = some (.ref z4)) (h_fs_27 : fs[27]? = some (.ref z5)) (h_fs_16 : fs[16]? = some (.ref wo)) (h_fs_20 : fs[20]? = some (.ref fi)) (h_fs_21 : fs[21]? = some (.ref bym)) (h_fs_22 : fs[22]? = some (.ref wi)) (h_fs_28 : fs[28]? = some (.ref tu)) (h_fs_29 : fs[29]? = some (.ref cr)) (h_fs_30 : fs[30]? = some (.ref tld)) (h_fs_38 : fs[38]? = some (.int 0)) : KV l yX10_clearBank cX10_clearBank 2 0 0 0 D (TYS cyB cyI cyJ cyZ) [(o, .inr (10, fs)), (mv, .inl (cyI, 2, .inl fmv)), (mn, .inl (cyI, 2, .inl fm)), (rl, .inl (cyI, 2, .inl fr)), (uo, .inl (cyI, 2, .inl fuo)), (ed, .inl (cyI, 2, .inl fed)), (z1, .inl (cyZ, 2, .inl fz1)), (z2, .inl (cyZ, 2, .inl fz2)), (rg, .inl (cyZ, 2, .inl frg)), (z4, .inl (cyZ, 2, .inl fz4)), (z5, .inl (cyZ, 2, .inl fz5)), (wo, .inl (cyI, 8, .inl fwo)), (fi, .inl (cyI, 60, .inl ffi)), (bym, .inl (cyI, 60, .inl fby)), (wi, .inl (cyI, 60, .inl fwi)), (tu, .inl (cyZ, 60, .inl ftu)), (cr, .inl (cyZ, 60, .inl fcr)), (tld, .inl (cyZ, 60, .inl fto))] sz [.ref o] (fun (u : (Nat → Int32) × (Nat → Int32) × (Nat → Int32) × (Nat → Int32) × (Nat → Int32) × (Nat → Int32) × (Nat → Int32) × (Nat → Int32) × (Nat → Int32) × (Nat → Int32) × (Nat → Int32) × (Nat → Int32) × (Nat → Int32) × (Nat → Int32) × (Nat → Int32) × (Nat → Int32) × (Nat → Int32)) => u.1 0 = 2 ∧ u.2.1 0 = 0 ∧ u.2.2.1 0 = 0 ∧ u.2.2.2.1 0 = 0 ∧ u.2.2.2.2.2.2.2.1 0 = 0) (fun (u : (Nat → Int32) × (Nat → Int32) × (Nat → Int32) × (Nat → Int32) × (Nat → Int32) × (Nat → Int32) × (Nat → Int32) × (Nat → Int32) × (Nat → Int32) × (Nat → Int32) × (Nat → Int32) × (Nat → Int32) × (Nat → Int32) × (Nat → Int32) × (Nat → Int32) × (Nat → Int32) × (Nat → Int32)) => ([(o, .inr (10, (fs.set 39 (.int 0)))), (mv, .inl (cyI, 2, .inl u.1)), (mn, .inl (cyI, 2, .inl u.2.1)), (rl, .inl (cyI, 2, .inl u.2.2.1)), (uo, .inl (cyI, 2, .inl u.2.2.2.1)), (ed, .inl (cyI, 2, .inl u.2.2.2.2.1)), (z1, .inl (cyZ, 2, .inl u.2.2.2.2.2.1)), (z2, .inl (cyZ, 2, .inl u.2.2.2.2.2.2.1)), (rg, .inl (cyZ, 2, .inl u.2.2.2.2.2.2.2.1)), (z4, .inl (cyZ, 2, .inl u.2.2.2.2.2.2.2.2.1)), (z5, .inl (cyZ, 2, .inl u.2.2.2.2.2.2.2.2.2.1)), (wo, .inl (cyI, 8, .inl u.2.2.2.2.2.2.2.2.2.2.1)), (fi, .inl (cyI, 60, .inl u.2.2.2.2.2.2.2.2.2.2.2.1)), (bym, .inl (cyI, 60, .inl u.2.2.2.2.2.2.2.2.2.2.2.2.1)), (wi, .inl (cyI, 60, .inl u.2.2.2.2.2.2.2.2.2.2.2.2.2.1)), (tu, .inl (cyZ, 60, .inl u.2.2.2.2.2.2.2.2.2.2.2.2.2.2.1)), (cr, .inl (cyZ, 60, .inl u.2.2.2.2.2.2.2.2.2.2.2.2.2.2.2.1)), (tld, .inl (cyZ, 60, .inl u.2.2.2.2.2.2.2.2.2.2.2.2.2.2.2.2))] : va_W)) := by
  refine entV (by decide) (Nat.le_of_ble_eq_true rfl) ?_
  intro p e s m below meth c ls A hC hl hP hK hD hA
  obtain ⟨hx, hb, hr, hml, hown, hts, hlk, hnm⟩ := id hC
  have hS : va_S A s.heap s.heap [] := va_S.rf
  have hl : lv_has ls 2 [(0, .ref o)] := hl
  generalize hHe : s.heap = H at hP ⊢
  rw [hHe] at hS
  have hS : va_S A s.heap H [] := by rw [hHe]; exact hS
  refine lv_aload_n hx hb dX10_clearBank_0 rfl (lv_at hl 0 rfl) ?_
  refine gf hC hK hP iX10 0 rfl rfl 11 (by decide) mw_fieldLink_RX10_20_MirrorDrillModel_moves_I h_fs_11 dX10_clearBank_1 ?_
  refine lv_aload_n hx hb dX10_clearBank_4 rfl (lv_at hl 0 rfl) ?_
  refine gf hC hK hP iX10 0 rfl rfl 38 (by decide) mw_fieldLink_RX10_273_MirrorDrillModel_rb_I h_fs_38 dX10_clearBank_5 ?_
  refine lv_iconst (v := 2) hx hb dX10_clearBank_8 (by decide) ?_
  refine va_iast hx hb hK hP hD hS 1 1 rfl rfl (vin (by decide)) dX10_clearBank_9 (fun H locs hP hD hS => ?_)
  obtain ⟨f_1, ef_1⟩ : ∃ g : Nat → Int32, g = upd fmv ((0 : Int32).toNatClampNeg) 2 := ⟨_, rfl⟩
  rw [← ef_1] at hP hD
  have hP : va_P D classes [(o, .inr (10, fs)), (mv, .inl (cyI, 2, .inl f_1)), (mn, .inl (cyI, 2, .inl fm)), (rl, .inl (cyI, 2, .inl fr)), (uo, .inl (cyI, 2, .inl fuo)), (ed, .inl (cyI, 2, .inl fed)), (z1, .inl (cyZ, 2, .inl fz1)), (z2, .inl (cyZ, 2, .inl fz2)), (rg, .inl (cyZ, 2, .inl frg)), (z4, .inl (cyZ, 2, .inl fz4)), (z5, .inl (cyZ, 2, .inl fz5)), (wo, .inl (cyI, 8, .inl fwo)), (fi, .inl (cyI, 60, .inl ffi)), (bym, .inl (cyI, 60, .inl fby)), (wi, .inl (cyI, 60, .inl fwi)), (tu, .inl (cyZ, 60, .inl ftu)), (cr, .inl (cyZ, 60, .inl fcr)), (tld, .inl (cyZ, 60, .inl fto))] H := hP
  have hD : va_D A [(o, .inr (10, fs)), (mv, .inl (cyI, 2, .inl f_1)), (mn, .inl (cyI, 2, .inl fm)), (rl, .inl (cyI, 2, .inl fr)), (uo, .inl (cyI, 2, .inl fuo)), (ed, .inl (cyI, 2, .inl fed)), (z1, .inl (cyZ, 2, .inl fz1)), (z2, .inl (cyZ, 2, .inl fz2)), (rg, .inl (cyZ, 2, .inl frg)), (z4, .inl (cyZ, 2, .inl fz4)), (z5, .inl (cyZ, 2, .inl fz5)), (wo, .inl (cyI, 8, .inl fwo)), (fi, .inl (cyI, 60, .inl ffi)), (bym, .inl (cyI, 60, .inl fby)), (wi, .inl (cyI, 60, .inl fwi)), (tu, .inl (cyZ, 60, .inl ftu)), (cr, .inl (cyZ, 60, .inl fcr)), (tld, .inl (cyZ, 60, .inl fto))] := hD
  refine lv_aload_n hx hb dX10_clearBank_10 rfl (lv_at hl 0 rfl) ?_
  refine gf hC hK hP iX10 0 rfl rfl 12 (by decide) mw_fieldLink_RX10_24_MirrorDrillModel_men_I h_fs_12 dX10_clearBank_11 ?_
  refine lv_aload_n hx hb dX10_clearBank_14 rfl (lv_at hl 0 rfl) ?_
  refine gf hC hK hP iX10 0 rfl rfl 38 (by decide) mw_fieldLink_RX10_273_MirrorDrillModel_rb_I h_fs_38 dX10_clearBank_15 ?_
  refine lv_iconst (v := 0) hx hb dX10_clearBank_18 (by decide) ?_
  refine va_iast hx hb hK hP hD hS 2 1 rfl rfl (vin (by decide)) dX10_clearBank_19 (fun H locs hP hD hS => ?_)
  obtain ⟨f_2, ef_2⟩ : ∃ g : Nat → Int32, g = upd fm ((0 : Int32).toNatClampNeg) 0 := ⟨_, rfl⟩
  rw [← ef_2] at hP hD
  have hP : va_P D classes [(o, .inr (10, fs)), (mv, .inl (cyI, 2, .inl f_1)), (mn, .inl (cyI, 2, .inl f_2)), (rl, .inl (cyI, 2, .inl fr)), (uo, .inl (cyI, 2, .inl fuo)), (ed, .inl (cyI, 2, .inl fed)), (z1, .inl (cyZ, 2, .inl fz1)), (z2, .inl (cyZ, 2, .inl fz2)), (rg, .inl (cyZ, 2, .inl frg)), (z4, .inl (cyZ, 2, .inl fz4)), (z5, .inl (cyZ, 2, .inl fz5)), (wo, .inl (cyI, 8, .inl fwo)), (fi, .inl (cyI, 60, .inl ffi)), (bym, .inl (cyI, 60, .inl fby)), (wi, .inl (cyI, 60, .inl fwi)), (tu, .inl (cyZ, 60, .inl ftu)), (cr, .inl (cyZ, 60, .inl fcr)), (tld, .inl (cyZ, 60, .inl fto))] H := hP
  have hD : va_D A [(o, .inr (10, fs)), (mv, .inl (cyI, 2, .inl f_1)), (mn, .inl (cyI, 2, .inl f_2)), (rl, .inl (cyI, 2, .inl fr)), (uo, .inl (cyI, 2, .inl fuo)), (ed, .inl (cyI, 2, .inl fed)), (z1, .inl (cyZ, 2, .inl fz1)), (z2, .inl (cyZ, 2, .inl fz2)), (rg, .inl (cyZ, 2, .inl frg)), (z4, .inl (cyZ, 2, .inl fz4)), (z5, .inl (cyZ, 2, .inl fz5)), (wo, .inl (cyI, 8, .inl fwo)), (fi, .inl (cyI, 60, .inl ffi)), (bym, .inl (cyI, 60, .inl fby)), (wi, .inl (cyI, 60, .inl fwi)), (tu, .inl (cyZ, 60, .inl ftu)), (cr, .inl (cyZ, 60, .inl fcr)), (tld, .inl (cyZ, 60, .inl fto))] := hD
  refine lv_aload_n hx hb dX10_clearBank_20 rfl (lv_at hl 0 rfl) ?_
  refine gf hC hK hP iX10 0 rfl rfl 13 (by decide) mw_fieldLink_RX10_27_MirrorDrillModel_rules_I h_fs_13 dX10_clearBank_21 ?_
  refine lv_aload_n hx hb dX10_clearBank_24 rfl (lv_at hl 0 rfl) ?_
  refine gf hC hK hP iX10 0 rfl rfl 38 (by decide) mw_fieldLink_RX10_273_MirrorDrillModel_rb_I h_fs_38 dX10_clearBank_25 ?_
  refine lv_iconst (v := 0) hx hb dX10_clearBank_28 (by decide) ?_
  refine va_iast hx hb hK hP hD hS 3 1 rfl rfl (vin (by decide)) dX10_clearBank_29 (fun H locs hP hD hS => ?_)
  obtain ⟨f_3, ef_3⟩ : ∃ g : Nat → Int32, g = upd fr ((0 : Int32).toNatClampNeg) 0 := ⟨_, rfl⟩
  rw [← ef_3] at hP hD
  have hP : va_P D classes [(o, .inr (10, fs)), (mv, .inl (cyI, 2, .inl f_1)), (mn, .inl (cyI, 2, .inl f_2)), (rl, .inl (cyI, 2, .inl f_3)), (uo, .inl (cyI, 2, .inl fuo)), (ed, .inl (cyI, 2, .inl fed)), (z1, .inl (cyZ, 2, .inl fz1)), (z2, .inl (cyZ, 2, .inl fz2)), (rg, .inl (cyZ, 2, .inl frg)), (z4, .inl (cyZ, 2, .inl fz4)), (z5, .inl (cyZ, 2, .inl fz5)), (wo, .inl (cyI, 8, .inl fwo)), (fi, .inl (cyI, 60, .inl ffi)), (bym, .inl (cyI, 60, .inl fby)), (wi, .inl (cyI, 60, .inl fwi)), (tu, .inl (cyZ, 60, .inl ftu)), (cr, .inl (cyZ, 60, .inl fcr)), (tld, .inl (cyZ, 60, .inl fto))] H := hP
  have hD : va_D A [(o, .inr (10, fs)), (mv, .inl (cyI, 2, .inl f_1)), (mn, .inl (cyI, 2, .inl f_2)), (rl, .inl (cyI, 2, .inl f_3)), (uo, .inl (cyI, 2, .inl fuo)), (ed, .inl (cyI, 2, .inl fed)), (z1, .inl (cyZ, 2, .inl fz1)), (z2, .inl (cyZ, 2, .inl fz2)), (rg, .inl (cyZ, 2, .inl frg)), (z4, .inl (cyZ, 2, .inl fz4)), (z5, .inl (cyZ, 2, .inl fz5)), (wo, .inl (cyI, 8, .inl fwo)), (fi, .inl (cyI, 60, .inl ffi)), (bym, .inl (cyI, 60, .inl fby)), (wi, .inl (cyI, 60, .inl fwi)), (tu, .inl (cyZ, 60, .inl ftu)), (cr, .inl (cyZ, 60, .inl fcr)), (tld, .inl (cyZ, 60, .inl fto))] := hD
  refine lv_aload_n hx hb dX10_clearBank_30 rfl (lv_at hl 0 rfl) ?_
  refine gf hC hK hP iX10 0 rfl rfl 14 (by decide) mw_fieldLink_RX10_30_MirrorDrillModel_unitsOf_I h_fs_14 dX10_clearBank_31 ?_
  refine lv_aload_n hx hb dX10_clearBank_34 rfl (lv_at hl 0 rfl) ?_
  refine gf hC hK hP iX10 0 rfl rfl 38 (by decide) mw_fieldLink_RX10_273_MirrorDrillModel_rb_I h_fs_38 dX10_clearBank_35 ?_
  refine lv_iconst (v := 0) hx hb dX10_clearBank_38 (by decide) ?_
  refine va_iast hx hb hK hP hD hS 4 1 rfl rfl (vin (by decide)) dX10_clearBank_39 (fun H locs hP hD hS => ?_)
  obtain ⟨f_4, ef_4⟩ : ∃ g : Nat → Int32, g = upd fuo ((0 : Int32).toNatClampNeg) 0 := ⟨_, rfl⟩
  rw [← ef_4] at hP hD
  have hP : va_P D classes [(o, .inr (10, fs)), (mv, .inl (cyI, 2, .inl f_1)), (mn, .inl (cyI, 2, .inl f_2)), (rl, .inl (cyI, 2, .inl f_3)), (uo, .inl (cyI, 2, .inl f_4)), (ed, .inl (cyI, 2, .inl fed)), (z1, .inl (cyZ, 2, .inl fz1)), (z2, .inl (cyZ, 2, .inl fz2)), (rg, .inl (cyZ, 2, .inl frg)), (z4, .inl (cyZ, 2, .inl fz4)), (z5, .inl (cyZ, 2, .inl fz5)), (wo, .inl (cyI, 8, .inl fwo)), (fi, .inl (cyI, 60, .inl ffi)), (bym, .inl (cyI, 60, .inl fby)), (wi, .inl (cyI, 60, .inl fwi)), (tu, .inl (cyZ, 60, .inl ftu)), (cr, .inl (cyZ, 60, .inl fcr)), (tld, .inl (cyZ, 60, .inl fto))] H := hP
  have hD : va_D A [(o, .inr (10, fs)), (mv, .inl (cyI, 2, .inl f_1)), (mn, .inl (cyI, 2, .inl f_2)), (rl, .inl (cyI, 2, .inl f_3)), (uo, .inl (cyI, 2, .inl f_4)), (ed, .inl (cyI, 2, .inl fed)), (z1, .inl (cyZ, 2, .inl fz1)), (z2, .inl (cyZ, 2, .inl fz2)), (rg, .inl (cyZ, 2, .inl frg)), (z4, .inl (cyZ, 2, .inl fz4)), (z5, .inl (cyZ, 2, .inl fz5)), (wo, .inl (cyI, 8, .inl fwo)), (fi, .inl (cyI, 60, .inl ffi)), (bym, .inl (cyI, 60, .inl fby)), (wi, .inl (cyI, 60, .inl fwi)), (tu, .inl (cyZ, 60, .inl ftu)), (cr, .inl (cyZ, 60, .inl fcr)), (tld, .inl (cyZ, 60, .inl fto))] := hD
  refine lv_aload_n hx hb dX10_clearBank_40 rfl (lv_at hl 0 rfl) ?_
  refine gf hC hK hP iX10 0 rfl rfl 15 (by decide) mw_fieldLink_RX10_33_MirrorDrillModel_edge_I h_fs_15 dX10_clearBank_41 ?_
  refine lv_aload_n hx hb dX10_clearBank_44 rfl (lv_at hl 0 rfl) ?_
  refine gf hC hK hP iX10 0 rfl rfl 38 (by decide) mw_fieldLink_RX10_273_MirrorDrillModel_rb_I h_fs_38 dX10_clearBank_45 ?_
  refine lv_iconst (v := 0) hx hb dX10_clearBank_48 (by decide) ?_
  refine va_iast hx hb hK hP hD hS 5 1 rfl rfl (vin (by decide)) dX10_clearBank_49 (fun H locs hP hD hS => ?_)
  obtain ⟨f_5, ef_5⟩ : ∃ g : Nat → Int32, g = upd fed ((0 : Int32).toNatClampNeg) 0 := ⟨_, rfl⟩
  rw [← ef_5] at hP hD
  have hP : va_P D classes [(o, .inr (10, fs)), (mv, .inl (cyI, 2, .inl f_1)), (mn, .inl (cyI, 2, .inl f_2)), (rl, .inl (cyI, 2, .inl f_3)), (uo, .inl (cyI, 2, .inl f_4)), (ed, .inl (cyI, 2, .inl f_5)), (z1, .inl (cyZ, 2, .inl fz1)), (z2, .inl (cyZ, 2, .inl fz2)), (rg, .inl (cyZ, 2, .inl frg)), (z4, .inl (cyZ, 2, .inl fz4)), (z5, .inl (cyZ, 2, .inl fz5)), (wo, .inl (cyI, 8, .inl fwo)), (fi, .inl (cyI, 60, .inl ffi)), (bym, .inl (cyI, 60, .inl fby)), (wi, .inl (cyI, 60, .inl fwi)), (tu, .inl (cyZ, 60, .inl ftu)), (cr, .inl (cyZ, 60, .inl fcr)), (tld, .inl (cyZ, 60, .inl fto))] H := hP
  have hD : va_D A [(o, .inr (10, fs)), (mv, .inl (cyI, 2, .inl f_1)), (mn, .inl (cyI, 2, .inl f_2)), (rl, .inl (cyI, 2, .inl f_3)), (uo, .inl (cyI, 2, .inl f_4)), (ed, .inl (cyI, 2, .inl f_5)), (z1, .inl (cyZ, 2, .inl fz1)), (z2, .inl (cyZ, 2, .inl fz2)), (rg, .inl (cyZ, 2, .inl frg)), (z4, .inl (cyZ, 2, .inl fz4)), (z5, .inl (cyZ, 2, .inl fz5)), (wo, .inl (cyI, 8, .inl fwo)), (fi, .inl (cyI, 60, .inl ffi)), (bym, .inl (cyI, 60, .inl fby)), (wi, .inl (cyI, 60, .inl fwi)), (tu, .inl (cyZ, 60, .inl ftu)), (cr, .inl (cyZ, 60, .inl fcr)), (tld, .inl (cyZ, 60, .inl fto))] := hD
  refine lv_aload_n hx hb dX10_clearBank_50 rfl (lv_at hl 0 rfl) ?_
  refine gf hC hK hP iX10 0 rfl rfl 23 (by decide) mw_fieldLink_RX10_57_MirrorDrillModel_isMoves_Z h_fs_23 dX10_clearBank_51 ?_
  refine lv_aload_n hx hb dX10_clearBank_54 rfl (lv_at hl 0 rfl) ?_
  refine gf hC hK hP iX10 0 rfl rfl 38 (by decide) mw_fieldLink_RX10_273_MirrorDrillModel_rb_I h_fs_38 dX10_clearBank_55 ?_
  refine lv_iconst (v := 0) hx hb dX10_clearBank_58 (by decide) ?_
  refine va_zast hx hb hK hP hD hS 6 3 rfl rfl (vin (by decide)) dX10_clearBank_59 (fun H locs hP hD hS => ?_)
  obtain ⟨f_6, ef_6⟩ : ∃ g : Nat → Int32, g = upd fz1 ((0 : Int32).toNatClampNeg) (vp_nar .boolean 0) := ⟨_, rfl⟩
  rw [← ef_6] at hP hD
  have hP : va_P D classes [(o, .inr (10, fs)), (mv, .inl (cyI, 2, .inl f_1)), (mn, .inl (cyI, 2, .inl f_2)), (rl, .inl (cyI, 2, .inl f_3)), (uo, .inl (cyI, 2, .inl f_4)), (ed, .inl (cyI, 2, .inl f_5)), (z1, .inl (cyZ, 2, .inl f_6)), (z2, .inl (cyZ, 2, .inl fz2)), (rg, .inl (cyZ, 2, .inl frg)), (z4, .inl (cyZ, 2, .inl fz4)), (z5, .inl (cyZ, 2, .inl fz5)), (wo, .inl (cyI, 8, .inl fwo)), (fi, .inl (cyI, 60, .inl ffi)), (bym, .inl (cyI, 60, .inl fby)), (wi, .inl (cyI, 60, .inl fwi)), (tu, .inl (cyZ, 60, .inl ftu)), (cr, .inl (cyZ, 60, .inl fcr)), (tld, .inl (cyZ, 60, .inl fto))] H := hP
  have hD : va_D A [(o, .inr (10, fs)), (mv, .inl (cyI, 2, .inl f_1)), (mn, .inl (cyI, 2, .inl f_2)), (rl, .inl (cyI, 2, .inl f_3)), (uo, .inl (cyI, 2, .inl f_4)), (ed, .inl (cyI, 2, .inl f_5)), (z1, .inl (cyZ, 2, .inl f_6)), (z2, .inl (cyZ, 2, .inl fz2)), (rg, .inl (cyZ, 2, .inl frg)), (z4, .inl (cyZ, 2, .inl fz4)), (z5, .inl (cyZ, 2, .inl fz5)), (wo, .inl (cyI, 8, .inl fwo)), (fi, .inl (cyI, 60, .inl ffi)), (bym, .inl (cyI, 60, .inl fby)), (wi, .inl (cyI, 60, .inl fwi)), (tu, .inl (cyZ, 60, .inl ftu)), (cr, .inl (cyZ, 60, .inl fcr)), (tld, .inl (cyZ, 60, .inl fto))] := hD
  refine lv_aload_n hx hb dX10_clearBank_60 rfl (lv_at hl 0 rfl) ?_
  refine gf hC hK hP iX10 0 rfl rfl 24 (by decide) mw_fieldLink_RX10_61_MirrorDrillModel_isMen_Z h_fs_24 dX10_clearBank_61 ?_
  refine lv_aload_n hx hb dX10_clearBank_64 rfl (lv_at hl 0 rfl) ?_
  refine gf hC hK hP iX10 0 rfl rfl 38 (by decide) mw_fieldLink_RX10_273_MirrorDrillModel_rb_I h_fs_38 dX10_clearBank_65 ?_
  refine lv_iconst (v := 0) hx hb dX10_clearBank_68 (by decide) ?_
  refine va_zast hx hb hK hP hD hS 7 3 rfl rfl (vin (by decide)) dX10_clearBank_69 (fun H locs hP hD hS => ?_)
  obtain ⟨f_7, ef_7⟩ : ∃ g : Nat → Int32, g = upd fz2 ((0 : Int32).toNatClampNeg) (vp_nar .boolean 0) := ⟨_, rfl⟩
  rw [← ef_7] at hP hD
  have hP : va_P D classes [(o, .inr (10, fs)), (mv, .inl (cyI, 2, .inl f_1)), (mn, .inl (cyI, 2, .inl f_2)), (rl, .inl (cyI, 2, .inl f_3)), (uo, .inl (cyI, 2, .inl f_4)), (ed, .inl (cyI, 2, .inl f_5)), (z1, .inl (cyZ, 2, .inl f_6)), (z2, .inl (cyZ, 2, .inl f_7)), (rg, .inl (cyZ, 2, .inl frg)), (z4, .inl (cyZ, 2, .inl fz4)), (z5, .inl (cyZ, 2, .inl fz5)), (wo, .inl (cyI, 8, .inl fwo)), (fi, .inl (cyI, 60, .inl ffi)), (bym, .inl (cyI, 60, .inl fby)), (wi, .inl (cyI, 60, .inl fwi)), (tu, .inl (cyZ, 60, .inl ftu)), (cr, .inl (cyZ, 60, .inl fcr)), (tld, .inl (cyZ, 60, .inl fto))] H := hP
  have hD : va_D A [(o, .inr (10, fs)), (mv, .inl (cyI, 2, .inl f_1)), (mn, .inl (cyI, 2, .inl f_2)), (rl, .inl (cyI, 2, .inl f_3)), (uo, .inl (cyI, 2, .inl f_4)), (ed, .inl (cyI, 2, .inl f_5)), (z1, .inl (cyZ, 2, .inl f_6)), (z2, .inl (cyZ, 2, .inl f_7)), (rg, .inl (cyZ, 2, .inl frg)), (z4, .inl (cyZ, 2, .inl fz4)), (z5, .inl (cyZ, 2, .inl fz5)), (wo, .inl (cyI, 8, .inl fwo)), (fi, .inl (cyI, 60, .inl ffi)), (bym, .inl (cyI, 60, .inl fby)), (wi, .inl (cyI, 60, .inl fwi)), (tu, .inl (cyZ, 60, .inl ftu)), (cr, .inl (cyZ, 60, .inl fcr)), (tld, .inl (cyZ, 60, .inl fto))] := hD
  refine lv_aload_n hx hb dX10_clearBank_70 rfl (lv_at hl 0 rfl) ?_
  refine gf hC hK hP iX10 0 rfl rfl 25 (by decide) mw_fieldLink_RX10_64_MirrorDrillModel_isRing_Z h_fs_25 dX10_clearBank_71 ?_
  refine lv_aload_n hx hb dX10_clearBank_74 rfl (lv_at hl 0 rfl) ?_
  refine gf hC hK hP iX10 0 rfl rfl 38 (by decide) mw_fieldLink_RX10_273_MirrorDrillModel_rb_I h_fs_38 dX10_clearBank_75 ?_
  refine lv_iconst (v := 0) hx hb dX10_clearBank_78 (by decide) ?_
  refine va_zast hx hb hK hP hD hS 8 3 rfl rfl (vin (by decide)) dX10_clearBank_79 (fun H locs hP hD hS => ?_)
  obtain ⟨f_8, ef_8⟩ : ∃ g : Nat → Int32, g = upd frg ((0 : Int32).toNatClampNeg) (vp_nar .boolean 0) := ⟨_, rfl⟩
  rw [← ef_8] at hP hD
  have hP : va_P D classes [(o, .inr (10, fs)), (mv, .inl (cyI, 2, .inl f_1)), (mn, .inl (cyI, 2, .inl f_2)), (rl, .inl (cyI, 2, .inl f_3)), (uo, .inl (cyI, 2, .inl f_4)), (ed, .inl (cyI, 2, .inl f_5)), (z1, .inl (cyZ, 2, .inl f_6)), (z2, .inl (cyZ, 2, .inl f_7)), (rg, .inl (cyZ, 2, .inl f_8)), (z4, .inl (cyZ, 2, .inl fz4)), (z5, .inl (cyZ, 2, .inl fz5)), (wo, .inl (cyI, 8, .inl fwo)), (fi, .inl (cyI, 60, .inl ffi)), (bym, .inl (cyI, 60, .inl fby)), (wi, .inl (cyI, 60, .inl fwi)), (tu, .inl (cyZ, 60, .inl ftu)), (cr, .inl (cyZ, 60, .inl fcr)), (tld, .inl (cyZ, 60, .inl fto))] H := hP
  have hD : va_D A [(o, .inr (10, fs)), (mv, .inl (cyI, 2, .inl f_1)), (mn, .inl (cyI, 2, .inl f_2)), (rl, .inl (cyI, 2, .inl f_3)), (uo, .inl (cyI, 2, .inl f_4)), (ed, .inl (cyI, 2, .inl f_5)), (z1, .inl (cyZ, 2, .inl f_6)), (z2, .inl (cyZ, 2, .inl f_7)), (rg, .inl (cyZ, 2, .inl f_8)), (z4, .inl (cyZ, 2, .inl fz4)), (z5, .inl (cyZ, 2, .inl fz5)), (wo, .inl (cyI, 8, .inl fwo)), (fi, .inl (cyI, 60, .inl ffi)), (bym, .inl (cyI, 60, .inl fby)), (wi, .inl (cyI, 60, .inl fwi)), (tu, .inl (cyZ, 60, .inl ftu)), (cr, .inl (cyZ, 60, .inl fcr)), (tld, .inl (cyZ, 60, .inl fto))] := hD
  refine lv_aload_n hx hb dX10_clearBank_80 rfl (lv_at hl 0 rfl) ?_
  refine gf hC hK hP iX10 0 rfl rfl 26 (by decide) mw_fieldLink_RX10_67_MirrorDrillModel_isEdge_Z h_fs_26 dX10_clearBank_81 ?_
  refine lv_aload_n hx hb dX10_clearBank_84 rfl (lv_at hl 0 rfl) ?_
  refine gf hC hK hP iX10 0 rfl rfl 38 (by decide) mw_fieldLink_RX10_273_MirrorDrillModel_rb_I h_fs_38 dX10_clearBank_85 ?_
  refine lv_iconst (v := 0) hx hb dX10_clearBank_88 (by decide) ?_
  refine va_zast hx hb hK hP hD hS 9 3 rfl rfl (vin (by decide)) dX10_clearBank_89 (fun H locs hP hD hS => ?_)
  obtain ⟨f_9, ef_9⟩ : ∃ g : Nat → Int32, g = upd fz4 ((0 : Int32).toNatClampNeg) (vp_nar .boolean 0) := ⟨_, rfl⟩
  rw [← ef_9] at hP hD
  have hP : va_P D classes [(o, .inr (10, fs)), (mv, .inl (cyI, 2, .inl f_1)), (mn, .inl (cyI, 2, .inl f_2)), (rl, .inl (cyI, 2, .inl f_3)), (uo, .inl (cyI, 2, .inl f_4)), (ed, .inl (cyI, 2, .inl f_5)), (z1, .inl (cyZ, 2, .inl f_6)), (z2, .inl (cyZ, 2, .inl f_7)), (rg, .inl (cyZ, 2, .inl f_8)), (z4, .inl (cyZ, 2, .inl f_9)), (z5, .inl (cyZ, 2, .inl fz5)), (wo, .inl (cyI, 8, .inl fwo)), (fi, .inl (cyI, 60, .inl ffi)), (bym, .inl (cyI, 60, .inl fby)), (wi, .inl (cyI, 60, .inl fwi)), (tu, .inl (cyZ, 60, .inl ftu)), (cr, .inl (cyZ, 60, .inl fcr)), (tld, .inl (cyZ, 60, .inl fto))] H := hP
  have hD : va_D A [(o, .inr (10, fs)), (mv, .inl (cyI, 2, .inl f_1)), (mn, .inl (cyI, 2, .inl f_2)), (rl, .inl (cyI, 2, .inl f_3)), (uo, .inl (cyI, 2, .inl f_4)), (ed, .inl (cyI, 2, .inl f_5)), (z1, .inl (cyZ, 2, .inl f_6)), (z2, .inl (cyZ, 2, .inl f_7)), (rg, .inl (cyZ, 2, .inl f_8)), (z4, .inl (cyZ, 2, .inl f_9)), (z5, .inl (cyZ, 2, .inl fz5)), (wo, .inl (cyI, 8, .inl fwo)), (fi, .inl (cyI, 60, .inl ffi)), (bym, .inl (cyI, 60, .inl fby)), (wi, .inl (cyI, 60, .inl fwi)), (tu, .inl (cyZ, 60, .inl ftu)), (cr, .inl (cyZ, 60, .inl fcr)), (tld, .inl (cyZ, 60, .inl fto))] := hD
  refine lv_aload_n hx hb dX10_clearBank_90 rfl (lv_at hl 0 rfl) ?_
  refine gf hC hK hP iX10 0 rfl rfl 27 (by decide) mw_fieldLink_RX10_70_MirrorDrillModel_isWorth_Z h_fs_27 dX10_clearBank_91 ?_
  refine lv_aload_n hx hb dX10_clearBank_94 rfl (lv_at hl 0 rfl) ?_
  refine gf hC hK hP iX10 0 rfl rfl 38 (by decide) mw_fieldLink_RX10_273_MirrorDrillModel_rb_I h_fs_38 dX10_clearBank_95 ?_
  refine lv_iconst (v := 0) hx hb dX10_clearBank_98 (by decide) ?_
  refine va_zast hx hb hK hP hD hS 10 3 rfl rfl (vin (by decide)) dX10_clearBank_99 (fun H locs hP hD hS => ?_)
  obtain ⟨f_10, ef_10⟩ : ∃ g : Nat → Int32, g = upd fz5 ((0 : Int32).toNatClampNeg) (vp_nar .boolean 0) := ⟨_, rfl⟩
  rw [← ef_10] at hP hD
  have hP : va_P D classes [(o, .inr (10, fs)), (mv, .inl (cyI, 2, .inl f_1)), (mn, .inl (cyI, 2, .inl f_2)), (rl, .inl (cyI, 2, .inl f_3)), (uo, .inl (cyI, 2, .inl f_4)), (ed, .inl (cyI, 2, .inl f_5)), (z1, .inl (cyZ, 2, .inl f_6)), (z2, .inl (cyZ, 2, .inl f_7)), (rg, .inl (cyZ, 2, .inl f_8)), (z4, .inl (cyZ, 2, .inl f_9)), (z5, .inl (cyZ, 2, .inl f_10)), (wo, .inl (cyI, 8, .inl fwo)), (fi, .inl (cyI, 60, .inl ffi)), (bym, .inl (cyI, 60, .inl fby)), (wi, .inl (cyI, 60, .inl fwi)), (tu, .inl (cyZ, 60, .inl ftu)), (cr, .inl (cyZ, 60, .inl fcr)), (tld, .inl (cyZ, 60, .inl fto))] H := hP
  have hD : va_D A [(o, .inr (10, fs)), (mv, .inl (cyI, 2, .inl f_1)), (mn, .inl (cyI, 2, .inl f_2)), (rl, .inl (cyI, 2, .inl f_3)), (uo, .inl (cyI, 2, .inl f_4)), (ed, .inl (cyI, 2, .inl f_5)), (z1, .inl (cyZ, 2, .inl f_6)), (z2, .inl (cyZ, 2, .inl f_7)), (rg, .inl (cyZ, 2, .inl f_8)), (z4, .inl (cyZ, 2, .inl f_9)), (z5, .inl (cyZ, 2, .inl f_10)), (wo, .inl (cyI, 8, .inl fwo)), (fi, .inl (cyI, 60, .inl ffi)), (bym, .inl (cyI, 60, .inl fby)), (wi, .inl (cyI, 60, .inl fwi)), (tu, .inl (cyZ, 60, .inl ftu)), (cr, .inl (cyZ, 60, .inl fcr)), (tld, .inl (cyZ, 60, .inl fto))] := hD
  refine lv_aload_n hx hb dX10_clearBank_100 rfl (lv_at hl 0 rfl) ?_
  refine lv_sipush (v := 600) hx hb dX10_clearBank_101 (by decide) ?_
  refine lv_aload_n hx hb dX10_clearBank_104 rfl (lv_at hl 0 rfl) ?_
  refine gf hC hK hP iX10 0 rfl rfl 38 (by decide) mw_fieldLink_RX10_273_MirrorDrillModel_rb_I h_fs_38 dX10_clearBank_105 ?_
  refine lv_imul hx hb dX10_clearBank_108 ?_
  refine lv_cst (v := 0) (by decide) ?_
  refine pf (v := .int 0) hC hK hP hD hS iX10 tyX10_ok nmX10 0 rfl rfl 39 (by decide) mw_fieldLink_RX10_276_MirrorDrillModel_codes_I rfl rfl rfl (ln_lt hl_fs (by decide)) dX10_clearBank_109 (fun H locs hP hD hS => ?_)
  have hP : va_P D classes [(o, .inr (10, (fs.set 39 (.int 0)))), (mv, .inl (cyI, 2, .inl f_1)), (mn, .inl (cyI, 2, .inl f_2)), (rl, .inl (cyI, 2, .inl f_3)), (uo, .inl (cyI, 2, .inl f_4)), (ed, .inl (cyI, 2, .inl f_5)), (z1, .inl (cyZ, 2, .inl f_6)), (z2, .inl (cyZ, 2, .inl f_7)), (rg, .inl (cyZ, 2, .inl f_8)), (z4, .inl (cyZ, 2, .inl f_9)), (z5, .inl (cyZ, 2, .inl f_10)), (wo, .inl (cyI, 8, .inl fwo)), (fi, .inl (cyI, 60, .inl ffi)), (bym, .inl (cyI, 60, .inl fby)), (wi, .inl (cyI, 60, .inl fwi)), (tu, .inl (cyZ, 60, .inl ftu)), (cr, .inl (cyZ, 60, .inl fcr)), (tld, .inl (cyZ, 60, .inl fto))] H := hP
  have hD : va_D A [(o, .inr (10, (fs.set 39 (.int 0)))), (mv, .inl (cyI, 2, .inl f_1)), (mn, .inl (cyI, 2, .inl f_2)), (rl, .inl (cyI, 2, .inl f_3)), (uo, .inl (cyI, 2, .inl f_4)), (ed, .inl (cyI, 2, .inl f_5)), (z1, .inl (cyZ, 2, .inl f_6)), (z2, .inl (cyZ, 2, .inl f_7)), (rg, .inl (cyZ, 2, .inl f_8)), (z4, .inl (cyZ, 2, .inl f_9)), (z5, .inl (cyZ, 2, .inl f_10)), (wo, .inl (cyI, 8, .inl fwo)), (fi, .inl (cyI, 60, .inl ffi)), (bym, .inl (cyI, 60, .inl fby)), (wi, .inl (cyI, 60, .inl fwi)), (tu, .inl (cyZ, 60, .inl ftu)), (cr, .inl (cyZ, 60, .inl fcr)), (tld, .inl (cyZ, 60, .inl fto))] := hD
  refine lv_iconst (v := 0) hx hb dX10_clearBank_112 (by decide) ?_
  refine lv_istore_n (lv' := [(1, .int 0), (0, .ref o)]) hx hb dX10_clearBank_113 rfl hl (by decide) rfl (fun ls hl => ?_)
  refine lv_iload_n hx hb dX10_clearBank_114 rfl (lv_at hl 0 rfl) ?_
  refine lv_iconst (v := 4) hx hb dX10_clearBank_115 (by decide) ?_
  refine lv_icmp_ge (tgt := 139) hx hb dX10_clearBank_116 (by decide) (fun c_11 => absurd c_11 (by decide)) (fun c_11 => ?_)
  refine lv_aload_n hx hb dX10_clearBank_119 rfl (lv_at hl 1 rfl) ?_
  refine gf hC hK hP iX10 0 rfl rfl 16 (by decide) mw_fieldLink_RX10_36_MirrorDrillModel_worthOf_I (gs_ne (by decide) h_fs_16) dX10_clearBank_120 ?_
  refine lv_iconst (v := 4) hx hb dX10_clearBank_123 (by decide) ?_
  refine lv_aload_n hx hb dX10_clearBank_124 rfl (lv_at hl 1 rfl) ?_
  refine gf hC hK hP iX10 0 rfl rfl 38 (by decide) mw_fieldLink_RX10_273_MirrorDrillModel_rb_I (gs_ne (by decide) h_fs_38) dX10_clearBank_125 ?_
  refine lv_imul hx hb dX10_clearBank_128 ?_
  refine lv_cst (v := 0) (by decide) ?_
  refine lv_iload_n hx hb dX10_clearBank_129 rfl (lv_at hl 0 rfl) ?_
  refine lv_iadd hx hb dX10_clearBank_130 ?_
  refine lv_cst (v := 0) (by decide) ?_
  refine lv_iload_n hx hb dX10_clearBank_131 rfl (lv_at hl 0 rfl) ?_
  refine va_iast hx hb hK hP hD hS 11 1 rfl rfl (vin (by decide)) dX10_clearBank_132 (fun H locs hP hD hS => ?_)
  obtain ⟨f_12, ef_12⟩ : ∃ g : Nat → Int32, g = upd fwo ((0 : Int32).toNatClampNeg) 0 := ⟨_, rfl⟩
  rw [← ef_12] at hP hD
  have hP : va_P D classes [(o, .inr (10, (fs.set 39 (.int 0)))), (mv, .inl (cyI, 2, .inl f_1)), (mn, .inl (cyI, 2, .inl f_2)), (rl, .inl (cyI, 2, .inl f_3)), (uo, .inl (cyI, 2, .inl f_4)), (ed, .inl (cyI, 2, .inl f_5)), (z1, .inl (cyZ, 2, .inl f_6)), (z2, .inl (cyZ, 2, .inl f_7)), (rg, .inl (cyZ, 2, .inl f_8)), (z4, .inl (cyZ, 2, .inl f_9)), (z5, .inl (cyZ, 2, .inl f_10)), (wo, .inl (cyI, 8, .inl f_12)), (fi, .inl (cyI, 60, .inl ffi)), (bym, .inl (cyI, 60, .inl fby)), (wi, .inl (cyI, 60, .inl fwi)), (tu, .inl (cyZ, 60, .inl ftu)), (cr, .inl (cyZ, 60, .inl fcr)), (tld, .inl (cyZ, 60, .inl fto))] H := hP
  have hD : va_D A [(o, .inr (10, (fs.set 39 (.int 0)))), (mv, .inl (cyI, 2, .inl f_1)), (mn, .inl (cyI, 2, .inl f_2)), (rl, .inl (cyI, 2, .inl f_3)), (uo, .inl (cyI, 2, .inl f_4)), (ed, .inl (cyI, 2, .inl f_5)), (z1, .inl (cyZ, 2, .inl f_6)), (z2, .inl (cyZ, 2, .inl f_7)), (rg, .inl (cyZ, 2, .inl f_8)), (z4, .inl (cyZ, 2, .inl f_9)), (z5, .inl (cyZ, 2, .inl f_10)), (wo, .inl (cyI, 8, .inl f_12)), (fi, .inl (cyI, 60, .inl ffi)), (bym, .inl (cyI, 60, .inl fby)), (wi, .inl (cyI, 60, .inl fwi)), (tu, .inl (cyZ, 60, .inl ftu)), (cr, .inl (cyZ, 60, .inl fcr)), (tld, .inl (cyZ, 60, .inl fto))] := hD
  refine lv_iinc (v := 1) (lv' := [(1, .int 1), (0, .ref o)]) hx hb dX10_clearBank_133 hl (k := 0) rfl (by decide) (by decide) rfl (fun ls hl => ?_)
  refine lv_goto (tgt := 114) hx hb dX10_clearBank_136 (by decide) ?_
  refine lv_iload_n hx hb dX10_clearBank_114 rfl (lv_at hl 0 rfl) ?_
  refine lv_iconst (v := 4) hx hb dX10_clearBank_115 (by decide) ?_
  refine lv_icmp_ge (tgt := 139) hx hb dX10_clearBank_116 (by decide) (fun c_13 => absurd c_13 (by decide)) (fun c_13 => ?_)
  refine lv_aload_n hx hb dX10_clearBank_119 rfl (lv_at hl 1 rfl) ?_
  refine gf hC hK hP iX10 0 rfl rfl 16 (by decide) mw_fieldLink_RX10_36_MirrorDrillModel_worthOf_I (gs_ne (by decide) h_fs_16) dX10_clearBank_120 ?_
  refine lv_iconst (v := 4) hx hb dX10_clearBank_123 (by decide) ?_
  refine lv_aload_n hx hb dX10_clearBank_124 rfl (lv_at hl 1 rfl) ?_
  refine gf hC hK hP iX10 0 rfl rfl 38 (by decide) mw_fieldLink_RX10_273_MirrorDrillModel_rb_I (gs_ne (by decide) h_fs_38) dX10_clearBank_125 ?_
  refine lv_imul hx hb dX10_clearBank_128 ?_
  refine lv_cst (v := 0) (by decide) ?_
  refine lv_iload_n hx hb dX10_clearBank_129 rfl (lv_at hl 0 rfl) ?_
  refine lv_iadd hx hb dX10_clearBank_130 ?_
  refine lv_cst (v := 1) (by decide) ?_
  refine lv_iload_n hx hb dX10_clearBank_131 rfl (lv_at hl 0 rfl) ?_
  refine va_iast hx hb hK hP hD hS 11 1 rfl rfl (vin (by decide)) dX10_clearBank_132 (fun H locs hP hD hS => ?_)
  obtain ⟨f_14, ef_14⟩ : ∃ g : Nat → Int32, g = upd f_12 ((1 : Int32).toNatClampNeg) 1 := ⟨_, rfl⟩
  rw [← ef_14] at hP hD
  have hP : va_P D classes [(o, .inr (10, (fs.set 39 (.int 0)))), (mv, .inl (cyI, 2, .inl f_1)), (mn, .inl (cyI, 2, .inl f_2)), (rl, .inl (cyI, 2, .inl f_3)), (uo, .inl (cyI, 2, .inl f_4)), (ed, .inl (cyI, 2, .inl f_5)), (z1, .inl (cyZ, 2, .inl f_6)), (z2, .inl (cyZ, 2, .inl f_7)), (rg, .inl (cyZ, 2, .inl f_8)), (z4, .inl (cyZ, 2, .inl f_9)), (z5, .inl (cyZ, 2, .inl f_10)), (wo, .inl (cyI, 8, .inl f_14)), (fi, .inl (cyI, 60, .inl ffi)), (bym, .inl (cyI, 60, .inl fby)), (wi, .inl (cyI, 60, .inl fwi)), (tu, .inl (cyZ, 60, .inl ftu)), (cr, .inl (cyZ, 60, .inl fcr)), (tld, .inl (cyZ, 60, .inl fto))] H := hP
  have hD : va_D A [(o, .inr (10, (fs.set 39 (.int 0)))), (mv, .inl (cyI, 2, .inl f_1)), (mn, .inl (cyI, 2, .inl f_2)), (rl, .inl (cyI, 2, .inl f_3)), (uo, .inl (cyI, 2, .inl f_4)), (ed, .inl (cyI, 2, .inl f_5)), (z1, .inl (cyZ, 2, .inl f_6)), (z2, .inl (cyZ, 2, .inl f_7)), (rg, .inl (cyZ, 2, .inl f_8)), (z4, .inl (cyZ, 2, .inl f_9)), (z5, .inl (cyZ, 2, .inl f_10)), (wo, .inl (cyI, 8, .inl f_14)), (fi, .inl (cyI, 60, .inl ffi)), (bym, .inl (cyI, 60, .inl fby)), (wi, .inl (cyI, 60, .inl fwi)), (tu, .inl (cyZ, 60, .inl ftu)), (cr, .inl (cyZ, 60, .inl fcr)), (tld, .inl (cyZ, 60, .inl fto))] := hD
  refine lv_iinc (v := 2) (lv' := [(1, .int 2), (0, .ref o)]) hx hb dX10_clearBank_133 hl (k := 0) rfl (by decide) (by decide) rfl (fun ls hl => ?_)
  refine lv_goto (tgt := 114) hx hb dX10_clearBank_136 (by decide) ?_
  refine lv_iload_n hx hb dX10_clearBank_114 rfl (lv_at hl 0 rfl) ?_
  refine lv_iconst (v := 4) hx hb dX10_clearBank_115 (by decide) ?_
  refine lv_icmp_ge (tgt := 139) hx hb dX10_clearBank_116 (by decide) (fun c_15 => absurd c_15 (by decide)) (fun c_15 => ?_)
  refine lv_aload_n hx hb dX10_clearBank_119 rfl (lv_at hl 1 rfl) ?_
  refine gf hC hK hP iX10 0 rfl rfl 16 (by decide) mw_fieldLink_RX10_36_MirrorDrillModel_worthOf_I (gs_ne (by decide) h_fs_16) dX10_clearBank_120 ?_
  refine lv_iconst (v := 4) hx hb dX10_clearBank_123 (by decide) ?_
  refine lv_aload_n hx hb dX10_clearBank_124 rfl (lv_at hl 1 rfl) ?_
  refine gf hC hK hP iX10 0 rfl rfl 38 (by decide) mw_fieldLink_RX10_273_MirrorDrillModel_rb_I (gs_ne (by decide) h_fs_38) dX10_clearBank_125 ?_
  refine lv_imul hx hb dX10_clearBank_128 ?_
  refine lv_cst (v := 0) (by decide) ?_
  refine lv_iload_n hx hb dX10_clearBank_129 rfl (lv_at hl 0 rfl) ?_
  refine lv_iadd hx hb dX10_clearBank_130 ?_
  refine lv_cst (v := 2) (by decide) ?_
  refine lv_iload_n hx hb dX10_clearBank_131 rfl (lv_at hl 0 rfl) ?_
  refine va_iast hx hb hK hP hD hS 11 1 rfl rfl (vin (by decide)) dX10_clearBank_132 (fun H locs hP hD hS => ?_)
  obtain ⟨f_16, ef_16⟩ : ∃ g : Nat → Int32, g = upd f_14 ((2 : Int32).toNatClampNeg) 2 := ⟨_, rfl⟩
  rw [← ef_16] at hP hD
  have hP : va_P D classes [(o, .inr (10, (fs.set 39 (.int 0)))), (mv, .inl (cyI, 2, .inl f_1)), (mn, .inl (cyI, 2, .inl f_2)), (rl, .inl (cyI, 2, .inl f_3)), (uo, .inl (cyI, 2, .inl f_4)), (ed, .inl (cyI, 2, .inl f_5)), (z1, .inl (cyZ, 2, .inl f_6)), (z2, .inl (cyZ, 2, .inl f_7)), (rg, .inl (cyZ, 2, .inl f_8)), (z4, .inl (cyZ, 2, .inl f_9)), (z5, .inl (cyZ, 2, .inl f_10)), (wo, .inl (cyI, 8, .inl f_16)), (fi, .inl (cyI, 60, .inl ffi)), (bym, .inl (cyI, 60, .inl fby)), (wi, .inl (cyI, 60, .inl fwi)), (tu, .inl (cyZ, 60, .inl ftu)), (cr, .inl (cyZ, 60, .inl fcr)), (tld, .inl (cyZ, 60, .inl fto))] H := hP
  have hD : va_D A [(o, .inr (10, (fs.set 39 (.int 0)))), (mv, .inl (cyI, 2, .inl f_1)), (mn, .inl (cyI, 2, .inl f_2)), (rl, .inl (cyI, 2, .inl f_3)), (uo, .inl (cyI, 2, .inl f_4)), (ed, .inl (cyI, 2, .inl f_5)), (z1, .inl (cyZ, 2, .inl f_6)), (z2, .inl (cyZ, 2, .inl f_7)), (rg, .inl (cyZ, 2, .inl f_8)), (z4, .inl (cyZ, 2, .inl f_9)), (z5, .inl (cyZ, 2, .inl f_10)), (wo, .inl (cyI, 8, .inl f_16)), (fi, .inl (cyI, 60, .inl ffi)), (bym, .inl (cyI, 60, .inl fby)), (wi, .inl (cyI, 60, .inl fwi)), (tu, .inl (cyZ, 60, .inl ftu)), (cr, .inl (cyZ, 60, .inl fcr)), (tld, .inl (cyZ, 60, .inl fto))] := hD
  refine lv_iinc (v := 3) (lv' := [(1, .int 3), (0, .ref o)]) hx hb dX10_clearBank_133 hl (k := 0) rfl (by decide) (by decide) rfl (fun ls hl => ?_)
  refine lv_goto (tgt := 114) hx hb dX10_clearBank_136 (by decide) ?_
  refine lv_iload_n hx hb dX10_clearBank_114 rfl (lv_at hl 0 rfl) ?_
  refine lv_iconst (v := 4) hx hb dX10_clearBank_115 (by decide) ?_
  refine lv_icmp_ge (tgt := 139) hx hb dX10_clearBank_116 (by decide) (fun c_17 => absurd c_17 (by decide)) (fun c_17 => ?_)
  refine lv_aload_n hx hb dX10_clearBank_119 rfl (lv_at hl 1 rfl) ?_
  refine gf hC hK hP iX10 0 rfl rfl 16 (by decide) mw_fieldLink_RX10_36_MirrorDrillModel_worthOf_I (gs_ne (by decide) h_fs_16) dX10_clearBank_120 ?_
  refine lv_iconst (v := 4) hx hb dX10_clearBank_123 (by decide) ?_
  refine lv_aload_n hx hb dX10_clearBank_124 rfl (lv_at hl 1 rfl) ?_
  refine gf hC hK hP iX10 0 rfl rfl 38 (by decide) mw_fieldLink_RX10_273_MirrorDrillModel_rb_I (gs_ne (by decide) h_fs_38) dX10_clearBank_125 ?_
  refine lv_imul hx hb dX10_clearBank_128 ?_
  refine lv_cst (v := 0) (by decide) ?_
  refine lv_iload_n hx hb dX10_clearBank_129 rfl (lv_at hl 0 rfl) ?_
  refine lv_iadd hx hb dX10_clearBank_130 ?_
  refine lv_cst (v := 3) (by decide) ?_
  refine lv_iload_n hx hb dX10_clearBank_131 rfl (lv_at hl 0 rfl) ?_
  refine va_iast hx hb hK hP hD hS 11 1 rfl rfl (vin (by decide)) dX10_clearBank_132 (fun H locs hP hD hS => ?_)
  obtain ⟨f_18, ef_18⟩ : ∃ g : Nat → Int32, g = upd f_16 ((3 : Int32).toNatClampNeg) 3 := ⟨_, rfl⟩
  rw [← ef_18] at hP hD
  have hP : va_P D classes [(o, .inr (10, (fs.set 39 (.int 0)))), (mv, .inl (cyI, 2, .inl f_1)), (mn, .inl (cyI, 2, .inl f_2)), (rl, .inl (cyI, 2, .inl f_3)), (uo, .inl (cyI, 2, .inl f_4)), (ed, .inl (cyI, 2, .inl f_5)), (z1, .inl (cyZ, 2, .inl f_6)), (z2, .inl (cyZ, 2, .inl f_7)), (rg, .inl (cyZ, 2, .inl f_8)), (z4, .inl (cyZ, 2, .inl f_9)), (z5, .inl (cyZ, 2, .inl f_10)), (wo, .inl (cyI, 8, .inl f_18)), (fi, .inl (cyI, 60, .inl ffi)), (bym, .inl (cyI, 60, .inl fby)), (wi, .inl (cyI, 60, .inl fwi)), (tu, .inl (cyZ, 60, .inl ftu)), (cr, .inl (cyZ, 60, .inl fcr)), (tld, .inl (cyZ, 60, .inl fto))] H := hP
  have hD : va_D A [(o, .inr (10, (fs.set 39 (.int 0)))), (mv, .inl (cyI, 2, .inl f_1)), (mn, .inl (cyI, 2, .inl f_2)), (rl, .inl (cyI, 2, .inl f_3)), (uo, .inl (cyI, 2, .inl f_4)), (ed, .inl (cyI, 2, .inl f_5)), (z1, .inl (cyZ, 2, .inl f_6)), (z2, .inl (cyZ, 2, .inl f_7)), (rg, .inl (cyZ, 2, .inl f_8)), (z4, .inl (cyZ, 2, .inl f_9)), (z5, .inl (cyZ, 2, .inl f_10)), (wo, .inl (cyI, 8, .inl f_18)), (fi, .inl (cyI, 60, .inl ffi)), (bym, .inl (cyI, 60, .inl fby)), (wi, .inl (cyI, 60, .inl fwi)), (tu, .inl (cyZ, 60, .inl ftu)), (cr, .inl (cyZ, 60, .inl fcr)), (tld, .inl (cyZ, 60, .inl fto))] := hD
  refine lv_iinc (v := 4) (lv' := [(1, .int 4), (0, .ref o)]) hx hb dX10_clearBank_133 hl (k := 0) rfl (by decide) (by decide) rfl (fun ls hl => ?_)
  refine lv_goto (tgt := 114) hx hb dX10_clearBank_136 (by decide) ?_
  refine lv_iload_n hx hb dX10_clearBank_114 rfl (lv_at hl 0 rfl) ?_
  refine lv_iconst (v := 4) hx hb dX10_clearBank_115 (by decide) ?_
  refine lv_icmp_ge (tgt := 139) hx hb dX10_clearBank_116 (by decide) (fun c_19 => ?_) (fun c_19 => absurd (by decide) c_19)
  refine lv_bipush (v := 30) hx hb dX10_clearBank_139 (by decide) ?_
  refine lv_aload_n hx hb dX10_clearBank_141 rfl (lv_at hl 1 rfl) ?_
  refine gf hC hK hP iX10 0 rfl rfl 38 (by decide) mw_fieldLink_RX10_273_MirrorDrillModel_rb_I (gs_ne (by decide) h_fs_38) dX10_clearBank_142 ?_
  refine lv_imul hx hb dX10_clearBank_145 ?_
  refine lv_cst (v := 0) (by decide) ?_
  refine lv_istore_n (lv' := [(1, .int 0), (0, .ref o)]) hx hb dX10_clearBank_146 rfl hl (by decide) rfl (fun ls hl => ?_)
  have lp : ∀ (n i : Nat) (g0 : Nat → Int32) (g1 : Nat → Int32) (g2 : Nat → Int32) (g3 : Nat → Int32) (g4 : Nat → Int32) (g5 : Nat → Int32) (H : Heap) (locs : List Loc) (ls : Array Slot), i + n = 30 → lv_has ls 2 [(1, .int (nI i)), (0, .ref o)] → va_P D classes [(o, .inr (10, (fs.set 39 (.int 0)))), (mv, .inl (cyI, 2, .inl f_1)), (mn, .inl (cyI, 2, .inl f_2)), (rl, .inl (cyI, 2, .inl f_3)), (uo, .inl (cyI, 2, .inl f_4)), (ed, .inl (cyI, 2, .inl f_5)), (z1, .inl (cyZ, 2, .inl f_6)), (z2, .inl (cyZ, 2, .inl f_7)), (rg, .inl (cyZ, 2, .inl f_8)), (z4, .inl (cyZ, 2, .inl f_9)), (z5, .inl (cyZ, 2, .inl f_10)), (wo, .inl (cyI, 8, .inl f_18)), (fi, .inl (cyI, 60, .inl g0)), (bym, .inl (cyI, 60, .inl g1)), (wi, .inl (cyI, 60, .inl g2)), (tu, .inl (cyZ, 60, .inl g3)), (cr, .inl (cyZ, 60, .inl g4)), (tld, .inl (cyZ, 60, .inl g5))] H → va_D A [(o, .inr (10, (fs.set 39 (.int 0)))), (mv, .inl (cyI, 2, .inl f_1)), (mn, .inl (cyI, 2, .inl f_2)), (rl, .inl (cyI, 2, .inl f_3)), (uo, .inl (cyI, 2, .inl f_4)), (ed, .inl (cyI, 2, .inl f_5)), (z1, .inl (cyZ, 2, .inl f_6)), (z2, .inl (cyZ, 2, .inl f_7)), (rg, .inl (cyZ, 2, .inl f_8)), (z4, .inl (cyZ, 2, .inl f_9)), (z5, .inl (cyZ, 2, .inl f_10)), (wo, .inl (cyI, 8, .inl f_18)), (fi, .inl (cyI, 60, .inl g0)), (bym, .inl (cyI, 60, .inl g1)), (wi, .inl (cyI, 60, .inl g2)), (tu, .inl (cyZ, 60, .inl g3)), (cr, .inl (cyZ, 60, .inl g4)), (tld, .inl (cyZ, 60, .inl g5))] → va_S A s.heap H locs → W p l e (rmK 0 0 0) s m ([.ref o] : List Value).toArray below meth c H locs 0 0 (MQ below (va_Qv (fun (u : (Nat → Int32) × (Nat → Int32) × (Nat → Int32) × (Nat → Int32) × (Nat → Int32) × (Nat → Int32) × (Nat → Int32) × (Nat → Int32) × (Nat → Int32) × (Nat → Int32) × (Nat → Int32) × (Nat → Int32) × (Nat → Int32) × (Nat → Int32) × (Nat → Int32) × (Nat → Int32) × (Nat → Int32)) => u.1 0 = 2 ∧ u.2.1 0 = 0 ∧ u.2.2.1 0 = 0 ∧ u.2.2.2.1 0 = 0 ∧ u.2.2.2.2.2.2.2.1 0 = 0) (fun u => Aft D A ((fun (u : (Nat → Int32) × (Nat → Int32) × (Nat → Int32) × (Nat → Int32) × (Nat → Int32) × (Nat → Int32) × (Nat → Int32) × (Nat → Int32) × (Nat → Int32) × (Nat → Int32) × (Nat → Int32) × (Nat → Int32) × (Nat → Int32) × (Nat → Int32) × (Nat → Int32) × (Nat → Int32) × (Nat → Int32)) => ([(o, .inr (10, (fs.set 39 (.int 0)))), (mv, .inl (cyI, 2, .inl u.1)), (mn, .inl (cyI, 2, .inl u.2.1)), (rl, .inl (cyI, 2, .inl u.2.2.1)), (uo, .inl (cyI, 2, .inl u.2.2.2.1)), (ed, .inl (cyI, 2, .inl u.2.2.2.2.1)), (z1, .inl (cyZ, 2, .inl u.2.2.2.2.2.1)), (z2, .inl (cyZ, 2, .inl u.2.2.2.2.2.2.1)), (rg, .inl (cyZ, 2, .inl u.2.2.2.2.2.2.2.1)), (z4, .inl (cyZ, 2, .inl u.2.2.2.2.2.2.2.2.1)), (z5, .inl (cyZ, 2, .inl u.2.2.2.2.2.2.2.2.2.1)), (wo, .inl (cyI, 8, .inl u.2.2.2.2.2.2.2.2.2.2.1)), (fi, .inl (cyI, 60, .inl u.2.2.2.2.2.2.2.2.2.2.2.1)), (bym, .inl (cyI, 60, .inl u.2.2.2.2.2.2.2.2.2.2.2.2.1)), (wi, .inl (cyI, 60, .inl u.2.2.2.2.2.2.2.2.2.2.2.2.2.1)), (tu, .inl (cyZ, 60, .inl u.2.2.2.2.2.2.2.2.2.2.2.2.2.2.1)), (cr, .inl (cyZ, 60, .inl u.2.2.2.2.2.2.2.2.2.2.2.2.2.2.2.1)), (tld, .inl (cyZ, 60, .inl u.2.2.2.2.2.2.2.2.2.2.2.2.2.2.2.2))] : va_W)) u)) A) ([.ref o] : List Value).toArray s 0 0 A) (F0 m 147 ls []) := by
    intro n
    induction n with
    | zero =>
      intro i g0 g1 g2 g3 g4 g5 H locs ls hi hl hP hD hS
      obtain rfl : i = 30 := by omega
      refine lv_iload_n hx hb dX10_clearBank_147 rfl (lv_at hl 0 rfl) ?_
      refine lv_bipush (v := 30) hx hb dX10_clearBank_148 (by decide) ?_
      refine lv_aload_n hx hb dX10_clearBank_150 rfl (lv_at hl 1 rfl) ?_
      refine gf hC hK hP iX10 0 rfl rfl 38 (by decide) mw_fieldLink_RX10_273_MirrorDrillModel_rb_I (gs_ne (by decide) h_fs_38) dX10_clearBank_151 ?_
      refine lv_imul hx hb dX10_clearBank_154 ?_
      refine lv_cst (v := 0) (by decide) ?_
      refine lv_bipush (v := 30) hx hb dX10_clearBank_155 (by decide) ?_
      refine lv_iadd hx hb dX10_clearBank_157 ?_
      refine lv_cst (v := 30) (by decide) ?_
      refine lv_icmp_ge (tgt := 209) hx hb dX10_clearBank_158 (by decide) (fun c_20 => ?_) (fun c_20 => absurd (by decide) c_20)
      exact retV hC hP hD hS (by decide) (by decide) (f_1, f_2, f_3, f_4, f_5, f_6, f_7, f_8, f_9, f_10, f_18, g0, g1, g2, g3, g4, g5) [0, 1, 2, 3, 4, 5, 6, 7, 8, 9, 10, 11, 12, 13, 14, 15, 16, 17] rfl rfl ⟨(show f_1 0 = 2 from by rw [ef_1]; exact us_at (by decide)), (show f_2 0 = 0 from by rw [ef_2]; exact us_at (by decide)), (show f_3 0 = 0 from by rw [ef_3]; exact us_at (by decide)), (show f_4 0 = 0 from by rw [ef_4]; exact us_at (by decide)), (show f_8 0 = 0 from by rw [ef_8]; exact (us_at (by decide)).trans (by decide))⟩ dX10_clearBank_209
    | succ n ih =>
      intro i g0 g1 g2 g3 g4 g5 H locs ls hi hl hP hD hS
      have hlt : i < 30 := by omega
      refine lv_iload_n hx hb dX10_clearBank_147 rfl (lv_at hl 0 rfl) ?_
      refine lv_bipush (v := 30) hx hb dX10_clearBank_148 (by decide) ?_
      refine lv_aload_n hx hb dX10_clearBank_150 rfl (lv_at hl 1 rfl) ?_
      refine gf hC hK hP iX10 0 rfl rfl 38 (by decide) mw_fieldLink_RX10_273_MirrorDrillModel_rb_I (gs_ne (by decide) h_fs_38) dX10_clearBank_151 ?_
      refine lv_imul hx hb dX10_clearBank_154 ?_
      refine lv_cst (v := 0) (by decide) ?_
      refine lv_bipush (v := 30) hx hb dX10_clearBank_155 (by decide) ?_
      refine lv_iadd hx hb dX10_clearBank_157 ?_
      refine lv_cst (v := 30) (by decide) ?_
      refine lv_icmp_ge (tgt := 209) hx hb dX10_clearBank_158 (by decide) (fun c_21 => absurd c_21 (nI_ge (b := 30) hlt (by decide))) (fun c_21 => ?_)
      refine lv_aload_n hx hb dX10_clearBank_161 rfl (lv_at hl 1 rfl) ?_
      refine gf hC hK hP iX10 0 rfl rfl 20 (by decide) mw_fieldLink_RX10_48_MirrorDrillModel_first_I (gs_ne (by decide) h_fs_20) dX10_clearBank_162 ?_
      refine lv_iload_n hx hb dX10_clearBank_165 rfl (lv_at hl 0 rfl) ?_
      refine lv_iconst (v := 0) hx hb dX10_clearBank_166 (by decide) ?_
      refine va_iast hx hb hK hP hD hS 12 1 rfl rfl (vp_in_nI (by omega) (by decide)) dX10_clearBank_167 (fun H locs hP hD hS => ?_)
      obtain ⟨f_22, ef_22⟩ : ∃ g : Nat → Int32, g = upd g0 (((nI i) : Int32).toNatClampNeg) 0 := ⟨_, rfl⟩
      rw [← ef_22] at hP hD
      have hP : va_P D classes [(o, .inr (10, (fs.set 39 (.int 0)))), (mv, .inl (cyI, 2, .inl f_1)), (mn, .inl (cyI, 2, .inl f_2)), (rl, .inl (cyI, 2, .inl f_3)), (uo, .inl (cyI, 2, .inl f_4)), (ed, .inl (cyI, 2, .inl f_5)), (z1, .inl (cyZ, 2, .inl f_6)), (z2, .inl (cyZ, 2, .inl f_7)), (rg, .inl (cyZ, 2, .inl f_8)), (z4, .inl (cyZ, 2, .inl f_9)), (z5, .inl (cyZ, 2, .inl f_10)), (wo, .inl (cyI, 8, .inl f_18)), (fi, .inl (cyI, 60, .inl f_22)), (bym, .inl (cyI, 60, .inl g1)), (wi, .inl (cyI, 60, .inl g2)), (tu, .inl (cyZ, 60, .inl g3)), (cr, .inl (cyZ, 60, .inl g4)), (tld, .inl (cyZ, 60, .inl g5))] H := hP
      have hD : va_D A [(o, .inr (10, (fs.set 39 (.int 0)))), (mv, .inl (cyI, 2, .inl f_1)), (mn, .inl (cyI, 2, .inl f_2)), (rl, .inl (cyI, 2, .inl f_3)), (uo, .inl (cyI, 2, .inl f_4)), (ed, .inl (cyI, 2, .inl f_5)), (z1, .inl (cyZ, 2, .inl f_6)), (z2, .inl (cyZ, 2, .inl f_7)), (rg, .inl (cyZ, 2, .inl f_8)), (z4, .inl (cyZ, 2, .inl f_9)), (z5, .inl (cyZ, 2, .inl f_10)), (wo, .inl (cyI, 8, .inl f_18)), (fi, .inl (cyI, 60, .inl f_22)), (bym, .inl (cyI, 60, .inl g1)), (wi, .inl (cyI, 60, .inl g2)), (tu, .inl (cyZ, 60, .inl g3)), (cr, .inl (cyZ, 60, .inl g4)), (tld, .inl (cyZ, 60, .inl g5))] := hD
      refine lv_aload_n hx hb dX10_clearBank_168 rfl (lv_at hl 1 rfl) ?_
      refine gf hC hK hP iX10 0 rfl rfl 21 (by decide) mw_fieldLink_RX10_51_MirrorDrillModel_byRule_I (gs_ne (by decide) h_fs_21) dX10_clearBank_169 ?_
      refine lv_iload_n hx hb dX10_clearBank_172 rfl (lv_at hl 0 rfl) ?_
      refine lv_iconst (v := 0) hx hb dX10_clearBank_173 (by decide) ?_
      refine va_iast hx hb hK hP hD hS 13 1 rfl rfl (vp_in_nI (by omega) (by decide)) dX10_clearBank_174 (fun H locs hP hD hS => ?_)
      obtain ⟨f_23, ef_23⟩ : ∃ g : Nat → Int32, g = upd g1 (((nI i) : Int32).toNatClampNeg) 0 := ⟨_, rfl⟩
      rw [← ef_23] at hP hD
      have hP : va_P D classes [(o, .inr (10, (fs.set 39 (.int 0)))), (mv, .inl (cyI, 2, .inl f_1)), (mn, .inl (cyI, 2, .inl f_2)), (rl, .inl (cyI, 2, .inl f_3)), (uo, .inl (cyI, 2, .inl f_4)), (ed, .inl (cyI, 2, .inl f_5)), (z1, .inl (cyZ, 2, .inl f_6)), (z2, .inl (cyZ, 2, .inl f_7)), (rg, .inl (cyZ, 2, .inl f_8)), (z4, .inl (cyZ, 2, .inl f_9)), (z5, .inl (cyZ, 2, .inl f_10)), (wo, .inl (cyI, 8, .inl f_18)), (fi, .inl (cyI, 60, .inl f_22)), (bym, .inl (cyI, 60, .inl f_23)), (wi, .inl (cyI, 60, .inl g2)), (tu, .inl (cyZ, 60, .inl g3)), (cr, .inl (cyZ, 60, .inl g4)), (tld, .inl (cyZ, 60, .inl g5))] H := hP
      have hD : va_D A [(o, .inr (10, (fs.set 39 (.int 0)))), (mv, .inl (cyI, 2, .inl f_1)), (mn, .inl (cyI, 2, .inl f_2)), (rl, .inl (cyI, 2, .inl f_3)), (uo, .inl (cyI, 2, .inl f_4)), (ed, .inl (cyI, 2, .inl f_5)), (z1, .inl (cyZ, 2, .inl f_6)), (z2, .inl (cyZ, 2, .inl f_7)), (rg, .inl (cyZ, 2, .inl f_8)), (z4, .inl (cyZ, 2, .inl f_9)), (z5, .inl (cyZ, 2, .inl f_10)), (wo, .inl (cyI, 8, .inl f_18)), (fi, .inl (cyI, 60, .inl f_22)), (bym, .inl (cyI, 60, .inl f_23)), (wi, .inl (cyI, 60, .inl g2)), (tu, .inl (cyZ, 60, .inl g3)), (cr, .inl (cyZ, 60, .inl g4)), (tld, .inl (cyZ, 60, .inl g5))] := hD
      refine lv_aload_n hx hb dX10_clearBank_175 rfl (lv_at hl 1 rfl) ?_
      refine gf hC hK hP iX10 0 rfl rfl 22 (by decide) mw_fieldLink_RX10_54_MirrorDrillModel_window_I (gs_ne (by decide) h_fs_22) dX10_clearBank_176 ?_
      refine lv_iload_n hx hb dX10_clearBank_179 rfl (lv_at hl 0 rfl) ?_
      refine lv_iconst (v := (-1)) hx hb dX10_clearBank_180 (by decide) ?_
      refine va_iast hx hb hK hP hD hS 14 1 rfl rfl (vp_in_nI (by omega) (by decide)) dX10_clearBank_181 (fun H locs hP hD hS => ?_)
      obtain ⟨f_24, ef_24⟩ : ∃ g : Nat → Int32, g = upd g2 (((nI i) : Int32).toNatClampNeg) (-1) := ⟨_, rfl⟩
      rw [← ef_24] at hP hD
      have hP : va_P D classes [(o, .inr (10, (fs.set 39 (.int 0)))), (mv, .inl (cyI, 2, .inl f_1)), (mn, .inl (cyI, 2, .inl f_2)), (rl, .inl (cyI, 2, .inl f_3)), (uo, .inl (cyI, 2, .inl f_4)), (ed, .inl (cyI, 2, .inl f_5)), (z1, .inl (cyZ, 2, .inl f_6)), (z2, .inl (cyZ, 2, .inl f_7)), (rg, .inl (cyZ, 2, .inl f_8)), (z4, .inl (cyZ, 2, .inl f_9)), (z5, .inl (cyZ, 2, .inl f_10)), (wo, .inl (cyI, 8, .inl f_18)), (fi, .inl (cyI, 60, .inl f_22)), (bym, .inl (cyI, 60, .inl f_23)), (wi, .inl (cyI, 60, .inl f_24)), (tu, .inl (cyZ, 60, .inl g3)), (cr, .inl (cyZ, 60, .inl g4)), (tld, .inl (cyZ, 60, .inl g5))] H := hP
      have hD : va_D A [(o, .inr (10, (fs.set 39 (.int 0)))), (mv, .inl (cyI, 2, .inl f_1)), (mn, .inl (cyI, 2, .inl f_2)), (rl, .inl (cyI, 2, .inl f_3)), (uo, .inl (cyI, 2, .inl f_4)), (ed, .inl (cyI, 2, .inl f_5)), (z1, .inl (cyZ, 2, .inl f_6)), (z2, .inl (cyZ, 2, .inl f_7)), (rg, .inl (cyZ, 2, .inl f_8)), (z4, .inl (cyZ, 2, .inl f_9)), (z5, .inl (cyZ, 2, .inl f_10)), (wo, .inl (cyI, 8, .inl f_18)), (fi, .inl (cyI, 60, .inl f_22)), (bym, .inl (cyI, 60, .inl f_23)), (wi, .inl (cyI, 60, .inl f_24)), (tu, .inl (cyZ, 60, .inl g3)), (cr, .inl (cyZ, 60, .inl g4)), (tld, .inl (cyZ, 60, .inl g5))] := hD
      refine lv_aload_n hx hb dX10_clearBank_182 rfl (lv_at hl 1 rfl) ?_
      refine gf hC hK hP iX10 0 rfl rfl 28 (by decide) mw_fieldLink_RX10_73_MirrorDrillModel_isTurned_Z (gs_ne (by decide) h_fs_28) dX10_clearBank_183 ?_
      refine lv_iload_n hx hb dX10_clearBank_186 rfl (lv_at hl 0 rfl) ?_
      refine lv_iconst (v := 0) hx hb dX10_clearBank_187 (by decide) ?_
      refine va_zast hx hb hK hP hD hS 15 3 rfl rfl (vp_in_nI (by omega) (by decide)) dX10_clearBank_188 (fun H locs hP hD hS => ?_)
      obtain ⟨f_25, ef_25⟩ : ∃ g : Nat → Int32, g = upd g3 (((nI i) : Int32).toNatClampNeg) (vp_nar .boolean 0) := ⟨_, rfl⟩
      rw [← ef_25] at hP hD
      have hP : va_P D classes [(o, .inr (10, (fs.set 39 (.int 0)))), (mv, .inl (cyI, 2, .inl f_1)), (mn, .inl (cyI, 2, .inl f_2)), (rl, .inl (cyI, 2, .inl f_3)), (uo, .inl (cyI, 2, .inl f_4)), (ed, .inl (cyI, 2, .inl f_5)), (z1, .inl (cyZ, 2, .inl f_6)), (z2, .inl (cyZ, 2, .inl f_7)), (rg, .inl (cyZ, 2, .inl f_8)), (z4, .inl (cyZ, 2, .inl f_9)), (z5, .inl (cyZ, 2, .inl f_10)), (wo, .inl (cyI, 8, .inl f_18)), (fi, .inl (cyI, 60, .inl f_22)), (bym, .inl (cyI, 60, .inl f_23)), (wi, .inl (cyI, 60, .inl f_24)), (tu, .inl (cyZ, 60, .inl f_25)), (cr, .inl (cyZ, 60, .inl g4)), (tld, .inl (cyZ, 60, .inl g5))] H := hP
      have hD : va_D A [(o, .inr (10, (fs.set 39 (.int 0)))), (mv, .inl (cyI, 2, .inl f_1)), (mn, .inl (cyI, 2, .inl f_2)), (rl, .inl (cyI, 2, .inl f_3)), (uo, .inl (cyI, 2, .inl f_4)), (ed, .inl (cyI, 2, .inl f_5)), (z1, .inl (cyZ, 2, .inl f_6)), (z2, .inl (cyZ, 2, .inl f_7)), (rg, .inl (cyZ, 2, .inl f_8)), (z4, .inl (cyZ, 2, .inl f_9)), (z5, .inl (cyZ, 2, .inl f_10)), (wo, .inl (cyI, 8, .inl f_18)), (fi, .inl (cyI, 60, .inl f_22)), (bym, .inl (cyI, 60, .inl f_23)), (wi, .inl (cyI, 60, .inl f_24)), (tu, .inl (cyZ, 60, .inl f_25)), (cr, .inl (cyZ, 60, .inl g4)), (tld, .inl (cyZ, 60, .inl g5))] := hD
      refine lv_aload_n hx hb dX10_clearBank_189 rfl (lv_at hl 1 rfl) ?_
      refine gf hC hK hP iX10 0 rfl rfl 29 (by decide) mw_fieldLink_RX10_76_MirrorDrillModel_isCracked_Z (gs_ne (by decide) h_fs_29) dX10_clearBank_190 ?_
      refine lv_iload_n hx hb dX10_clearBank_193 rfl (lv_at hl 0 rfl) ?_
      refine lv_iconst (v := 0) hx hb dX10_clearBank_194 (by decide) ?_
      refine va_zast hx hb hK hP hD hS 16 3 rfl rfl (vp_in_nI (by omega) (by decide)) dX10_clearBank_195 (fun H locs hP hD hS => ?_)
      obtain ⟨f_26, ef_26⟩ : ∃ g : Nat → Int32, g = upd g4 (((nI i) : Int32).toNatClampNeg) (vp_nar .boolean 0) := ⟨_, rfl⟩
      rw [← ef_26] at hP hD
      have hP : va_P D classes [(o, .inr (10, (fs.set 39 (.int 0)))), (mv, .inl (cyI, 2, .inl f_1)), (mn, .inl (cyI, 2, .inl f_2)), (rl, .inl (cyI, 2, .inl f_3)), (uo, .inl (cyI, 2, .inl f_4)), (ed, .inl (cyI, 2, .inl f_5)), (z1, .inl (cyZ, 2, .inl f_6)), (z2, .inl (cyZ, 2, .inl f_7)), (rg, .inl (cyZ, 2, .inl f_8)), (z4, .inl (cyZ, 2, .inl f_9)), (z5, .inl (cyZ, 2, .inl f_10)), (wo, .inl (cyI, 8, .inl f_18)), (fi, .inl (cyI, 60, .inl f_22)), (bym, .inl (cyI, 60, .inl f_23)), (wi, .inl (cyI, 60, .inl f_24)), (tu, .inl (cyZ, 60, .inl f_25)), (cr, .inl (cyZ, 60, .inl f_26)), (tld, .inl (cyZ, 60, .inl g5))] H := hP
      have hD : va_D A [(o, .inr (10, (fs.set 39 (.int 0)))), (mv, .inl (cyI, 2, .inl f_1)), (mn, .inl (cyI, 2, .inl f_2)), (rl, .inl (cyI, 2, .inl f_3)), (uo, .inl (cyI, 2, .inl f_4)), (ed, .inl (cyI, 2, .inl f_5)), (z1, .inl (cyZ, 2, .inl f_6)), (z2, .inl (cyZ, 2, .inl f_7)), (rg, .inl (cyZ, 2, .inl f_8)), (z4, .inl (cyZ, 2, .inl f_9)), (z5, .inl (cyZ, 2, .inl f_10)), (wo, .inl (cyI, 8, .inl f_18)), (fi, .inl (cyI, 60, .inl f_22)), (bym, .inl (cyI, 60, .inl f_23)), (wi, .inl (cyI, 60, .inl f_24)), (tu, .inl (cyZ, 60, .inl f_25)), (cr, .inl (cyZ, 60, .inl f_26)), (tld, .inl (cyZ, 60, .inl g5))] := hD
      refine lv_aload_n hx hb dX10_clearBank_196 rfl (lv_at hl 1 rfl) ?_
      refine gf hC hK hP iX10 0 rfl rfl 30 (by decide) mw_fieldLink_RX10_79_MirrorDrillModel_isTold_Z (gs_ne (by decide) h_fs_30) dX10_clearBank_197 ?_
      refine lv_iload_n hx hb dX10_clearBank_200 rfl (lv_at hl 0 rfl) ?_
      refine lv_iconst (v := 0) hx hb dX10_clearBank_201 (by decide) ?_
      refine va_zast hx hb hK hP hD hS 17 3 rfl rfl (vp_in_nI (by omega) (by decide)) dX10_clearBank_202 (fun H locs hP hD hS => ?_)
      obtain ⟨f_27, ef_27⟩ : ∃ g : Nat → Int32, g = upd g5 (((nI i) : Int32).toNatClampNeg) (vp_nar .boolean 0) := ⟨_, rfl⟩
      rw [← ef_27] at hP hD
      have hP : va_P D classes [(o, .inr (10, (fs.set 39 (.int 0)))), (mv, .inl (cyI, 2, .inl f_1)), (mn, .inl (cyI, 2, .inl f_2)), (rl, .inl (cyI, 2, .inl f_3)), (uo, .inl (cyI, 2, .inl f_4)), (ed, .inl (cyI, 2, .inl f_5)), (z1, .inl (cyZ, 2, .inl f_6)), (z2, .inl (cyZ, 2, .inl f_7)), (rg, .inl (cyZ, 2, .inl f_8)), (z4, .inl (cyZ, 2, .inl f_9)), (z5, .inl (cyZ, 2, .inl f_10)), (wo, .inl (cyI, 8, .inl f_18)), (fi, .inl (cyI, 60, .inl f_22)), (bym, .inl (cyI, 60, .inl f_23)), (wi, .inl (cyI, 60, .inl f_24)), (tu, .inl (cyZ, 60, .inl f_25)), (cr, .inl (cyZ, 60, .inl f_26)), (tld, .inl (cyZ, 60, .inl f_27))] H := hP
      have hD : va_D A [(o, .inr (10, (fs.set 39 (.int 0)))), (mv, .inl (cyI, 2, .inl f_1)), (mn, .inl (cyI, 2, .inl f_2)), (rl, .inl (cyI, 2, .inl f_3)), (uo, .inl (cyI, 2, .inl f_4)), (ed, .inl (cyI, 2, .inl f_5)), (z1, .inl (cyZ, 2, .inl f_6)), (z2, .inl (cyZ, 2, .inl f_7)), (rg, .inl (cyZ, 2, .inl f_8)), (z4, .inl (cyZ, 2, .inl f_9)), (z5, .inl (cyZ, 2, .inl f_10)), (wo, .inl (cyI, 8, .inl f_18)), (fi, .inl (cyI, 60, .inl f_22)), (bym, .inl (cyI, 60, .inl f_23)), (wi, .inl (cyI, 60, .inl f_24)), (tu, .inl (cyZ, 60, .inl f_25)), (cr, .inl (cyZ, 60, .inl f_26)), (tld, .inl (cyZ, 60, .inl f_27))] := hD
      refine lv_iinc (v := (nI (i + 1))) (lv' := [(1, .int (nI (i + 1))), (0, .ref o)]) hx hb dX10_clearBank_203 hl (k := 0) rfl (nI_1 _) (by decide) rfl (fun ls hl => ?_)
      refine lv_goto (tgt := 147) hx hb dX10_clearBank_206 (by decide) ?_
      exact ih (i + 1) f_22 f_23 f_24 f_25 f_26 f_27 _ _ _ (by omega) (lv_sub hl [0, 1] rfl) hP hD hS
  exact lp 30 0 ffi fby fwi ftu fcr fto _ _ _ (by decide) hl hP hD hS
set_option maxHeartbeats 4000000 in
set_option maxRecDepth 100000 in
theorem k_X10_clearBank1 (l : Launch) (D : va_G) (cyB cyI cyJ cyZ : ClassId) (sz : Nat) (o : Nat) (fs : List Value) (mv : Nat) (mn : Nat) (rl : Nat) (uo : Nat) (ed : Nat) (z1 : Nat) (z2 : Nat) (rg : Nat) (z4 : Nat) (z5 : Nat) (wo : Nat) (fi : Nat) (bym : Nat) (wi : Nat) (tu : Nat) (cr : Nat) (tld : Nat) (fmv : Nat → Int32) (fm : Nat → Int32) (fr : Nat → Int32) (fuo : Nat → Int32) (fed : Nat → Int32) (fz1 : Nat → Int32) (fz2 : Nat → Int32) (frg : Nat → Int32) (fz4 : Nat → Int32) (fz5 : Nat → Int32) (fwo : Nat → Int32) (ffi : Nat → Int32) (fby : Nat → Int32) (fwi : Nat → Int32) (ftu : Nat → Int32) (fcr : Nat → Int32) (fto : Nat → Int32) (hl_fs : fs.length = 80) (h_fs_11 : fs[11]? = some (.ref mv)) (h_fs_12 : fs[12]? = some (.ref mn)) (h_fs_13 : fs[13]? = some (.ref rl)) (h_fs_14 : fs[14]? = some (.ref uo)) (h_fs_15 : fs[15]? = some (.ref ed)) (h_fs_23 : fs[23]? = some (.ref z1)) (h_fs_24 : fs[24]? = some (.ref z2)) (h_fs_25 : fs[25]? = some (.ref rg)) (h_fs_26 : fs[26]? = some (.ref z4)) (h_fs_27 : fs[27]? = some (.ref z5)) (h_fs_16 : fs[16]? = some (.ref wo)) (h_fs_20 : fs[20]? = some (.ref fi)) (h_fs_21 : fs[21]? = some (.ref bym)) (h_fs_22 : fs[22]? = some (.ref wi)) (h_fs_28 : fs[28]? = some (.ref tu)) (h_fs_29 : fs[29]? = some (.ref cr)) (h_fs_30 : fs[30]? = some (.ref tld)) (h_fs_38 : fs[38]? = some (.int 1)) : KV l yX10_clearBank cX10_clearBank 2 0 0 0 D (TYS cyB cyI cyJ cyZ) [(o, .inr (10, fs)), (mv, .inl (cyI, 2, .inl fmv)), (mn, .inl (cyI, 2, .inl fm)), (rl, .inl (cyI, 2, .inl fr)), (uo, .inl (cyI, 2, .inl fuo)), (ed, .inl (cyI, 2, .inl fed)), (z1, .inl (cyZ, 2, .inl fz1)), (z2, .inl (cyZ, 2, .inl fz2)), (rg, .inl (cyZ, 2, .inl frg)), (z4, .inl (cyZ, 2, .inl fz4)), (z5, .inl (cyZ, 2, .inl fz5)), (wo, .inl (cyI, 8, .inl fwo)), (fi, .inl (cyI, 60, .inl ffi)), (bym, .inl (cyI, 60, .inl fby)), (wi, .inl (cyI, 60, .inl fwi)), (tu, .inl (cyZ, 60, .inl ftu)), (cr, .inl (cyZ, 60, .inl fcr)), (tld, .inl (cyZ, 60, .inl fto))] sz [.ref o] (fun (u : (Nat → Int32) × (Nat → Int32) × (Nat → Int32) × (Nat → Int32) × (Nat → Int32) × (Nat → Int32) × (Nat → Int32) × (Nat → Int32) × (Nat → Int32) × (Nat → Int32) × (Nat → Int32) × (Nat → Int32) × (Nat → Int32) × (Nat → Int32) × (Nat → Int32) × (Nat → Int32) × (Nat → Int32)) => u.1 1 = 2 ∧ u.2.1 1 = 0 ∧ u.2.2.1 1 = 0 ∧ u.2.2.2.1 1 = 0 ∧ u.2.2.2.2.2.2.2.1 1 = 0) (fun (u : (Nat → Int32) × (Nat → Int32) × (Nat → Int32) × (Nat → Int32) × (Nat → Int32) × (Nat → Int32) × (Nat → Int32) × (Nat → Int32) × (Nat → Int32) × (Nat → Int32) × (Nat → Int32) × (Nat → Int32) × (Nat → Int32) × (Nat → Int32) × (Nat → Int32) × (Nat → Int32) × (Nat → Int32)) => ([(o, .inr (10, (fs.set 39 (.int 600)))), (mv, .inl (cyI, 2, .inl u.1)), (mn, .inl (cyI, 2, .inl u.2.1)), (rl, .inl (cyI, 2, .inl u.2.2.1)), (uo, .inl (cyI, 2, .inl u.2.2.2.1)), (ed, .inl (cyI, 2, .inl u.2.2.2.2.1)), (z1, .inl (cyZ, 2, .inl u.2.2.2.2.2.1)), (z2, .inl (cyZ, 2, .inl u.2.2.2.2.2.2.1)), (rg, .inl (cyZ, 2, .inl u.2.2.2.2.2.2.2.1)), (z4, .inl (cyZ, 2, .inl u.2.2.2.2.2.2.2.2.1)), (z5, .inl (cyZ, 2, .inl u.2.2.2.2.2.2.2.2.2.1)), (wo, .inl (cyI, 8, .inl u.2.2.2.2.2.2.2.2.2.2.1)), (fi, .inl (cyI, 60, .inl u.2.2.2.2.2.2.2.2.2.2.2.1)), (bym, .inl (cyI, 60, .inl u.2.2.2.2.2.2.2.2.2.2.2.2.1)), (wi, .inl (cyI, 60, .inl u.2.2.2.2.2.2.2.2.2.2.2.2.2.1)), (tu, .inl (cyZ, 60, .inl u.2.2.2.2.2.2.2.2.2.2.2.2.2.2.1)), (cr, .inl (cyZ, 60, .inl u.2.2.2.2.2.2.2.2.2.2.2.2.2.2.2.1)), (tld, .inl (cyZ, 60, .inl u.2.2.2.2.2.2.2.2.2.2.2.2.2.2.2.2))] : va_W)) := by
  refine entV (by decide) (Nat.le_of_ble_eq_true rfl) ?_
  intro p e s m below meth c ls A hC hl hP hK hD hA
  obtain ⟨hx, hb, hr, hml, hown, hts, hlk, hnm⟩ := id hC
  have hS : va_S A s.heap s.heap [] := va_S.rf
  have hl : lv_has ls 2 [(0, .ref o)] := hl
  generalize hHe : s.heap = H at hP ⊢
  rw [hHe] at hS
  have hS : va_S A s.heap H [] := by rw [hHe]; exact hS
  refine lv_aload_n hx hb dX10_clearBank_0 rfl (lv_at hl 0 rfl) ?_
  refine gf hC hK hP iX10 0 rfl rfl 11 (by decide) mw_fieldLink_RX10_20_MirrorDrillModel_moves_I h_fs_11 dX10_clearBank_1 ?_
  refine lv_aload_n hx hb dX10_clearBank_4 rfl (lv_at hl 0 rfl) ?_
  refine gf hC hK hP iX10 0 rfl rfl 38 (by decide) mw_fieldLink_RX10_273_MirrorDrillModel_rb_I h_fs_38 dX10_clearBank_5 ?_
  refine lv_iconst (v := 2) hx hb dX10_clearBank_8 (by decide) ?_
  refine va_iast hx hb hK hP hD hS 1 1 rfl rfl (vin (by decide)) dX10_clearBank_9 (fun H locs hP hD hS => ?_)
  obtain ⟨f_1, ef_1⟩ : ∃ g : Nat → Int32, g = upd fmv ((1 : Int32).toNatClampNeg) 2 := ⟨_, rfl⟩
  rw [← ef_1] at hP hD
  have hP : va_P D classes [(o, .inr (10, fs)), (mv, .inl (cyI, 2, .inl f_1)), (mn, .inl (cyI, 2, .inl fm)), (rl, .inl (cyI, 2, .inl fr)), (uo, .inl (cyI, 2, .inl fuo)), (ed, .inl (cyI, 2, .inl fed)), (z1, .inl (cyZ, 2, .inl fz1)), (z2, .inl (cyZ, 2, .inl fz2)), (rg, .inl (cyZ, 2, .inl frg)), (z4, .inl (cyZ, 2, .inl fz4)), (z5, .inl (cyZ, 2, .inl fz5)), (wo, .inl (cyI, 8, .inl fwo)), (fi, .inl (cyI, 60, .inl ffi)), (bym, .inl (cyI, 60, .inl fby)), (wi, .inl (cyI, 60, .inl fwi)), (tu, .inl (cyZ, 60, .inl ftu)), (cr, .inl (cyZ, 60, .inl fcr)), (tld, .inl (cyZ, 60, .inl fto))] H := hP
  have hD : va_D A [(o, .inr (10, fs)), (mv, .inl (cyI, 2, .inl f_1)), (mn, .inl (cyI, 2, .inl fm)), (rl, .inl (cyI, 2, .inl fr)), (uo, .inl (cyI, 2, .inl fuo)), (ed, .inl (cyI, 2, .inl fed)), (z1, .inl (cyZ, 2, .inl fz1)), (z2, .inl (cyZ, 2, .inl fz2)), (rg, .inl (cyZ, 2, .inl frg)), (z4, .inl (cyZ, 2, .inl fz4)), (z5, .inl (cyZ, 2, .inl fz5)), (wo, .inl (cyI, 8, .inl fwo)), (fi, .inl (cyI, 60, .inl ffi)), (bym, .inl (cyI, 60, .inl fby)), (wi, .inl (cyI, 60, .inl fwi)), (tu, .inl (cyZ, 60, .inl ftu)), (cr, .inl (cyZ, 60, .inl fcr)), (tld, .inl (cyZ, 60, .inl fto))] := hD
  refine lv_aload_n hx hb dX10_clearBank_10 rfl (lv_at hl 0 rfl) ?_
  refine gf hC hK hP iX10 0 rfl rfl 12 (by decide) mw_fieldLink_RX10_24_MirrorDrillModel_men_I h_fs_12 dX10_clearBank_11 ?_
  refine lv_aload_n hx hb dX10_clearBank_14 rfl (lv_at hl 0 rfl) ?_
  refine gf hC hK hP iX10 0 rfl rfl 38 (by decide) mw_fieldLink_RX10_273_MirrorDrillModel_rb_I h_fs_38 dX10_clearBank_15 ?_
  refine lv_iconst (v := 0) hx hb dX10_clearBank_18 (by decide) ?_
  refine va_iast hx hb hK hP hD hS 2 1 rfl rfl (vin (by decide)) dX10_clearBank_19 (fun H locs hP hD hS => ?_)
  obtain ⟨f_2, ef_2⟩ : ∃ g : Nat → Int32, g = upd fm ((1 : Int32).toNatClampNeg) 0 := ⟨_, rfl⟩
  rw [← ef_2] at hP hD
  have hP : va_P D classes [(o, .inr (10, fs)), (mv, .inl (cyI, 2, .inl f_1)), (mn, .inl (cyI, 2, .inl f_2)), (rl, .inl (cyI, 2, .inl fr)), (uo, .inl (cyI, 2, .inl fuo)), (ed, .inl (cyI, 2, .inl fed)), (z1, .inl (cyZ, 2, .inl fz1)), (z2, .inl (cyZ, 2, .inl fz2)), (rg, .inl (cyZ, 2, .inl frg)), (z4, .inl (cyZ, 2, .inl fz4)), (z5, .inl (cyZ, 2, .inl fz5)), (wo, .inl (cyI, 8, .inl fwo)), (fi, .inl (cyI, 60, .inl ffi)), (bym, .inl (cyI, 60, .inl fby)), (wi, .inl (cyI, 60, .inl fwi)), (tu, .inl (cyZ, 60, .inl ftu)), (cr, .inl (cyZ, 60, .inl fcr)), (tld, .inl (cyZ, 60, .inl fto))] H := hP
  have hD : va_D A [(o, .inr (10, fs)), (mv, .inl (cyI, 2, .inl f_1)), (mn, .inl (cyI, 2, .inl f_2)), (rl, .inl (cyI, 2, .inl fr)), (uo, .inl (cyI, 2, .inl fuo)), (ed, .inl (cyI, 2, .inl fed)), (z1, .inl (cyZ, 2, .inl fz1)), (z2, .inl (cyZ, 2, .inl fz2)), (rg, .inl (cyZ, 2, .inl frg)), (z4, .inl (cyZ, 2, .inl fz4)), (z5, .inl (cyZ, 2, .inl fz5)), (wo, .inl (cyI, 8, .inl fwo)), (fi, .inl (cyI, 60, .inl ffi)), (bym, .inl (cyI, 60, .inl fby)), (wi, .inl (cyI, 60, .inl fwi)), (tu, .inl (cyZ, 60, .inl ftu)), (cr, .inl (cyZ, 60, .inl fcr)), (tld, .inl (cyZ, 60, .inl fto))] := hD
  refine lv_aload_n hx hb dX10_clearBank_20 rfl (lv_at hl 0 rfl) ?_
  refine gf hC hK hP iX10 0 rfl rfl 13 (by decide) mw_fieldLink_RX10_27_MirrorDrillModel_rules_I h_fs_13 dX10_clearBank_21 ?_
  refine lv_aload_n hx hb dX10_clearBank_24 rfl (lv_at hl 0 rfl) ?_
  refine gf hC hK hP iX10 0 rfl rfl 38 (by decide) mw_fieldLink_RX10_273_MirrorDrillModel_rb_I h_fs_38 dX10_clearBank_25 ?_
  refine lv_iconst (v := 0) hx hb dX10_clearBank_28 (by decide) ?_
  refine va_iast hx hb hK hP hD hS 3 1 rfl rfl (vin (by decide)) dX10_clearBank_29 (fun H locs hP hD hS => ?_)
  obtain ⟨f_3, ef_3⟩ : ∃ g : Nat → Int32, g = upd fr ((1 : Int32).toNatClampNeg) 0 := ⟨_, rfl⟩
  rw [← ef_3] at hP hD
  have hP : va_P D classes [(o, .inr (10, fs)), (mv, .inl (cyI, 2, .inl f_1)), (mn, .inl (cyI, 2, .inl f_2)), (rl, .inl (cyI, 2, .inl f_3)), (uo, .inl (cyI, 2, .inl fuo)), (ed, .inl (cyI, 2, .inl fed)), (z1, .inl (cyZ, 2, .inl fz1)), (z2, .inl (cyZ, 2, .inl fz2)), (rg, .inl (cyZ, 2, .inl frg)), (z4, .inl (cyZ, 2, .inl fz4)), (z5, .inl (cyZ, 2, .inl fz5)), (wo, .inl (cyI, 8, .inl fwo)), (fi, .inl (cyI, 60, .inl ffi)), (bym, .inl (cyI, 60, .inl fby)), (wi, .inl (cyI, 60, .inl fwi)), (tu, .inl (cyZ, 60, .inl ftu)), (cr, .inl (cyZ, 60, .inl fcr)), (tld, .inl (cyZ, 60, .inl fto))] H := hP
  have hD : va_D A [(o, .inr (10, fs)), (mv, .inl (cyI, 2, .inl f_1)), (mn, .inl (cyI, 2, .inl f_2)), (rl, .inl (cyI, 2, .inl f_3)), (uo, .inl (cyI, 2, .inl fuo)), (ed, .inl (cyI, 2, .inl fed)), (z1, .inl (cyZ, 2, .inl fz1)), (z2, .inl (cyZ, 2, .inl fz2)), (rg, .inl (cyZ, 2, .inl frg)), (z4, .inl (cyZ, 2, .inl fz4)), (z5, .inl (cyZ, 2, .inl fz5)), (wo, .inl (cyI, 8, .inl fwo)), (fi, .inl (cyI, 60, .inl ffi)), (bym, .inl (cyI, 60, .inl fby)), (wi, .inl (cyI, 60, .inl fwi)), (tu, .inl (cyZ, 60, .inl ftu)), (cr, .inl (cyZ, 60, .inl fcr)), (tld, .inl (cyZ, 60, .inl fto))] := hD
  refine lv_aload_n hx hb dX10_clearBank_30 rfl (lv_at hl 0 rfl) ?_
  refine gf hC hK hP iX10 0 rfl rfl 14 (by decide) mw_fieldLink_RX10_30_MirrorDrillModel_unitsOf_I h_fs_14 dX10_clearBank_31 ?_
  refine lv_aload_n hx hb dX10_clearBank_34 rfl (lv_at hl 0 rfl) ?_
  refine gf hC hK hP iX10 0 rfl rfl 38 (by decide) mw_fieldLink_RX10_273_MirrorDrillModel_rb_I h_fs_38 dX10_clearBank_35 ?_
  refine lv_iconst (v := 0) hx hb dX10_clearBank_38 (by decide) ?_
  refine va_iast hx hb hK hP hD hS 4 1 rfl rfl (vin (by decide)) dX10_clearBank_39 (fun H locs hP hD hS => ?_)
  obtain ⟨f_4, ef_4⟩ : ∃ g : Nat → Int32, g = upd fuo ((1 : Int32).toNatClampNeg) 0 := ⟨_, rfl⟩
  rw [← ef_4] at hP hD
  have hP : va_P D classes [(o, .inr (10, fs)), (mv, .inl (cyI, 2, .inl f_1)), (mn, .inl (cyI, 2, .inl f_2)), (rl, .inl (cyI, 2, .inl f_3)), (uo, .inl (cyI, 2, .inl f_4)), (ed, .inl (cyI, 2, .inl fed)), (z1, .inl (cyZ, 2, .inl fz1)), (z2, .inl (cyZ, 2, .inl fz2)), (rg, .inl (cyZ, 2, .inl frg)), (z4, .inl (cyZ, 2, .inl fz4)), (z5, .inl (cyZ, 2, .inl fz5)), (wo, .inl (cyI, 8, .inl fwo)), (fi, .inl (cyI, 60, .inl ffi)), (bym, .inl (cyI, 60, .inl fby)), (wi, .inl (cyI, 60, .inl fwi)), (tu, .inl (cyZ, 60, .inl ftu)), (cr, .inl (cyZ, 60, .inl fcr)), (tld, .inl (cyZ, 60, .inl fto))] H := hP
  have hD : va_D A [(o, .inr (10, fs)), (mv, .inl (cyI, 2, .inl f_1)), (mn, .inl (cyI, 2, .inl f_2)), (rl, .inl (cyI, 2, .inl f_3)), (uo, .inl (cyI, 2, .inl f_4)), (ed, .inl (cyI, 2, .inl fed)), (z1, .inl (cyZ, 2, .inl fz1)), (z2, .inl (cyZ, 2, .inl fz2)), (rg, .inl (cyZ, 2, .inl frg)), (z4, .inl (cyZ, 2, .inl fz4)), (z5, .inl (cyZ, 2, .inl fz5)), (wo, .inl (cyI, 8, .inl fwo)), (fi, .inl (cyI, 60, .inl ffi)), (bym, .inl (cyI, 60, .inl fby)), (wi, .inl (cyI, 60, .inl fwi)), (tu, .inl (cyZ, 60, .inl ftu)), (cr, .inl (cyZ, 60, .inl fcr)), (tld, .inl (cyZ, 60, .inl fto))] := hD
  refine lv_aload_n hx hb dX10_clearBank_40 rfl (lv_at hl 0 rfl) ?_
  refine gf hC hK hP iX10 0 rfl rfl 15 (by decide) mw_fieldLink_RX10_33_MirrorDrillModel_edge_I h_fs_15 dX10_clearBank_41 ?_
  refine lv_aload_n hx hb dX10_clearBank_44 rfl (lv_at hl 0 rfl) ?_
  refine gf hC hK hP iX10 0 rfl rfl 38 (by decide) mw_fieldLink_RX10_273_MirrorDrillModel_rb_I h_fs_38 dX10_clearBank_45 ?_
  refine lv_iconst (v := 0) hx hb dX10_clearBank_48 (by decide) ?_
  refine va_iast hx hb hK hP hD hS 5 1 rfl rfl (vin (by decide)) dX10_clearBank_49 (fun H locs hP hD hS => ?_)
  obtain ⟨f_5, ef_5⟩ : ∃ g : Nat → Int32, g = upd fed ((1 : Int32).toNatClampNeg) 0 := ⟨_, rfl⟩
  rw [← ef_5] at hP hD
  have hP : va_P D classes [(o, .inr (10, fs)), (mv, .inl (cyI, 2, .inl f_1)), (mn, .inl (cyI, 2, .inl f_2)), (rl, .inl (cyI, 2, .inl f_3)), (uo, .inl (cyI, 2, .inl f_4)), (ed, .inl (cyI, 2, .inl f_5)), (z1, .inl (cyZ, 2, .inl fz1)), (z2, .inl (cyZ, 2, .inl fz2)), (rg, .inl (cyZ, 2, .inl frg)), (z4, .inl (cyZ, 2, .inl fz4)), (z5, .inl (cyZ, 2, .inl fz5)), (wo, .inl (cyI, 8, .inl fwo)), (fi, .inl (cyI, 60, .inl ffi)), (bym, .inl (cyI, 60, .inl fby)), (wi, .inl (cyI, 60, .inl fwi)), (tu, .inl (cyZ, 60, .inl ftu)), (cr, .inl (cyZ, 60, .inl fcr)), (tld, .inl (cyZ, 60, .inl fto))] H := hP
  have hD : va_D A [(o, .inr (10, fs)), (mv, .inl (cyI, 2, .inl f_1)), (mn, .inl (cyI, 2, .inl f_2)), (rl, .inl (cyI, 2, .inl f_3)), (uo, .inl (cyI, 2, .inl f_4)), (ed, .inl (cyI, 2, .inl f_5)), (z1, .inl (cyZ, 2, .inl fz1)), (z2, .inl (cyZ, 2, .inl fz2)), (rg, .inl (cyZ, 2, .inl frg)), (z4, .inl (cyZ, 2, .inl fz4)), (z5, .inl (cyZ, 2, .inl fz5)), (wo, .inl (cyI, 8, .inl fwo)), (fi, .inl (cyI, 60, .inl ffi)), (bym, .inl (cyI, 60, .inl fby)), (wi, .inl (cyI, 60, .inl fwi)), (tu, .inl (cyZ, 60, .inl ftu)), (cr, .inl (cyZ, 60, .inl fcr)), (tld, .inl (cyZ, 60, .inl fto))] := hD
  refine lv_aload_n hx hb dX10_clearBank_50 rfl (lv_at hl 0 rfl) ?_
  refine gf hC hK hP iX10 0 rfl rfl 23 (by decide) mw_fieldLink_RX10_57_MirrorDrillModel_isMoves_Z h_fs_23 dX10_clearBank_51 ?_
  refine lv_aload_n hx hb dX10_clearBank_54 rfl (lv_at hl 0 rfl) ?_
  refine gf hC hK hP iX10 0 rfl rfl 38 (by decide) mw_fieldLink_RX10_273_MirrorDrillModel_rb_I h_fs_38 dX10_clearBank_55 ?_
  refine lv_iconst (v := 0) hx hb dX10_clearBank_58 (by decide) ?_
  refine va_zast hx hb hK hP hD hS 6 3 rfl rfl (vin (by decide)) dX10_clearBank_59 (fun H locs hP hD hS => ?_)
  obtain ⟨f_6, ef_6⟩ : ∃ g : Nat → Int32, g = upd fz1 ((1 : Int32).toNatClampNeg) (vp_nar .boolean 0) := ⟨_, rfl⟩
  rw [← ef_6] at hP hD
  have hP : va_P D classes [(o, .inr (10, fs)), (mv, .inl (cyI, 2, .inl f_1)), (mn, .inl (cyI, 2, .inl f_2)), (rl, .inl (cyI, 2, .inl f_3)), (uo, .inl (cyI, 2, .inl f_4)), (ed, .inl (cyI, 2, .inl f_5)), (z1, .inl (cyZ, 2, .inl f_6)), (z2, .inl (cyZ, 2, .inl fz2)), (rg, .inl (cyZ, 2, .inl frg)), (z4, .inl (cyZ, 2, .inl fz4)), (z5, .inl (cyZ, 2, .inl fz5)), (wo, .inl (cyI, 8, .inl fwo)), (fi, .inl (cyI, 60, .inl ffi)), (bym, .inl (cyI, 60, .inl fby)), (wi, .inl (cyI, 60, .inl fwi)), (tu, .inl (cyZ, 60, .inl ftu)), (cr, .inl (cyZ, 60, .inl fcr)), (tld, .inl (cyZ, 60, .inl fto))] H := hP
  have hD : va_D A [(o, .inr (10, fs)), (mv, .inl (cyI, 2, .inl f_1)), (mn, .inl (cyI, 2, .inl f_2)), (rl, .inl (cyI, 2, .inl f_3)), (uo, .inl (cyI, 2, .inl f_4)), (ed, .inl (cyI, 2, .inl f_5)), (z1, .inl (cyZ, 2, .inl f_6)), (z2, .inl (cyZ, 2, .inl fz2)), (rg, .inl (cyZ, 2, .inl frg)), (z4, .inl (cyZ, 2, .inl fz4)), (z5, .inl (cyZ, 2, .inl fz5)), (wo, .inl (cyI, 8, .inl fwo)), (fi, .inl (cyI, 60, .inl ffi)), (bym, .inl (cyI, 60, .inl fby)), (wi, .inl (cyI, 60, .inl fwi)), (tu, .inl (cyZ, 60, .inl ftu)), (cr, .inl (cyZ, 60, .inl fcr)), (tld, .inl (cyZ, 60, .inl fto))] := hD
  refine lv_aload_n hx hb dX10_clearBank_60 rfl (lv_at hl 0 rfl) ?_
  refine gf hC hK hP iX10 0 rfl rfl 24 (by decide) mw_fieldLink_RX10_61_MirrorDrillModel_isMen_Z h_fs_24 dX10_clearBank_61 ?_
  refine lv_aload_n hx hb dX10_clearBank_64 rfl (lv_at hl 0 rfl) ?_
  refine gf hC hK hP iX10 0 rfl rfl 38 (by decide) mw_fieldLink_RX10_273_MirrorDrillModel_rb_I h_fs_38 dX10_clearBank_65 ?_
  refine lv_iconst (v := 0) hx hb dX10_clearBank_68 (by decide) ?_
  refine va_zast hx hb hK hP hD hS 7 3 rfl rfl (vin (by decide)) dX10_clearBank_69 (fun H locs hP hD hS => ?_)
  obtain ⟨f_7, ef_7⟩ : ∃ g : Nat → Int32, g = upd fz2 ((1 : Int32).toNatClampNeg) (vp_nar .boolean 0) := ⟨_, rfl⟩
  rw [← ef_7] at hP hD
  have hP : va_P D classes [(o, .inr (10, fs)), (mv, .inl (cyI, 2, .inl f_1)), (mn, .inl (cyI, 2, .inl f_2)), (rl, .inl (cyI, 2, .inl f_3)), (uo, .inl (cyI, 2, .inl f_4)), (ed, .inl (cyI, 2, .inl f_5)), (z1, .inl (cyZ, 2, .inl f_6)), (z2, .inl (cyZ, 2, .inl f_7)), (rg, .inl (cyZ, 2, .inl frg)), (z4, .inl (cyZ, 2, .inl fz4)), (z5, .inl (cyZ, 2, .inl fz5)), (wo, .inl (cyI, 8, .inl fwo)), (fi, .inl (cyI, 60, .inl ffi)), (bym, .inl (cyI, 60, .inl fby)), (wi, .inl (cyI, 60, .inl fwi)), (tu, .inl (cyZ, 60, .inl ftu)), (cr, .inl (cyZ, 60, .inl fcr)), (tld, .inl (cyZ, 60, .inl fto))] H := hP
  have hD : va_D A [(o, .inr (10, fs)), (mv, .inl (cyI, 2, .inl f_1)), (mn, .inl (cyI, 2, .inl f_2)), (rl, .inl (cyI, 2, .inl f_3)), (uo, .inl (cyI, 2, .inl f_4)), (ed, .inl (cyI, 2, .inl f_5)), (z1, .inl (cyZ, 2, .inl f_6)), (z2, .inl (cyZ, 2, .inl f_7)), (rg, .inl (cyZ, 2, .inl frg)), (z4, .inl (cyZ, 2, .inl fz4)), (z5, .inl (cyZ, 2, .inl fz5)), (wo, .inl (cyI, 8, .inl fwo)), (fi, .inl (cyI, 60, .inl ffi)), (bym, .inl (cyI, 60, .inl fby)), (wi, .inl (cyI, 60, .inl fwi)), (tu, .inl (cyZ, 60, .inl ftu)), (cr, .inl (cyZ, 60, .inl fcr)), (tld, .inl (cyZ, 60, .inl fto))] := hD
  refine lv_aload_n hx hb dX10_clearBank_70 rfl (lv_at hl 0 rfl) ?_
  refine gf hC hK hP iX10 0 rfl rfl 25 (by decide) mw_fieldLink_RX10_64_MirrorDrillModel_isRing_Z h_fs_25 dX10_clearBank_71 ?_
  refine lv_aload_n hx hb dX10_clearBank_74 rfl (lv_at hl 0 rfl) ?_
  refine gf hC hK hP iX10 0 rfl rfl 38 (by decide) mw_fieldLink_RX10_273_MirrorDrillModel_rb_I h_fs_38 dX10_clearBank_75 ?_
  refine lv_iconst (v := 0) hx hb dX10_clearBank_78 (by decide) ?_
  refine va_zast hx hb hK hP hD hS 8 3 rfl rfl (vin (by decide)) dX10_clearBank_79 (fun H locs hP hD hS => ?_)
  obtain ⟨f_8, ef_8⟩ : ∃ g : Nat → Int32, g = upd frg ((1 : Int32).toNatClampNeg) (vp_nar .boolean 0) := ⟨_, rfl⟩
  rw [← ef_8] at hP hD
  have hP : va_P D classes [(o, .inr (10, fs)), (mv, .inl (cyI, 2, .inl f_1)), (mn, .inl (cyI, 2, .inl f_2)), (rl, .inl (cyI, 2, .inl f_3)), (uo, .inl (cyI, 2, .inl f_4)), (ed, .inl (cyI, 2, .inl f_5)), (z1, .inl (cyZ, 2, .inl f_6)), (z2, .inl (cyZ, 2, .inl f_7)), (rg, .inl (cyZ, 2, .inl f_8)), (z4, .inl (cyZ, 2, .inl fz4)), (z5, .inl (cyZ, 2, .inl fz5)), (wo, .inl (cyI, 8, .inl fwo)), (fi, .inl (cyI, 60, .inl ffi)), (bym, .inl (cyI, 60, .inl fby)), (wi, .inl (cyI, 60, .inl fwi)), (tu, .inl (cyZ, 60, .inl ftu)), (cr, .inl (cyZ, 60, .inl fcr)), (tld, .inl (cyZ, 60, .inl fto))] H := hP
  have hD : va_D A [(o, .inr (10, fs)), (mv, .inl (cyI, 2, .inl f_1)), (mn, .inl (cyI, 2, .inl f_2)), (rl, .inl (cyI, 2, .inl f_3)), (uo, .inl (cyI, 2, .inl f_4)), (ed, .inl (cyI, 2, .inl f_5)), (z1, .inl (cyZ, 2, .inl f_6)), (z2, .inl (cyZ, 2, .inl f_7)), (rg, .inl (cyZ, 2, .inl f_8)), (z4, .inl (cyZ, 2, .inl fz4)), (z5, .inl (cyZ, 2, .inl fz5)), (wo, .inl (cyI, 8, .inl fwo)), (fi, .inl (cyI, 60, .inl ffi)), (bym, .inl (cyI, 60, .inl fby)), (wi, .inl (cyI, 60, .inl fwi)), (tu, .inl (cyZ, 60, .inl ftu)), (cr, .inl (cyZ, 60, .inl fcr)), (tld, .inl (cyZ, 60, .inl fto))] := hD
  refine lv_aload_n hx hb dX10_clearBank_80 rfl (lv_at hl 0 rfl) ?_
  refine gf hC hK hP iX10 0 rfl rfl 26 (by decide) mw_fieldLink_RX10_67_MirrorDrillModel_isEdge_Z h_fs_26 dX10_clearBank_81 ?_
  refine lv_aload_n hx hb dX10_clearBank_84 rfl (lv_at hl 0 rfl) ?_
  refine gf hC hK hP iX10 0 rfl rfl 38 (by decide) mw_fieldLink_RX10_273_MirrorDrillModel_rb_I h_fs_38 dX10_clearBank_85 ?_
  refine lv_iconst (v := 0) hx hb dX10_clearBank_88 (by decide) ?_
  refine va_zast hx hb hK hP hD hS 9 3 rfl rfl (vin (by decide)) dX10_clearBank_89 (fun H locs hP hD hS => ?_)
  obtain ⟨f_9, ef_9⟩ : ∃ g : Nat → Int32, g = upd fz4 ((1 : Int32).toNatClampNeg) (vp_nar .boolean 0) := ⟨_, rfl⟩
  rw [← ef_9] at hP hD
  have hP : va_P D classes [(o, .inr (10, fs)), (mv, .inl (cyI, 2, .inl f_1)), (mn, .inl (cyI, 2, .inl f_2)), (rl, .inl (cyI, 2, .inl f_3)), (uo, .inl (cyI, 2, .inl f_4)), (ed, .inl (cyI, 2, .inl f_5)), (z1, .inl (cyZ, 2, .inl f_6)), (z2, .inl (cyZ, 2, .inl f_7)), (rg, .inl (cyZ, 2, .inl f_8)), (z4, .inl (cyZ, 2, .inl f_9)), (z5, .inl (cyZ, 2, .inl fz5)), (wo, .inl (cyI, 8, .inl fwo)), (fi, .inl (cyI, 60, .inl ffi)), (bym, .inl (cyI, 60, .inl fby)), (wi, .inl (cyI, 60, .inl fwi)), (tu, .inl (cyZ, 60, .inl ftu)), (cr, .inl (cyZ, 60, .inl fcr)), (tld, .inl (cyZ, 60, .inl fto))] H := hP
  have hD : va_D A [(o, .inr (10, fs)), (mv, .inl (cyI, 2, .inl f_1)), (mn, .inl (cyI, 2, .inl f_2)), (rl, .inl (cyI, 2, .inl f_3)), (uo, .inl (cyI, 2, .inl f_4)), (ed, .inl (cyI, 2, .inl f_5)), (z1, .inl (cyZ, 2, .inl f_6)), (z2, .inl (cyZ, 2, .inl f_7)), (rg, .inl (cyZ, 2, .inl f_8)), (z4, .inl (cyZ, 2, .inl f_9)), (z5, .inl (cyZ, 2, .inl fz5)), (wo, .inl (cyI, 8, .inl fwo)), (fi, .inl (cyI, 60, .inl ffi)), (bym, .inl (cyI, 60, .inl fby)), (wi, .inl (cyI, 60, .inl fwi)), (tu, .inl (cyZ, 60, .inl ftu)), (cr, .inl (cyZ, 60, .inl fcr)), (tld, .inl (cyZ, 60, .inl fto))] := hD
  refine lv_aload_n hx hb dX10_clearBank_90 rfl (lv_at hl 0 rfl) ?_
  refine gf hC hK hP iX10 0 rfl rfl 27 (by decide) mw_fieldLink_RX10_70_MirrorDrillModel_isWorth_Z h_fs_27 dX10_clearBank_91 ?_
  refine lv_aload_n hx hb dX10_clearBank_94 rfl (lv_at hl 0 rfl) ?_
  refine gf hC hK hP iX10 0 rfl rfl 38 (by decide) mw_fieldLink_RX10_273_MirrorDrillModel_rb_I h_fs_38 dX10_clearBank_95 ?_
  refine lv_iconst (v := 0) hx hb dX10_clearBank_98 (by decide) ?_
  refine va_zast hx hb hK hP hD hS 10 3 rfl rfl (vin (by decide)) dX10_clearBank_99 (fun H locs hP hD hS => ?_)
  obtain ⟨f_10, ef_10⟩ : ∃ g : Nat → Int32, g = upd fz5 ((1 : Int32).toNatClampNeg) (vp_nar .boolean 0) := ⟨_, rfl⟩
  rw [← ef_10] at hP hD
  have hP : va_P D classes [(o, .inr (10, fs)), (mv, .inl (cyI, 2, .inl f_1)), (mn, .inl (cyI, 2, .inl f_2)), (rl, .inl (cyI, 2, .inl f_3)), (uo, .inl (cyI, 2, .inl f_4)), (ed, .inl (cyI, 2, .inl f_5)), (z1, .inl (cyZ, 2, .inl f_6)), (z2, .inl (cyZ, 2, .inl f_7)), (rg, .inl (cyZ, 2, .inl f_8)), (z4, .inl (cyZ, 2, .inl f_9)), (z5, .inl (cyZ, 2, .inl f_10)), (wo, .inl (cyI, 8, .inl fwo)), (fi, .inl (cyI, 60, .inl ffi)), (bym, .inl (cyI, 60, .inl fby)), (wi, .inl (cyI, 60, .inl fwi)), (tu, .inl (cyZ, 60, .inl ftu)), (cr, .inl (cyZ, 60, .inl fcr)), (tld, .inl (cyZ, 60, .inl fto))] H := hP
  have hD : va_D A [(o, .inr (10, fs)), (mv, .inl (cyI, 2, .inl f_1)), (mn, .inl (cyI, 2, .inl f_2)), (rl, .inl (cyI, 2, .inl f_3)), (uo, .inl (cyI, 2, .inl f_4)), (ed, .inl (cyI, 2, .inl f_5)), (z1, .inl (cyZ, 2, .inl f_6)), (z2, .inl (cyZ, 2, .inl f_7)), (rg, .inl (cyZ, 2, .inl f_8)), (z4, .inl (cyZ, 2, .inl f_9)), (z5, .inl (cyZ, 2, .inl f_10)), (wo, .inl (cyI, 8, .inl fwo)), (fi, .inl (cyI, 60, .inl ffi)), (bym, .inl (cyI, 60, .inl fby)), (wi, .inl (cyI, 60, .inl fwi)), (tu, .inl (cyZ, 60, .inl ftu)), (cr, .inl (cyZ, 60, .inl fcr)), (tld, .inl (cyZ, 60, .inl fto))] := hD
  refine lv_aload_n hx hb dX10_clearBank_100 rfl (lv_at hl 0 rfl) ?_
  refine lv_sipush (v := 600) hx hb dX10_clearBank_101 (by decide) ?_
  refine lv_aload_n hx hb dX10_clearBank_104 rfl (lv_at hl 0 rfl) ?_
  refine gf hC hK hP iX10 0 rfl rfl 38 (by decide) mw_fieldLink_RX10_273_MirrorDrillModel_rb_I h_fs_38 dX10_clearBank_105 ?_
  refine lv_imul hx hb dX10_clearBank_108 ?_
  refine lv_cst (v := 600) (by decide) ?_
  refine pf (v := .int 600) hC hK hP hD hS iX10 tyX10_ok nmX10 0 rfl rfl 39 (by decide) mw_fieldLink_RX10_276_MirrorDrillModel_codes_I rfl rfl rfl (ln_lt hl_fs (by decide)) dX10_clearBank_109 (fun H locs hP hD hS => ?_)
  have hP : va_P D classes [(o, .inr (10, (fs.set 39 (.int 600)))), (mv, .inl (cyI, 2, .inl f_1)), (mn, .inl (cyI, 2, .inl f_2)), (rl, .inl (cyI, 2, .inl f_3)), (uo, .inl (cyI, 2, .inl f_4)), (ed, .inl (cyI, 2, .inl f_5)), (z1, .inl (cyZ, 2, .inl f_6)), (z2, .inl (cyZ, 2, .inl f_7)), (rg, .inl (cyZ, 2, .inl f_8)), (z4, .inl (cyZ, 2, .inl f_9)), (z5, .inl (cyZ, 2, .inl f_10)), (wo, .inl (cyI, 8, .inl fwo)), (fi, .inl (cyI, 60, .inl ffi)), (bym, .inl (cyI, 60, .inl fby)), (wi, .inl (cyI, 60, .inl fwi)), (tu, .inl (cyZ, 60, .inl ftu)), (cr, .inl (cyZ, 60, .inl fcr)), (tld, .inl (cyZ, 60, .inl fto))] H := hP
  have hD : va_D A [(o, .inr (10, (fs.set 39 (.int 600)))), (mv, .inl (cyI, 2, .inl f_1)), (mn, .inl (cyI, 2, .inl f_2)), (rl, .inl (cyI, 2, .inl f_3)), (uo, .inl (cyI, 2, .inl f_4)), (ed, .inl (cyI, 2, .inl f_5)), (z1, .inl (cyZ, 2, .inl f_6)), (z2, .inl (cyZ, 2, .inl f_7)), (rg, .inl (cyZ, 2, .inl f_8)), (z4, .inl (cyZ, 2, .inl f_9)), (z5, .inl (cyZ, 2, .inl f_10)), (wo, .inl (cyI, 8, .inl fwo)), (fi, .inl (cyI, 60, .inl ffi)), (bym, .inl (cyI, 60, .inl fby)), (wi, .inl (cyI, 60, .inl fwi)), (tu, .inl (cyZ, 60, .inl ftu)), (cr, .inl (cyZ, 60, .inl fcr)), (tld, .inl (cyZ, 60, .inl fto))] := hD
  refine lv_iconst (v := 0) hx hb dX10_clearBank_112 (by decide) ?_
  refine lv_istore_n (lv' := [(1, .int 0), (0, .ref o)]) hx hb dX10_clearBank_113 rfl hl (by decide) rfl (fun ls hl => ?_)
  refine lv_iload_n hx hb dX10_clearBank_114 rfl (lv_at hl 0 rfl) ?_
  refine lv_iconst (v := 4) hx hb dX10_clearBank_115 (by decide) ?_
  refine lv_icmp_ge (tgt := 139) hx hb dX10_clearBank_116 (by decide) (fun c_11 => absurd c_11 (by decide)) (fun c_11 => ?_)
  refine lv_aload_n hx hb dX10_clearBank_119 rfl (lv_at hl 1 rfl) ?_
  refine gf hC hK hP iX10 0 rfl rfl 16 (by decide) mw_fieldLink_RX10_36_MirrorDrillModel_worthOf_I (gs_ne (by decide) h_fs_16) dX10_clearBank_120 ?_
  refine lv_iconst (v := 4) hx hb dX10_clearBank_123 (by decide) ?_
  refine lv_aload_n hx hb dX10_clearBank_124 rfl (lv_at hl 1 rfl) ?_
  refine gf hC hK hP iX10 0 rfl rfl 38 (by decide) mw_fieldLink_RX10_273_MirrorDrillModel_rb_I (gs_ne (by decide) h_fs_38) dX10_clearBank_125 ?_
  refine lv_imul hx hb dX10_clearBank_128 ?_
  refine lv_cst (v := 4) (by decide) ?_
  refine lv_iload_n hx hb dX10_clearBank_129 rfl (lv_at hl 0 rfl) ?_
  refine lv_iadd hx hb dX10_clearBank_130 ?_
  refine lv_cst (v := 4) (by decide) ?_
  refine lv_iload_n hx hb dX10_clearBank_131 rfl (lv_at hl 0 rfl) ?_
  refine va_iast hx hb hK hP hD hS 11 1 rfl rfl (vin (by decide)) dX10_clearBank_132 (fun H locs hP hD hS => ?_)
  obtain ⟨f_12, ef_12⟩ : ∃ g : Nat → Int32, g = upd fwo ((4 : Int32).toNatClampNeg) 0 := ⟨_, rfl⟩
  rw [← ef_12] at hP hD
  have hP : va_P D classes [(o, .inr (10, (fs.set 39 (.int 600)))), (mv, .inl (cyI, 2, .inl f_1)), (mn, .inl (cyI, 2, .inl f_2)), (rl, .inl (cyI, 2, .inl f_3)), (uo, .inl (cyI, 2, .inl f_4)), (ed, .inl (cyI, 2, .inl f_5)), (z1, .inl (cyZ, 2, .inl f_6)), (z2, .inl (cyZ, 2, .inl f_7)), (rg, .inl (cyZ, 2, .inl f_8)), (z4, .inl (cyZ, 2, .inl f_9)), (z5, .inl (cyZ, 2, .inl f_10)), (wo, .inl (cyI, 8, .inl f_12)), (fi, .inl (cyI, 60, .inl ffi)), (bym, .inl (cyI, 60, .inl fby)), (wi, .inl (cyI, 60, .inl fwi)), (tu, .inl (cyZ, 60, .inl ftu)), (cr, .inl (cyZ, 60, .inl fcr)), (tld, .inl (cyZ, 60, .inl fto))] H := hP
  have hD : va_D A [(o, .inr (10, (fs.set 39 (.int 600)))), (mv, .inl (cyI, 2, .inl f_1)), (mn, .inl (cyI, 2, .inl f_2)), (rl, .inl (cyI, 2, .inl f_3)), (uo, .inl (cyI, 2, .inl f_4)), (ed, .inl (cyI, 2, .inl f_5)), (z1, .inl (cyZ, 2, .inl f_6)), (z2, .inl (cyZ, 2, .inl f_7)), (rg, .inl (cyZ, 2, .inl f_8)), (z4, .inl (cyZ, 2, .inl f_9)), (z5, .inl (cyZ, 2, .inl f_10)), (wo, .inl (cyI, 8, .inl f_12)), (fi, .inl (cyI, 60, .inl ffi)), (bym, .inl (cyI, 60, .inl fby)), (wi, .inl (cyI, 60, .inl fwi)), (tu, .inl (cyZ, 60, .inl ftu)), (cr, .inl (cyZ, 60, .inl fcr)), (tld, .inl (cyZ, 60, .inl fto))] := hD
  refine lv_iinc (v := 1) (lv' := [(1, .int 1), (0, .ref o)]) hx hb dX10_clearBank_133 hl (k := 0) rfl (by decide) (by decide) rfl (fun ls hl => ?_)
  refine lv_goto (tgt := 114) hx hb dX10_clearBank_136 (by decide) ?_
  refine lv_iload_n hx hb dX10_clearBank_114 rfl (lv_at hl 0 rfl) ?_
  refine lv_iconst (v := 4) hx hb dX10_clearBank_115 (by decide) ?_
  refine lv_icmp_ge (tgt := 139) hx hb dX10_clearBank_116 (by decide) (fun c_13 => absurd c_13 (by decide)) (fun c_13 => ?_)
  refine lv_aload_n hx hb dX10_clearBank_119 rfl (lv_at hl 1 rfl) ?_
  refine gf hC hK hP iX10 0 rfl rfl 16 (by decide) mw_fieldLink_RX10_36_MirrorDrillModel_worthOf_I (gs_ne (by decide) h_fs_16) dX10_clearBank_120 ?_
  refine lv_iconst (v := 4) hx hb dX10_clearBank_123 (by decide) ?_
  refine lv_aload_n hx hb dX10_clearBank_124 rfl (lv_at hl 1 rfl) ?_
  refine gf hC hK hP iX10 0 rfl rfl 38 (by decide) mw_fieldLink_RX10_273_MirrorDrillModel_rb_I (gs_ne (by decide) h_fs_38) dX10_clearBank_125 ?_
  refine lv_imul hx hb dX10_clearBank_128 ?_
  refine lv_cst (v := 4) (by decide) ?_
  refine lv_iload_n hx hb dX10_clearBank_129 rfl (lv_at hl 0 rfl) ?_
  refine lv_iadd hx hb dX10_clearBank_130 ?_
  refine lv_cst (v := 5) (by decide) ?_
  refine lv_iload_n hx hb dX10_clearBank_131 rfl (lv_at hl 0 rfl) ?_
  refine va_iast hx hb hK hP hD hS 11 1 rfl rfl (vin (by decide)) dX10_clearBank_132 (fun H locs hP hD hS => ?_)
  obtain ⟨f_14, ef_14⟩ : ∃ g : Nat → Int32, g = upd f_12 ((5 : Int32).toNatClampNeg) 1 := ⟨_, rfl⟩
  rw [← ef_14] at hP hD
  have hP : va_P D classes [(o, .inr (10, (fs.set 39 (.int 600)))), (mv, .inl (cyI, 2, .inl f_1)), (mn, .inl (cyI, 2, .inl f_2)), (rl, .inl (cyI, 2, .inl f_3)), (uo, .inl (cyI, 2, .inl f_4)), (ed, .inl (cyI, 2, .inl f_5)), (z1, .inl (cyZ, 2, .inl f_6)), (z2, .inl (cyZ, 2, .inl f_7)), (rg, .inl (cyZ, 2, .inl f_8)), (z4, .inl (cyZ, 2, .inl f_9)), (z5, .inl (cyZ, 2, .inl f_10)), (wo, .inl (cyI, 8, .inl f_14)), (fi, .inl (cyI, 60, .inl ffi)), (bym, .inl (cyI, 60, .inl fby)), (wi, .inl (cyI, 60, .inl fwi)), (tu, .inl (cyZ, 60, .inl ftu)), (cr, .inl (cyZ, 60, .inl fcr)), (tld, .inl (cyZ, 60, .inl fto))] H := hP
  have hD : va_D A [(o, .inr (10, (fs.set 39 (.int 600)))), (mv, .inl (cyI, 2, .inl f_1)), (mn, .inl (cyI, 2, .inl f_2)), (rl, .inl (cyI, 2, .inl f_3)), (uo, .inl (cyI, 2, .inl f_4)), (ed, .inl (cyI, 2, .inl f_5)), (z1, .inl (cyZ, 2, .inl f_6)), (z2, .inl (cyZ, 2, .inl f_7)), (rg, .inl (cyZ, 2, .inl f_8)), (z4, .inl (cyZ, 2, .inl f_9)), (z5, .inl (cyZ, 2, .inl f_10)), (wo, .inl (cyI, 8, .inl f_14)), (fi, .inl (cyI, 60, .inl ffi)), (bym, .inl (cyI, 60, .inl fby)), (wi, .inl (cyI, 60, .inl fwi)), (tu, .inl (cyZ, 60, .inl ftu)), (cr, .inl (cyZ, 60, .inl fcr)), (tld, .inl (cyZ, 60, .inl fto))] := hD
  refine lv_iinc (v := 2) (lv' := [(1, .int 2), (0, .ref o)]) hx hb dX10_clearBank_133 hl (k := 0) rfl (by decide) (by decide) rfl (fun ls hl => ?_)
  refine lv_goto (tgt := 114) hx hb dX10_clearBank_136 (by decide) ?_
  refine lv_iload_n hx hb dX10_clearBank_114 rfl (lv_at hl 0 rfl) ?_
  refine lv_iconst (v := 4) hx hb dX10_clearBank_115 (by decide) ?_
  refine lv_icmp_ge (tgt := 139) hx hb dX10_clearBank_116 (by decide) (fun c_15 => absurd c_15 (by decide)) (fun c_15 => ?_)
  refine lv_aload_n hx hb dX10_clearBank_119 rfl (lv_at hl 1 rfl) ?_
  refine gf hC hK hP iX10 0 rfl rfl 16 (by decide) mw_fieldLink_RX10_36_MirrorDrillModel_worthOf_I (gs_ne (by decide) h_fs_16) dX10_clearBank_120 ?_
  refine lv_iconst (v := 4) hx hb dX10_clearBank_123 (by decide) ?_
  refine lv_aload_n hx hb dX10_clearBank_124 rfl (lv_at hl 1 rfl) ?_
  refine gf hC hK hP iX10 0 rfl rfl 38 (by decide) mw_fieldLink_RX10_273_MirrorDrillModel_rb_I (gs_ne (by decide) h_fs_38) dX10_clearBank_125 ?_
  refine lv_imul hx hb dX10_clearBank_128 ?_
  refine lv_cst (v := 4) (by decide) ?_
  refine lv_iload_n hx hb dX10_clearBank_129 rfl (lv_at hl 0 rfl) ?_
  refine lv_iadd hx hb dX10_clearBank_130 ?_
  refine lv_cst (v := 6) (by decide) ?_
  refine lv_iload_n hx hb dX10_clearBank_131 rfl (lv_at hl 0 rfl) ?_
  refine va_iast hx hb hK hP hD hS 11 1 rfl rfl (vin (by decide)) dX10_clearBank_132 (fun H locs hP hD hS => ?_)
  obtain ⟨f_16, ef_16⟩ : ∃ g : Nat → Int32, g = upd f_14 ((6 : Int32).toNatClampNeg) 2 := ⟨_, rfl⟩
  rw [← ef_16] at hP hD
  have hP : va_P D classes [(o, .inr (10, (fs.set 39 (.int 600)))), (mv, .inl (cyI, 2, .inl f_1)), (mn, .inl (cyI, 2, .inl f_2)), (rl, .inl (cyI, 2, .inl f_3)), (uo, .inl (cyI, 2, .inl f_4)), (ed, .inl (cyI, 2, .inl f_5)), (z1, .inl (cyZ, 2, .inl f_6)), (z2, .inl (cyZ, 2, .inl f_7)), (rg, .inl (cyZ, 2, .inl f_8)), (z4, .inl (cyZ, 2, .inl f_9)), (z5, .inl (cyZ, 2, .inl f_10)), (wo, .inl (cyI, 8, .inl f_16)), (fi, .inl (cyI, 60, .inl ffi)), (bym, .inl (cyI, 60, .inl fby)), (wi, .inl (cyI, 60, .inl fwi)), (tu, .inl (cyZ, 60, .inl ftu)), (cr, .inl (cyZ, 60, .inl fcr)), (tld, .inl (cyZ, 60, .inl fto))] H := hP
  have hD : va_D A [(o, .inr (10, (fs.set 39 (.int 600)))), (mv, .inl (cyI, 2, .inl f_1)), (mn, .inl (cyI, 2, .inl f_2)), (rl, .inl (cyI, 2, .inl f_3)), (uo, .inl (cyI, 2, .inl f_4)), (ed, .inl (cyI, 2, .inl f_5)), (z1, .inl (cyZ, 2, .inl f_6)), (z2, .inl (cyZ, 2, .inl f_7)), (rg, .inl (cyZ, 2, .inl f_8)), (z4, .inl (cyZ, 2, .inl f_9)), (z5, .inl (cyZ, 2, .inl f_10)), (wo, .inl (cyI, 8, .inl f_16)), (fi, .inl (cyI, 60, .inl ffi)), (bym, .inl (cyI, 60, .inl fby)), (wi, .inl (cyI, 60, .inl fwi)), (tu, .inl (cyZ, 60, .inl ftu)), (cr, .inl (cyZ, 60, .inl fcr)), (tld, .inl (cyZ, 60, .inl fto))] := hD
  refine lv_iinc (v := 3) (lv' := [(1, .int 3), (0, .ref o)]) hx hb dX10_clearBank_133 hl (k := 0) rfl (by decide) (by decide) rfl (fun ls hl => ?_)
  refine lv_goto (tgt := 114) hx hb dX10_clearBank_136 (by decide) ?_
  refine lv_iload_n hx hb dX10_clearBank_114 rfl (lv_at hl 0 rfl) ?_
  refine lv_iconst (v := 4) hx hb dX10_clearBank_115 (by decide) ?_
  refine lv_icmp_ge (tgt := 139) hx hb dX10_clearBank_116 (by decide) (fun c_17 => absurd c_17 (by decide)) (fun c_17 => ?_)
  refine lv_aload_n hx hb dX10_clearBank_119 rfl (lv_at hl 1 rfl) ?_
  refine gf hC hK hP iX10 0 rfl rfl 16 (by decide) mw_fieldLink_RX10_36_MirrorDrillModel_worthOf_I (gs_ne (by decide) h_fs_16) dX10_clearBank_120 ?_
  refine lv_iconst (v := 4) hx hb dX10_clearBank_123 (by decide) ?_
  refine lv_aload_n hx hb dX10_clearBank_124 rfl (lv_at hl 1 rfl) ?_
  refine gf hC hK hP iX10 0 rfl rfl 38 (by decide) mw_fieldLink_RX10_273_MirrorDrillModel_rb_I (gs_ne (by decide) h_fs_38) dX10_clearBank_125 ?_
  refine lv_imul hx hb dX10_clearBank_128 ?_
  refine lv_cst (v := 4) (by decide) ?_
  refine lv_iload_n hx hb dX10_clearBank_129 rfl (lv_at hl 0 rfl) ?_
  refine lv_iadd hx hb dX10_clearBank_130 ?_
  refine lv_cst (v := 7) (by decide) ?_
  refine lv_iload_n hx hb dX10_clearBank_131 rfl (lv_at hl 0 rfl) ?_
  refine va_iast hx hb hK hP hD hS 11 1 rfl rfl (vin (by decide)) dX10_clearBank_132 (fun H locs hP hD hS => ?_)
  obtain ⟨f_18, ef_18⟩ : ∃ g : Nat → Int32, g = upd f_16 ((7 : Int32).toNatClampNeg) 3 := ⟨_, rfl⟩
  rw [← ef_18] at hP hD
  have hP : va_P D classes [(o, .inr (10, (fs.set 39 (.int 600)))), (mv, .inl (cyI, 2, .inl f_1)), (mn, .inl (cyI, 2, .inl f_2)), (rl, .inl (cyI, 2, .inl f_3)), (uo, .inl (cyI, 2, .inl f_4)), (ed, .inl (cyI, 2, .inl f_5)), (z1, .inl (cyZ, 2, .inl f_6)), (z2, .inl (cyZ, 2, .inl f_7)), (rg, .inl (cyZ, 2, .inl f_8)), (z4, .inl (cyZ, 2, .inl f_9)), (z5, .inl (cyZ, 2, .inl f_10)), (wo, .inl (cyI, 8, .inl f_18)), (fi, .inl (cyI, 60, .inl ffi)), (bym, .inl (cyI, 60, .inl fby)), (wi, .inl (cyI, 60, .inl fwi)), (tu, .inl (cyZ, 60, .inl ftu)), (cr, .inl (cyZ, 60, .inl fcr)), (tld, .inl (cyZ, 60, .inl fto))] H := hP
  have hD : va_D A [(o, .inr (10, (fs.set 39 (.int 600)))), (mv, .inl (cyI, 2, .inl f_1)), (mn, .inl (cyI, 2, .inl f_2)), (rl, .inl (cyI, 2, .inl f_3)), (uo, .inl (cyI, 2, .inl f_4)), (ed, .inl (cyI, 2, .inl f_5)), (z1, .inl (cyZ, 2, .inl f_6)), (z2, .inl (cyZ, 2, .inl f_7)), (rg, .inl (cyZ, 2, .inl f_8)), (z4, .inl (cyZ, 2, .inl f_9)), (z5, .inl (cyZ, 2, .inl f_10)), (wo, .inl (cyI, 8, .inl f_18)), (fi, .inl (cyI, 60, .inl ffi)), (bym, .inl (cyI, 60, .inl fby)), (wi, .inl (cyI, 60, .inl fwi)), (tu, .inl (cyZ, 60, .inl ftu)), (cr, .inl (cyZ, 60, .inl fcr)), (tld, .inl (cyZ, 60, .inl fto))] := hD
  refine lv_iinc (v := 4) (lv' := [(1, .int 4), (0, .ref o)]) hx hb dX10_clearBank_133 hl (k := 0) rfl (by decide) (by decide) rfl (fun ls hl => ?_)
  refine lv_goto (tgt := 114) hx hb dX10_clearBank_136 (by decide) ?_
  refine lv_iload_n hx hb dX10_clearBank_114 rfl (lv_at hl 0 rfl) ?_
  refine lv_iconst (v := 4) hx hb dX10_clearBank_115 (by decide) ?_
  refine lv_icmp_ge (tgt := 139) hx hb dX10_clearBank_116 (by decide) (fun c_19 => ?_) (fun c_19 => absurd (by decide) c_19)
  refine lv_bipush (v := 30) hx hb dX10_clearBank_139 (by decide) ?_
  refine lv_aload_n hx hb dX10_clearBank_141 rfl (lv_at hl 1 rfl) ?_
  refine gf hC hK hP iX10 0 rfl rfl 38 (by decide) mw_fieldLink_RX10_273_MirrorDrillModel_rb_I (gs_ne (by decide) h_fs_38) dX10_clearBank_142 ?_
  refine lv_imul hx hb dX10_clearBank_145 ?_
  refine lv_cst (v := 30) (by decide) ?_
  refine lv_istore_n (lv' := [(1, .int 30), (0, .ref o)]) hx hb dX10_clearBank_146 rfl hl (by decide) rfl (fun ls hl => ?_)
  have lp : ∀ (n i : Nat) (g0 : Nat → Int32) (g1 : Nat → Int32) (g2 : Nat → Int32) (g3 : Nat → Int32) (g4 : Nat → Int32) (g5 : Nat → Int32) (H : Heap) (locs : List Loc) (ls : Array Slot), i + n = 60 → lv_has ls 2 [(1, .int (nI i)), (0, .ref o)] → va_P D classes [(o, .inr (10, (fs.set 39 (.int 600)))), (mv, .inl (cyI, 2, .inl f_1)), (mn, .inl (cyI, 2, .inl f_2)), (rl, .inl (cyI, 2, .inl f_3)), (uo, .inl (cyI, 2, .inl f_4)), (ed, .inl (cyI, 2, .inl f_5)), (z1, .inl (cyZ, 2, .inl f_6)), (z2, .inl (cyZ, 2, .inl f_7)), (rg, .inl (cyZ, 2, .inl f_8)), (z4, .inl (cyZ, 2, .inl f_9)), (z5, .inl (cyZ, 2, .inl f_10)), (wo, .inl (cyI, 8, .inl f_18)), (fi, .inl (cyI, 60, .inl g0)), (bym, .inl (cyI, 60, .inl g1)), (wi, .inl (cyI, 60, .inl g2)), (tu, .inl (cyZ, 60, .inl g3)), (cr, .inl (cyZ, 60, .inl g4)), (tld, .inl (cyZ, 60, .inl g5))] H → va_D A [(o, .inr (10, (fs.set 39 (.int 600)))), (mv, .inl (cyI, 2, .inl f_1)), (mn, .inl (cyI, 2, .inl f_2)), (rl, .inl (cyI, 2, .inl f_3)), (uo, .inl (cyI, 2, .inl f_4)), (ed, .inl (cyI, 2, .inl f_5)), (z1, .inl (cyZ, 2, .inl f_6)), (z2, .inl (cyZ, 2, .inl f_7)), (rg, .inl (cyZ, 2, .inl f_8)), (z4, .inl (cyZ, 2, .inl f_9)), (z5, .inl (cyZ, 2, .inl f_10)), (wo, .inl (cyI, 8, .inl f_18)), (fi, .inl (cyI, 60, .inl g0)), (bym, .inl (cyI, 60, .inl g1)), (wi, .inl (cyI, 60, .inl g2)), (tu, .inl (cyZ, 60, .inl g3)), (cr, .inl (cyZ, 60, .inl g4)), (tld, .inl (cyZ, 60, .inl g5))] → va_S A s.heap H locs → W p l e (rmK 0 0 0) s m ([.ref o] : List Value).toArray below meth c H locs 0 0 (MQ below (va_Qv (fun (u : (Nat → Int32) × (Nat → Int32) × (Nat → Int32) × (Nat → Int32) × (Nat → Int32) × (Nat → Int32) × (Nat → Int32) × (Nat → Int32) × (Nat → Int32) × (Nat → Int32) × (Nat → Int32) × (Nat → Int32) × (Nat → Int32) × (Nat → Int32) × (Nat → Int32) × (Nat → Int32) × (Nat → Int32)) => u.1 1 = 2 ∧ u.2.1 1 = 0 ∧ u.2.2.1 1 = 0 ∧ u.2.2.2.1 1 = 0 ∧ u.2.2.2.2.2.2.2.1 1 = 0) (fun u => Aft D A ((fun (u : (Nat → Int32) × (Nat → Int32) × (Nat → Int32) × (Nat → Int32) × (Nat → Int32) × (Nat → Int32) × (Nat → Int32) × (Nat → Int32) × (Nat → Int32) × (Nat → Int32) × (Nat → Int32) × (Nat → Int32) × (Nat → Int32) × (Nat → Int32) × (Nat → Int32) × (Nat → Int32) × (Nat → Int32)) => ([(o, .inr (10, (fs.set 39 (.int 600)))), (mv, .inl (cyI, 2, .inl u.1)), (mn, .inl (cyI, 2, .inl u.2.1)), (rl, .inl (cyI, 2, .inl u.2.2.1)), (uo, .inl (cyI, 2, .inl u.2.2.2.1)), (ed, .inl (cyI, 2, .inl u.2.2.2.2.1)), (z1, .inl (cyZ, 2, .inl u.2.2.2.2.2.1)), (z2, .inl (cyZ, 2, .inl u.2.2.2.2.2.2.1)), (rg, .inl (cyZ, 2, .inl u.2.2.2.2.2.2.2.1)), (z4, .inl (cyZ, 2, .inl u.2.2.2.2.2.2.2.2.1)), (z5, .inl (cyZ, 2, .inl u.2.2.2.2.2.2.2.2.2.1)), (wo, .inl (cyI, 8, .inl u.2.2.2.2.2.2.2.2.2.2.1)), (fi, .inl (cyI, 60, .inl u.2.2.2.2.2.2.2.2.2.2.2.1)), (bym, .inl (cyI, 60, .inl u.2.2.2.2.2.2.2.2.2.2.2.2.1)), (wi, .inl (cyI, 60, .inl u.2.2.2.2.2.2.2.2.2.2.2.2.2.1)), (tu, .inl (cyZ, 60, .inl u.2.2.2.2.2.2.2.2.2.2.2.2.2.2.1)), (cr, .inl (cyZ, 60, .inl u.2.2.2.2.2.2.2.2.2.2.2.2.2.2.2.1)), (tld, .inl (cyZ, 60, .inl u.2.2.2.2.2.2.2.2.2.2.2.2.2.2.2.2))] : va_W)) u)) A) ([.ref o] : List Value).toArray s 0 0 A) (F0 m 147 ls []) := by
    intro n
    induction n with
    | zero =>
      intro i g0 g1 g2 g3 g4 g5 H locs ls hi hl hP hD hS
      obtain rfl : i = 60 := by omega
      refine lv_iload_n hx hb dX10_clearBank_147 rfl (lv_at hl 0 rfl) ?_
      refine lv_bipush (v := 30) hx hb dX10_clearBank_148 (by decide) ?_
      refine lv_aload_n hx hb dX10_clearBank_150 rfl (lv_at hl 1 rfl) ?_
      refine gf hC hK hP iX10 0 rfl rfl 38 (by decide) mw_fieldLink_RX10_273_MirrorDrillModel_rb_I (gs_ne (by decide) h_fs_38) dX10_clearBank_151 ?_
      refine lv_imul hx hb dX10_clearBank_154 ?_
      refine lv_cst (v := 30) (by decide) ?_
      refine lv_bipush (v := 30) hx hb dX10_clearBank_155 (by decide) ?_
      refine lv_iadd hx hb dX10_clearBank_157 ?_
      refine lv_cst (v := 60) (by decide) ?_
      refine lv_icmp_ge (tgt := 209) hx hb dX10_clearBank_158 (by decide) (fun c_20 => ?_) (fun c_20 => absurd (by decide) c_20)
      exact retV hC hP hD hS (by decide) (by decide) (f_1, f_2, f_3, f_4, f_5, f_6, f_7, f_8, f_9, f_10, f_18, g0, g1, g2, g3, g4, g5) [0, 1, 2, 3, 4, 5, 6, 7, 8, 9, 10, 11, 12, 13, 14, 15, 16, 17] rfl rfl ⟨(show f_1 1 = 2 from by rw [ef_1]; exact us_at (by decide)), (show f_2 1 = 0 from by rw [ef_2]; exact us_at (by decide)), (show f_3 1 = 0 from by rw [ef_3]; exact us_at (by decide)), (show f_4 1 = 0 from by rw [ef_4]; exact us_at (by decide)), (show f_8 1 = 0 from by rw [ef_8]; exact (us_at (by decide)).trans (by decide))⟩ dX10_clearBank_209
    | succ n ih =>
      intro i g0 g1 g2 g3 g4 g5 H locs ls hi hl hP hD hS
      have hlt : i < 60 := by omega
      refine lv_iload_n hx hb dX10_clearBank_147 rfl (lv_at hl 0 rfl) ?_
      refine lv_bipush (v := 30) hx hb dX10_clearBank_148 (by decide) ?_
      refine lv_aload_n hx hb dX10_clearBank_150 rfl (lv_at hl 1 rfl) ?_
      refine gf hC hK hP iX10 0 rfl rfl 38 (by decide) mw_fieldLink_RX10_273_MirrorDrillModel_rb_I (gs_ne (by decide) h_fs_38) dX10_clearBank_151 ?_
      refine lv_imul hx hb dX10_clearBank_154 ?_
      refine lv_cst (v := 30) (by decide) ?_
      refine lv_bipush (v := 30) hx hb dX10_clearBank_155 (by decide) ?_
      refine lv_iadd hx hb dX10_clearBank_157 ?_
      refine lv_cst (v := 60) (by decide) ?_
      refine lv_icmp_ge (tgt := 209) hx hb dX10_clearBank_158 (by decide) (fun c_21 => absurd c_21 (nI_ge (b := 60) hlt (by decide))) (fun c_21 => ?_)
      refine lv_aload_n hx hb dX10_clearBank_161 rfl (lv_at hl 1 rfl) ?_
      refine gf hC hK hP iX10 0 rfl rfl 20 (by decide) mw_fieldLink_RX10_48_MirrorDrillModel_first_I (gs_ne (by decide) h_fs_20) dX10_clearBank_162 ?_
      refine lv_iload_n hx hb dX10_clearBank_165 rfl (lv_at hl 0 rfl) ?_
      refine lv_iconst (v := 0) hx hb dX10_clearBank_166 (by decide) ?_
      refine va_iast hx hb hK hP hD hS 12 1 rfl rfl (vp_in_nI (by omega) (by decide)) dX10_clearBank_167 (fun H locs hP hD hS => ?_)
      obtain ⟨f_22, ef_22⟩ : ∃ g : Nat → Int32, g = upd g0 (((nI i) : Int32).toNatClampNeg) 0 := ⟨_, rfl⟩
      rw [← ef_22] at hP hD
      have hP : va_P D classes [(o, .inr (10, (fs.set 39 (.int 600)))), (mv, .inl (cyI, 2, .inl f_1)), (mn, .inl (cyI, 2, .inl f_2)), (rl, .inl (cyI, 2, .inl f_3)), (uo, .inl (cyI, 2, .inl f_4)), (ed, .inl (cyI, 2, .inl f_5)), (z1, .inl (cyZ, 2, .inl f_6)), (z2, .inl (cyZ, 2, .inl f_7)), (rg, .inl (cyZ, 2, .inl f_8)), (z4, .inl (cyZ, 2, .inl f_9)), (z5, .inl (cyZ, 2, .inl f_10)), (wo, .inl (cyI, 8, .inl f_18)), (fi, .inl (cyI, 60, .inl f_22)), (bym, .inl (cyI, 60, .inl g1)), (wi, .inl (cyI, 60, .inl g2)), (tu, .inl (cyZ, 60, .inl g3)), (cr, .inl (cyZ, 60, .inl g4)), (tld, .inl (cyZ, 60, .inl g5))] H := hP
      have hD : va_D A [(o, .inr (10, (fs.set 39 (.int 600)))), (mv, .inl (cyI, 2, .inl f_1)), (mn, .inl (cyI, 2, .inl f_2)), (rl, .inl (cyI, 2, .inl f_3)), (uo, .inl (cyI, 2, .inl f_4)), (ed, .inl (cyI, 2, .inl f_5)), (z1, .inl (cyZ, 2, .inl f_6)), (z2, .inl (cyZ, 2, .inl f_7)), (rg, .inl (cyZ, 2, .inl f_8)), (z4, .inl (cyZ, 2, .inl f_9)), (z5, .inl (cyZ, 2, .inl f_10)), (wo, .inl (cyI, 8, .inl f_18)), (fi, .inl (cyI, 60, .inl f_22)), (bym, .inl (cyI, 60, .inl g1)), (wi, .inl (cyI, 60, .inl g2)), (tu, .inl (cyZ, 60, .inl g3)), (cr, .inl (cyZ, 60, .inl g4)), (tld, .inl (cyZ, 60, .inl g5))] := hD
      refine lv_aload_n hx hb dX10_clearBank_168 rfl (lv_at hl 1 rfl) ?_
      refine gf hC hK hP iX10 0 rfl rfl 21 (by decide) mw_fieldLink_RX10_51_MirrorDrillModel_byRule_I (gs_ne (by decide) h_fs_21) dX10_clearBank_169 ?_
      refine lv_iload_n hx hb dX10_clearBank_172 rfl (lv_at hl 0 rfl) ?_
      refine lv_iconst (v := 0) hx hb dX10_clearBank_173 (by decide) ?_
      refine va_iast hx hb hK hP hD hS 13 1 rfl rfl (vp_in_nI (by omega) (by decide)) dX10_clearBank_174 (fun H locs hP hD hS => ?_)
      obtain ⟨f_23, ef_23⟩ : ∃ g : Nat → Int32, g = upd g1 (((nI i) : Int32).toNatClampNeg) 0 := ⟨_, rfl⟩
      rw [← ef_23] at hP hD
      have hP : va_P D classes [(o, .inr (10, (fs.set 39 (.int 600)))), (mv, .inl (cyI, 2, .inl f_1)), (mn, .inl (cyI, 2, .inl f_2)), (rl, .inl (cyI, 2, .inl f_3)), (uo, .inl (cyI, 2, .inl f_4)), (ed, .inl (cyI, 2, .inl f_5)), (z1, .inl (cyZ, 2, .inl f_6)), (z2, .inl (cyZ, 2, .inl f_7)), (rg, .inl (cyZ, 2, .inl f_8)), (z4, .inl (cyZ, 2, .inl f_9)), (z5, .inl (cyZ, 2, .inl f_10)), (wo, .inl (cyI, 8, .inl f_18)), (fi, .inl (cyI, 60, .inl f_22)), (bym, .inl (cyI, 60, .inl f_23)), (wi, .inl (cyI, 60, .inl g2)), (tu, .inl (cyZ, 60, .inl g3)), (cr, .inl (cyZ, 60, .inl g4)), (tld, .inl (cyZ, 60, .inl g5))] H := hP
      have hD : va_D A [(o, .inr (10, (fs.set 39 (.int 600)))), (mv, .inl (cyI, 2, .inl f_1)), (mn, .inl (cyI, 2, .inl f_2)), (rl, .inl (cyI, 2, .inl f_3)), (uo, .inl (cyI, 2, .inl f_4)), (ed, .inl (cyI, 2, .inl f_5)), (z1, .inl (cyZ, 2, .inl f_6)), (z2, .inl (cyZ, 2, .inl f_7)), (rg, .inl (cyZ, 2, .inl f_8)), (z4, .inl (cyZ, 2, .inl f_9)), (z5, .inl (cyZ, 2, .inl f_10)), (wo, .inl (cyI, 8, .inl f_18)), (fi, .inl (cyI, 60, .inl f_22)), (bym, .inl (cyI, 60, .inl f_23)), (wi, .inl (cyI, 60, .inl g2)), (tu, .inl (cyZ, 60, .inl g3)), (cr, .inl (cyZ, 60, .inl g4)), (tld, .inl (cyZ, 60, .inl g5))] := hD
      refine lv_aload_n hx hb dX10_clearBank_175 rfl (lv_at hl 1 rfl) ?_
      refine gf hC hK hP iX10 0 rfl rfl 22 (by decide) mw_fieldLink_RX10_54_MirrorDrillModel_window_I (gs_ne (by decide) h_fs_22) dX10_clearBank_176 ?_
      refine lv_iload_n hx hb dX10_clearBank_179 rfl (lv_at hl 0 rfl) ?_
      refine lv_iconst (v := (-1)) hx hb dX10_clearBank_180 (by decide) ?_
      refine va_iast hx hb hK hP hD hS 14 1 rfl rfl (vp_in_nI (by omega) (by decide)) dX10_clearBank_181 (fun H locs hP hD hS => ?_)
      obtain ⟨f_24, ef_24⟩ : ∃ g : Nat → Int32, g = upd g2 (((nI i) : Int32).toNatClampNeg) (-1) := ⟨_, rfl⟩
      rw [← ef_24] at hP hD
      have hP : va_P D classes [(o, .inr (10, (fs.set 39 (.int 600)))), (mv, .inl (cyI, 2, .inl f_1)), (mn, .inl (cyI, 2, .inl f_2)), (rl, .inl (cyI, 2, .inl f_3)), (uo, .inl (cyI, 2, .inl f_4)), (ed, .inl (cyI, 2, .inl f_5)), (z1, .inl (cyZ, 2, .inl f_6)), (z2, .inl (cyZ, 2, .inl f_7)), (rg, .inl (cyZ, 2, .inl f_8)), (z4, .inl (cyZ, 2, .inl f_9)), (z5, .inl (cyZ, 2, .inl f_10)), (wo, .inl (cyI, 8, .inl f_18)), (fi, .inl (cyI, 60, .inl f_22)), (bym, .inl (cyI, 60, .inl f_23)), (wi, .inl (cyI, 60, .inl f_24)), (tu, .inl (cyZ, 60, .inl g3)), (cr, .inl (cyZ, 60, .inl g4)), (tld, .inl (cyZ, 60, .inl g5))] H := hP
      have hD : va_D A [(o, .inr (10, (fs.set 39 (.int 600)))), (mv, .inl (cyI, 2, .inl f_1)), (mn, .inl (cyI, 2, .inl f_2)), (rl, .inl (cyI, 2, .inl f_3)), (uo, .inl (cyI, 2, .inl f_4)), (ed, .inl (cyI, 2, .inl f_5)), (z1, .inl (cyZ, 2, .inl f_6)), (z2, .inl (cyZ, 2, .inl f_7)), (rg, .inl (cyZ, 2, .inl f_8)), (z4, .inl (cyZ, 2, .inl f_9)), (z5, .inl (cyZ, 2, .inl f_10)), (wo, .inl (cyI, 8, .inl f_18)), (fi, .inl (cyI, 60, .inl f_22)), (bym, .inl (cyI, 60, .inl f_23)), (wi, .inl (cyI, 60, .inl f_24)), (tu, .inl (cyZ, 60, .inl g3)), (cr, .inl (cyZ, 60, .inl g4)), (tld, .inl (cyZ, 60, .inl g5))] := hD
      refine lv_aload_n hx hb dX10_clearBank_182 rfl (lv_at hl 1 rfl) ?_
      refine gf hC hK hP iX10 0 rfl rfl 28 (by decide) mw_fieldLink_RX10_73_MirrorDrillModel_isTurned_Z (gs_ne (by decide) h_fs_28) dX10_clearBank_183 ?_
      refine lv_iload_n hx hb dX10_clearBank_186 rfl (lv_at hl 0 rfl) ?_
      refine lv_iconst (v := 0) hx hb dX10_clearBank_187 (by decide) ?_
      refine va_zast hx hb hK hP hD hS 15 3 rfl rfl (vp_in_nI (by omega) (by decide)) dX10_clearBank_188 (fun H locs hP hD hS => ?_)
      obtain ⟨f_25, ef_25⟩ : ∃ g : Nat → Int32, g = upd g3 (((nI i) : Int32).toNatClampNeg) (vp_nar .boolean 0) := ⟨_, rfl⟩
      rw [← ef_25] at hP hD
      have hP : va_P D classes [(o, .inr (10, (fs.set 39 (.int 600)))), (mv, .inl (cyI, 2, .inl f_1)), (mn, .inl (cyI, 2, .inl f_2)), (rl, .inl (cyI, 2, .inl f_3)), (uo, .inl (cyI, 2, .inl f_4)), (ed, .inl (cyI, 2, .inl f_5)), (z1, .inl (cyZ, 2, .inl f_6)), (z2, .inl (cyZ, 2, .inl f_7)), (rg, .inl (cyZ, 2, .inl f_8)), (z4, .inl (cyZ, 2, .inl f_9)), (z5, .inl (cyZ, 2, .inl f_10)), (wo, .inl (cyI, 8, .inl f_18)), (fi, .inl (cyI, 60, .inl f_22)), (bym, .inl (cyI, 60, .inl f_23)), (wi, .inl (cyI, 60, .inl f_24)), (tu, .inl (cyZ, 60, .inl f_25)), (cr, .inl (cyZ, 60, .inl g4)), (tld, .inl (cyZ, 60, .inl g5))] H := hP
      have hD : va_D A [(o, .inr (10, (fs.set 39 (.int 600)))), (mv, .inl (cyI, 2, .inl f_1)), (mn, .inl (cyI, 2, .inl f_2)), (rl, .inl (cyI, 2, .inl f_3)), (uo, .inl (cyI, 2, .inl f_4)), (ed, .inl (cyI, 2, .inl f_5)), (z1, .inl (cyZ, 2, .inl f_6)), (z2, .inl (cyZ, 2, .inl f_7)), (rg, .inl (cyZ, 2, .inl f_8)), (z4, .inl (cyZ, 2, .inl f_9)), (z5, .inl (cyZ, 2, .inl f_10)), (wo, .inl (cyI, 8, .inl f_18)), (fi, .inl (cyI, 60, .inl f_22)), (bym, .inl (cyI, 60, .inl f_23)), (wi, .inl (cyI, 60, .inl f_24)), (tu, .inl (cyZ, 60, .inl f_25)), (cr, .inl (cyZ, 60, .inl g4)), (tld, .inl (cyZ, 60, .inl g5))] := hD
      refine lv_aload_n hx hb dX10_clearBank_189 rfl (lv_at hl 1 rfl) ?_
      refine gf hC hK hP iX10 0 rfl rfl 29 (by decide) mw_fieldLink_RX10_76_MirrorDrillModel_isCracked_Z (gs_ne (by decide) h_fs_29) dX10_clearBank_190 ?_
      refine lv_iload_n hx hb dX10_clearBank_193 rfl (lv_at hl 0 rfl) ?_
      refine lv_iconst (v := 0) hx hb dX10_clearBank_194 (by decide) ?_
      refine va_zast hx hb hK hP hD hS 16 3 rfl rfl (vp_in_nI (by omega) (by decide)) dX10_clearBank_195 (fun H locs hP hD hS => ?_)
      obtain ⟨f_26, ef_26⟩ : ∃ g : Nat → Int32, g = upd g4 (((nI i) : Int32).toNatClampNeg) (vp_nar .boolean 0) := ⟨_, rfl⟩
      rw [← ef_26] at hP hD
      have hP : va_P D classes [(o, .inr (10, (fs.set 39 (.int 600)))), (mv, .inl (cyI, 2, .inl f_1)), (mn, .inl (cyI, 2, .inl f_2)), (rl, .inl (cyI, 2, .inl f_3)), (uo, .inl (cyI, 2, .inl f_4)), (ed, .inl (cyI, 2, .inl f_5)), (z1, .inl (cyZ, 2, .inl f_6)), (z2, .inl (cyZ, 2, .inl f_7)), (rg, .inl (cyZ, 2, .inl f_8)), (z4, .inl (cyZ, 2, .inl f_9)), (z5, .inl (cyZ, 2, .inl f_10)), (wo, .inl (cyI, 8, .inl f_18)), (fi, .inl (cyI, 60, .inl f_22)), (bym, .inl (cyI, 60, .inl f_23)), (wi, .inl (cyI, 60, .inl f_24)), (tu, .inl (cyZ, 60, .inl f_25)), (cr, .inl (cyZ, 60, .inl f_26)), (tld, .inl (cyZ, 60, .inl g5))] H := hP
      have hD : va_D A [(o, .inr (10, (fs.set 39 (.int 600)))), (mv, .inl (cyI, 2, .inl f_1)), (mn, .inl (cyI, 2, .inl f_2)), (rl, .inl (cyI, 2, .inl f_3)), (uo, .inl (cyI, 2, .inl f_4)), (ed, .inl (cyI, 2, .inl f_5)), (z1, .inl (cyZ, 2, .inl f_6)), (z2, .inl (cyZ, 2, .inl f_7)), (rg, .inl (cyZ, 2, .inl f_8)), (z4, .inl (cyZ, 2, .inl f_9)), (z5, .inl (cyZ, 2, .inl f_10)), (wo, .inl (cyI, 8, .inl f_18)), (fi, .inl (cyI, 60, .inl f_22)), (bym, .inl (cyI, 60, .inl f_23)), (wi, .inl (cyI, 60, .inl f_24)), (tu, .inl (cyZ, 60, .inl f_25)), (cr, .inl (cyZ, 60, .inl f_26)), (tld, .inl (cyZ, 60, .inl g5))] := hD
      refine lv_aload_n hx hb dX10_clearBank_196 rfl (lv_at hl 1 rfl) ?_
      refine gf hC hK hP iX10 0 rfl rfl 30 (by decide) mw_fieldLink_RX10_79_MirrorDrillModel_isTold_Z (gs_ne (by decide) h_fs_30) dX10_clearBank_197 ?_
      refine lv_iload_n hx hb dX10_clearBank_200 rfl (lv_at hl 0 rfl) ?_
      refine lv_iconst (v := 0) hx hb dX10_clearBank_201 (by decide) ?_
      refine va_zast hx hb hK hP hD hS 17 3 rfl rfl (vp_in_nI (by omega) (by decide)) dX10_clearBank_202 (fun H locs hP hD hS => ?_)
      obtain ⟨f_27, ef_27⟩ : ∃ g : Nat → Int32, g = upd g5 (((nI i) : Int32).toNatClampNeg) (vp_nar .boolean 0) := ⟨_, rfl⟩
      rw [← ef_27] at hP hD
      have hP : va_P D classes [(o, .inr (10, (fs.set 39 (.int 600)))), (mv, .inl (cyI, 2, .inl f_1)), (mn, .inl (cyI, 2, .inl f_2)), (rl, .inl (cyI, 2, .inl f_3)), (uo, .inl (cyI, 2, .inl f_4)), (ed, .inl (cyI, 2, .inl f_5)), (z1, .inl (cyZ, 2, .inl f_6)), (z2, .inl (cyZ, 2, .inl f_7)), (rg, .inl (cyZ, 2, .inl f_8)), (z4, .inl (cyZ, 2, .inl f_9)), (z5, .inl (cyZ, 2, .inl f_10)), (wo, .inl (cyI, 8, .inl f_18)), (fi, .inl (cyI, 60, .inl f_22)), (bym, .inl (cyI, 60, .inl f_23)), (wi, .inl (cyI, 60, .inl f_24)), (tu, .inl (cyZ, 60, .inl f_25)), (cr, .inl (cyZ, 60, .inl f_26)), (tld, .inl (cyZ, 60, .inl f_27))] H := hP
      have hD : va_D A [(o, .inr (10, (fs.set 39 (.int 600)))), (mv, .inl (cyI, 2, .inl f_1)), (mn, .inl (cyI, 2, .inl f_2)), (rl, .inl (cyI, 2, .inl f_3)), (uo, .inl (cyI, 2, .inl f_4)), (ed, .inl (cyI, 2, .inl f_5)), (z1, .inl (cyZ, 2, .inl f_6)), (z2, .inl (cyZ, 2, .inl f_7)), (rg, .inl (cyZ, 2, .inl f_8)), (z4, .inl (cyZ, 2, .inl f_9)), (z5, .inl (cyZ, 2, .inl f_10)), (wo, .inl (cyI, 8, .inl f_18)), (fi, .inl (cyI, 60, .inl f_22)), (bym, .inl (cyI, 60, .inl f_23)), (wi, .inl (cyI, 60, .inl f_24)), (tu, .inl (cyZ, 60, .inl f_25)), (cr, .inl (cyZ, 60, .inl f_26)), (tld, .inl (cyZ, 60, .inl f_27))] := hD
      refine lv_iinc (v := (nI (i + 1))) (lv' := [(1, .int (nI (i + 1))), (0, .ref o)]) hx hb dX10_clearBank_203 hl (k := 0) rfl (nI_1 _) (by decide) rfl (fun ls hl => ?_)
      refine lv_goto (tgt := 147) hx hb dX10_clearBank_206 (by decide) ?_
      exact ih (i + 1) f_22 f_23 f_24 f_25 f_26 f_27 _ _ _ (by omega) (lv_sub hl [0, 1] rfl) hP hD hS
  exact lp 30 30 ffi fby fwi ftu fcr fto _ _ _ (by decide) hl hP hD hS
set_option maxHeartbeats 4000000 in
set_option maxRecDepth 100000 in
theorem k_X10_sign (l : Launch) (D : va_G) (cyB cyI cyJ cyZ : ClassId) (sz : Nat) (o : Nat) (fs : List Value) (hl_fs : fs.length = 80) (h_fs_3 : fs[3]? = some (.int 0)) : KI l yX10_sign cX10_sign 2 .int 0 0 0 D (TYS cyB cyI cyJ cyZ) [(o, .inr (10, fs))] sz [.ref o, .int 0] (fun (r : Int32) (u : Unit) => r = 0) (fun (u : Unit) => ([(o, .inr (10, fs))] : va_W)) := by
  refine entI (by decide) (Nat.le_of_ble_eq_true rfl) ?_
  intro p e s m below meth c ls A hC hl hP hK hD hA
  obtain ⟨hx, hb, hr, hml, hown, hts, hlk, hnm⟩ := id hC
  have hS : va_S A s.heap s.heap [] := va_S.rf
  have hl : lv_has ls 2 [(0, .ref o), (1, .int 0)] := hl
  generalize hHe : s.heap = H at hP ⊢
  rw [hHe] at hS
  have hS : va_S A s.heap H [] := by rw [hHe]; exact hS
  refine lv_iload_n hx hb dX10_sign_0 rfl (lv_at hl 1 rfl) ?_
  refine lv_aload_n hx hb dX10_sign_1 rfl (lv_at hl 0 rfl) ?_
  refine gf hC hK hP iX10 0 rfl rfl 3 (by decide) mw_fieldLink_RX10_183_MirrorDrillModel_size_I h_fs_3 dX10_sign_2 ?_
  refine lv_icmp_ge (tgt := 21) hx hb dX10_sign_5 (by decide) (fun c_1 => ?_) (fun c_1 => absurd (by decide) c_1)
  refine lv_iconst (v := 0) hx hb dX10_sign_21 (by decide) ?_
  exact retI hC hP hD hS (by decide) (by decide) () [0] rfl rfl rfl dX10_sign_22
set_option maxHeartbeats 4000000 in
set_option maxRecDepth 100000 in
theorem k_X10_isGood (l : Launch) (D : va_G) (cyB cyI cyJ cyZ : ClassId) (sz : Nat) (o : Nat) (fs : List Value) (hl_fs : fs.length = 80) (h_fs_4 : fs[4]? = some (.int 0)) : KI l yX10_isGood cX10_isGood 1 .boolean 0 0 0 D (TYS cyB cyI cyJ cyZ) [(o, .inr (10, fs))] sz [.ref o] (fun (r : Int32) (u : Unit) => r = 1) (fun (u : Unit) => ([(o, .inr (10, fs))] : va_W)) := by
  refine entI (by decide) (Nat.le_of_ble_eq_true rfl) ?_
  intro p e s m below meth c ls A hC hl hP hK hD hA
  obtain ⟨hx, hb, hr, hml, hown, hts, hlk, hnm⟩ := id hC
  have hS : va_S A s.heap s.heap [] := va_S.rf
  have hl : lv_has ls 1 [(0, .ref o)] := hl
  generalize hHe : s.heap = H at hP ⊢
  rw [hHe] at hS
  have hS : va_S A s.heap H [] := by rw [hHe]; exact hS
  refine lv_aload_n hx hb dX10_isGood_0 rfl (lv_at hl 0 rfl) ?_
  refine gf hC hK hP iX10 0 rfl rfl 4 (by decide) mw_fieldLink_RX10_186_MirrorDrillModel_faultKind_I h_fs_4 dX10_isGood_1 ?_
  refine lv_if_ne (tgt := 11) hx hb dX10_isGood_4 (by decide) (fun c_1 => absurd (by decide) c_1) (fun c_1 => ?_)
  refine lv_iconst (v := 1) hx hb dX10_isGood_7 (by decide) ?_
  refine lv_goto (tgt := 12) hx hb dX10_isGood_8 (by decide) ?_
  exact retZ hC hP hD hS (by decide) (by decide) () [0] rfl rfl rfl rfl dX10_isGood_12
set_option maxHeartbeats 4000000 in
set_option maxRecDepth 100000 in
theorem k_X10_goOn (l : Launch) (D : va_G) (cyB cyI cyJ cyZ : ClassId) (sz : Nat) (o : Nat) (fs : List Value) (hl_fs : fs.length = 80) (h_fs_7 : fs[7]? = some (.int 0)) (h_fs_3 : fs[3]? = some (.int 0)) : KV l yX10_goOn cX10_goOn 3 1 0 0 D (TYS cyB cyI cyJ cyZ) [(o, .inr (10, fs))] sz [.ref o] (fun (u : Unit) => True) (fun (u : Unit) => ([(o, .inr (10, (((((fs.set 6 (.int 0)).set 7 (.int 1)).set 8 (.int 0)).set 6 (.int 0)).set 7 (.int 0))))] : va_W)) := by
  refine entV (by decide) (Nat.le_of_ble_eq_true rfl) ?_
  intro p e s m below meth c ls A hC hl hP hK hD hA
  obtain ⟨hx, hb, hr, hml, hown, hts, hlk, hnm⟩ := id hC
  have hS : va_S A s.heap s.heap [] := va_S.rf
  have hl : lv_has ls 3 [(0, .ref o)] := hl
  generalize hHe : s.heap = H at hP ⊢
  rw [hHe] at hS
  have hS : va_S A s.heap H [] := by rw [hHe]; exact hS
  refine lv_aload_n hx hb dX10_goOn_0 rfl (lv_at hl 0 rfl) ?_
  refine lv_aload_n hx hb dX10_goOn_1 rfl (lv_at hl 0 rfl) ?_
  refine gf hC hK hP iX10 0 rfl rfl 7 (by decide) mw_fieldLink_RX10_225_MirrorDrillModel_end_I h_fs_7 dX10_goOn_2 ?_
  refine pf (v := .int 0) hC hK hP hD hS iX10 tyX10_ok nmX10 0 rfl rfl 6 (by decide) mw_fieldLink_RX10_228_MirrorDrillModel_at_I rfl rfl rfl (ln_lt hl_fs (by decide)) dX10_goOn_5 (fun H locs hP hD hS => ?_)
  have hP : va_P D classes [(o, .inr (10, (fs.set 6 (.int 0))))] H := hP
  have hD : va_D A [(o, .inr (10, (fs.set 6 (.int 0))))] := hD
  refine lv_aload_n hx hb dX10_goOn_8 rfl (lv_at hl 0 rfl) ?_
  refine gf hC hK hP iX10 0 rfl rfl 6 (by decide) mw_fieldLink_RX10_228_MirrorDrillModel_at_I (gs_eq (ln_lt hl_fs (by decide))) dX10_goOn_9 ?_
  refine lv_aload_n hx hb dX10_goOn_12 rfl (lv_at hl 0 rfl) ?_
  refine gf hC hK hP iX10 0 rfl rfl 3 (by decide) mw_fieldLink_RX10_183_MirrorDrillModel_size_I (gs_ne (by decide) h_fs_3) dX10_goOn_13 ?_
  refine lv_icmp_ge (tgt := 58) hx hb dX10_goOn_16 (by decide) (fun c_1 => ?_) (fun c_1 => absurd (by decide) c_1)
  refine lv_aload_n hx hb dX10_goOn_58 rfl (lv_at hl 0 rfl) ?_
  refine lv_aload_n hx hb dX10_goOn_59 rfl (lv_at hl 0 rfl) ?_
  refine gf hC hK hP iX10 0 rfl rfl 6 (by decide) mw_fieldLink_RX10_228_MirrorDrillModel_at_I (gs_eq (ln_lt hl_fs (by decide))) dX10_goOn_60 ?_
  refine aftI (wr := []) (runV hC hK hP hD hl.1 (k_X10_sign l D cyB cyI cyJ cyZ H.size o (fs.set 6 (.int 0)) (ln_set hl_fs) (gs_ne (by decide) h_fs_3)) cV_X10_sign mw_methodLink_RX10_231_yX10_sign [0] rfl rfl 0 rfl rfl rfl rfl rfl (Nat.le_of_ble_eq_true rfl) ⟨by decide, by decide⟩ ⟨by decide, by decide⟩ dX10_goOn_63) hP hD hS hA [0] [] rfl rfl rfl (by decide) (fun r_2 u_2 H locs hw_2 hP hD hS => ?_)
  have hr_2 := hw_2
  refine lv_cst (v := 0) hr_2 ?_
  have hP : va_P D classes [(o, .inr (10, (fs.set 6 (.int 0))))] H := hP
  have hD : va_D A [(o, .inr (10, (fs.set 6 (.int 0))))] := hD
  refine W.widen (k := 0) (n := 0) (by decide) (by decide) ?_
  refine lv_istore_n (lv' := [(1, .int 0), (0, .ref o)]) hx hb dX10_goOn_66 rfl hl (by decide) rfl (fun ls hl => ?_)
  refine lv_aload_n hx hb dX10_goOn_67 rfl (lv_at hl 1 rfl) ?_
  refine lv_aload_n hx hb dX10_goOn_68 rfl (lv_at hl 1 rfl) ?_
  refine gf hC hK hP iX10 0 rfl rfl 6 (by decide) mw_fieldLink_RX10_228_MirrorDrillModel_at_I (gs_eq (ln_lt hl_fs (by decide))) dX10_goOn_69 ?_
  refine lv_iconst (v := 1) hx hb dX10_goOn_72 (by decide) ?_
  refine lv_iadd hx hb dX10_goOn_73 ?_
  refine lv_cst (v := 1) (by decide) ?_
  refine pf (v := .int 1) hC hK hP hD hS iX10 tyX10_ok nmX10 0 rfl rfl 7 (by decide) mw_fieldLink_RX10_225_MirrorDrillModel_end_I rfl rfl rfl (ln_lt (ln_set hl_fs) (by decide)) dX10_goOn_74 (fun H locs hP hD hS => ?_)
  have hP : va_P D classes [(o, .inr (10, ((fs.set 6 (.int 0)).set 7 (.int 1))))] H := hP
  have hD : va_D A [(o, .inr (10, ((fs.set 6 (.int 0)).set 7 (.int 1))))] := hD
  refine lv_aload_n hx hb dX10_goOn_77 rfl (lv_at hl 1 rfl) ?_
  refine gf hC hK hP iX10 0 rfl rfl 6 (by decide) mw_fieldLink_RX10_228_MirrorDrillModel_at_I (gs_ne (by decide) (gs_eq (ln_lt hl_fs (by decide)))) dX10_goOn_78 ?_
  refine lv_aload_n hx hb dX10_goOn_81 rfl (lv_at hl 1 rfl) ?_
  refine gf hC hK hP iX10 0 rfl rfl 3 (by decide) mw_fieldLink_RX10_183_MirrorDrillModel_size_I (gs_ne (by decide) (gs_ne (by decide) h_fs_3)) dX10_goOn_82 ?_
  refine lv_icmp_lt (tgt := 112) hx hb dX10_goOn_85 (by decide) (fun c_3 => absurd c_3 (by decide)) (fun c_3 => ?_)
  refine lv_aload_n hx hb dX10_goOn_88 rfl (lv_at hl 1 rfl) ?_
  refine lv_iconst (v := 0) hx hb dX10_goOn_89 (by decide) ?_
  refine pf (v := .int 0) hC hK hP hD hS iX10 tyX10_ok nmX10 0 rfl rfl 8 (by decide) mw_fieldLink_RX10_235_MirrorDrillModel_token_I rfl rfl rfl (ln_lt (ln_set (ln_set hl_fs)) (by decide)) dX10_goOn_90 (fun H locs hP hD hS => ?_)
  have hP : va_P D classes [(o, .inr (10, (((fs.set 6 (.int 0)).set 7 (.int 1)).set 8 (.int 0))))] H := hP
  have hD : va_D A [(o, .inr (10, (((fs.set 6 (.int 0)).set 7 (.int 1)).set 8 (.int 0))))] := hD
  refine lv_aload_n hx hb dX10_goOn_93 rfl (lv_at hl 1 rfl) ?_
  refine lv_aload_n hx hb dX10_goOn_94 rfl (lv_at hl 1 rfl) ?_
  refine gf hC hK hP iX10 0 rfl rfl 3 (by decide) mw_fieldLink_RX10_183_MirrorDrillModel_size_I (gs_ne (by decide) (gs_ne (by decide) (gs_ne (by decide) h_fs_3))) dX10_goOn_95 ?_
  refine pf (v := .int 0) hC hK hP hD hS iX10 tyX10_ok nmX10 0 rfl rfl 6 (by decide) mw_fieldLink_RX10_228_MirrorDrillModel_at_I rfl rfl rfl (ln_lt (ln_set (ln_set (ln_set hl_fs))) (by decide)) dX10_goOn_98 (fun H locs hP hD hS => ?_)
  have hP : va_P D classes [(o, .inr (10, ((((fs.set 6 (.int 0)).set 7 (.int 1)).set 8 (.int 0)).set 6 (.int 0))))] H := hP
  have hD : va_D A [(o, .inr (10, ((((fs.set 6 (.int 0)).set 7 (.int 1)).set 8 (.int 0)).set 6 (.int 0))))] := hD
  refine lv_aload_n hx hb dX10_goOn_101 rfl (lv_at hl 1 rfl) ?_
  refine lv_aload_n hx hb dX10_goOn_102 rfl (lv_at hl 1 rfl) ?_
  refine gf hC hK hP iX10 0 rfl rfl 3 (by decide) mw_fieldLink_RX10_183_MirrorDrillModel_size_I (gs_ne (by decide) (gs_ne (by decide) (gs_ne (by decide) (gs_ne (by decide) h_fs_3)))) dX10_goOn_103 ?_
  refine pf (v := .int 0) hC hK hP hD hS iX10 tyX10_ok nmX10 0 rfl rfl 7 (by decide) mw_fieldLink_RX10_225_MirrorDrillModel_end_I rfl rfl rfl (ln_lt (ln_set (ln_set (ln_set (ln_set hl_fs)))) (by decide)) dX10_goOn_106 (fun H locs hP hD hS => ?_)
  have hP : va_P D classes [(o, .inr (10, (((((fs.set 6 (.int 0)).set 7 (.int 1)).set 8 (.int 0)).set 6 (.int 0)).set 7 (.int 0))))] H := hP
  have hD : va_D A [(o, .inr (10, (((((fs.set 6 (.int 0)).set 7 (.int 1)).set 8 (.int 0)).set 6 (.int 0)).set 7 (.int 0))))] := hD
  refine lv_goto (tgt := 377) hx hb dX10_goOn_109 (by decide) ?_
  exact retV hC hP hD hS (by decide) (by decide) () [0] rfl rfl trivial dX10_goOn_377
set_option maxHeartbeats 4000000 in
set_option maxRecDepth 100000 in
theorem k_X10_layTables (l : Launch) (D : va_G) (cyB cyI cyJ cyZ : ClassId) (sz : Nat) (o : Nat) (fs : List Value) (mv : Nat) (rl : Nat) (fmv : Nat → Int32) (fr : Nat → Int32) (hl_fs : fs.length = 80) (h_fs_11 : fs[11]? = some (.ref mv)) (h_fs_13 : fs[13]? = some (.ref rl)) (h_fs_37 : fs[37]? = some (.int 1)) (h_fmv_1 : fmv 1 = 2) (h_fr_1 : fr 1 = 0) : KV l yX10_layTables cX10_layTables 6 1 0 0 D (TYS cyB cyI cyJ cyZ) [(o, .inr (10, fs)), (mv, .inl (cyI, 2, .inl fmv)), (rl, .inl (cyI, 2, .inl fr))] sz [.ref o] (fun (u : Unit) => True) (fun (u : Unit) => ([(o, .inr (10, fs)), (mv, .inl (cyI, 2, .inl fmv)), (rl, .inl (cyI, 2, .inl fr))] : va_W)) := by
  refine entV (by decide) (Nat.le_of_ble_eq_true rfl) ?_
  intro p e s m below meth c ls A hC hl hP hK hD hA
  obtain ⟨hx, hb, hr, hml, hown, hts, hlk, hnm⟩ := id hC
  have hS : va_S A s.heap s.heap [] := va_S.rf
  have hl : lv_has ls 6 [(0, .ref o)] := hl
  generalize hHe : s.heap = H at hP ⊢
  rw [hHe] at hS
  have hS : va_S A s.heap H [] := by rw [hHe]; exact hS
  refine lv_aload_n hx hb dX10_layTables_0 rfl (lv_at hl 0 rfl) ?_
  refine gf hC hK hP iX10 0 rfl rfl 11 (by decide) mw_fieldLink_RX10_20_MirrorDrillModel_moves_I h_fs_11 dX10_layTables_1 ?_
  refine lv_aload_n hx hb dX10_layTables_4 rfl (lv_at hl 0 rfl) ?_
  refine gf hC hK hP iX10 0 rfl rfl 37 (by decide) mw_fieldLink_RX10_282_MirrorDrillModel_bank_I h_fs_37 dX10_layTables_5 ?_
  refine va_iald hx hb hK hP 1 1 rfl rfl (vin (by decide)) dX10_layTables_8 ?_
  refine lv_cst (v := 2) (h_fmv_1) ?_
  refine lv_istore_n (lv' := [(1, .int 2), (0, .ref o)]) hx hb dX10_layTables_9 rfl hl (by decide) rfl (fun ls hl => ?_)
  refine lv_bipush (v := 6) hx hb dX10_layTables_10 (by decide) ?_
  refine lv_aload_n hx hb dX10_layTables_12 rfl (lv_at hl 1 rfl) ?_
  refine gf hC hK hP iX10 0 rfl rfl 37 (by decide) mw_fieldLink_RX10_282_MirrorDrillModel_bank_I h_fs_37 dX10_layTables_13 ?_
  refine lv_imul hx hb dX10_layTables_16 ?_
  refine lv_cst (v := 6) (by decide) ?_
  refine lv_istore_n (lv' := [(2, .int 6), (1, .int 2), (0, .ref o)]) hx hb dX10_layTables_17 rfl hl (by decide) rfl (fun ls hl => ?_)
  refine lv_iload_n hx hb dX10_layTables_18 rfl (lv_at hl 0 rfl) ?_
  refine lv_bipush (v := 6) hx hb dX10_layTables_19 (by decide) ?_
  refine lv_aload_n hx hb dX10_layTables_21 rfl (lv_at hl 2 rfl) ?_
  refine gf hC hK hP iX10 0 rfl rfl 37 (by decide) mw_fieldLink_RX10_282_MirrorDrillModel_bank_I h_fs_37 dX10_layTables_22 ?_
  refine lv_imul hx hb dX10_layTables_25 ?_
  refine lv_cst (v := 6) (by decide) ?_
  refine lv_aload_n hx hb dX10_layTables_26 rfl (lv_at hl 2 rfl) ?_
  refine gf hC hK hP iX10 0 rfl rfl 13 (by decide) mw_fieldLink_RX10_27_MirrorDrillModel_rules_I h_fs_13 dX10_layTables_27 ?_
  refine lv_aload_n hx hb dX10_layTables_30 rfl (lv_at hl 2 rfl) ?_
  refine gf hC hK hP iX10 0 rfl rfl 37 (by decide) mw_fieldLink_RX10_282_MirrorDrillModel_bank_I h_fs_37 dX10_layTables_31 ?_
  refine va_iald hx hb hK hP 2 1 rfl rfl (vin (by decide)) dX10_layTables_34 ?_
  refine lv_cst (v := 0) (h_fr_1) ?_
  refine lv_iadd hx hb dX10_layTables_35 ?_
  refine lv_cst (v := 6) (by decide) ?_
  refine lv_icmp_ge (tgt := 120) hx hb dX10_layTables_36 (by decide) (fun c_1 => ?_) (fun c_1 => absurd (by decide) c_1)
  exact retV hC hP hD hS (by decide) (by decide) () [0, 1, 2] rfl rfl trivial dX10_layTables_120
set_option maxHeartbeats 4000000 in
set_option maxRecDepth 100000 in
theorem k_X10_drill (l : Launch) (D : va_G) (cyB cyI cyJ cyZ : ClassId) (sz : Nat) (o : Nat) (fs : List Value) (mv : Nat) (mn : Nat) (rl : Nat) (uo : Nat) (ed : Nat) (z1 : Nat) (z2 : Nat) (rg : Nat) (z4 : Nat) (z5 : Nat) (wo : Nat) (fi : Nat) (bym : Nat) (wi : Nat) (tu : Nat) (cr : Nat) (tld : Nat) (rw : Nat) (nw : Nat) (bb : Nat) (fmv : Nat → Int32) (fm : Nat → Int32) (fr : Nat → Int32) (fuo : Nat → Int32) (fed : Nat → Int32) (fz1 : Nat → Int32) (fz2 : Nat → Int32) (frg : Nat → Int32) (fz4 : Nat → Int32) (fz5 : Nat → Int32) (fwo : Nat → Int32) (ffi : Nat → Int32) (fby : Nat → Int32) (fwi : Nat → Int32) (ftu : Nat → Int32) (fcr : Nat → Int32) (fto : Nat → Int32) (frw : Nat → Int32) (fnw : Nat → Int32) (fbb : Nat → Int32) (hl_fs : fs.length = 80) (h_fs_11 : fs[11]? = some (.ref mv)) (h_fs_12 : fs[12]? = some (.ref mn)) (h_fs_13 : fs[13]? = some (.ref rl)) (h_fs_14 : fs[14]? = some (.ref uo)) (h_fs_15 : fs[15]? = some (.ref ed)) (h_fs_23 : fs[23]? = some (.ref z1)) (h_fs_24 : fs[24]? = some (.ref z2)) (h_fs_25 : fs[25]? = some (.ref rg)) (h_fs_26 : fs[26]? = some (.ref z4)) (h_fs_27 : fs[27]? = some (.ref z5)) (h_fs_16 : fs[16]? = some (.ref wo)) (h_fs_20 : fs[20]? = some (.ref fi)) (h_fs_21 : fs[21]? = some (.ref bym)) (h_fs_22 : fs[22]? = some (.ref wi)) (h_fs_28 : fs[28]? = some (.ref tu)) (h_fs_29 : fs[29]? = some (.ref cr)) (h_fs_30 : fs[30]? = some (.ref tld)) (h_fs_43 : fs[43]? = some (.ref rw)) (h_fs_45 : fs[45]? = some (.ref nw)) (h_fs_78 : fs[78]? = some (.ref bb)) (h_fs_2 : fs[2]? = some (.int 0)) (h_fs_37 : fs[37]? = some (.int 0)) : KI l yX10_drill cX10_drill 2 .int 2 0 0 D (TYS cyB cyI cyJ cyZ) [(o, .inr (10, fs)), (mv, .inl (cyI, 2, .inl fmv)), (mn, .inl (cyI, 2, .inl fm)), (rl, .inl (cyI, 2, .inl fr)), (uo, .inl (cyI, 2, .inl fuo)), (ed, .inl (cyI, 2, .inl fed)), (z1, .inl (cyZ, 2, .inl fz1)), (z2, .inl (cyZ, 2, .inl fz2)), (rg, .inl (cyZ, 2, .inl frg)), (z4, .inl (cyZ, 2, .inl fz4)), (z5, .inl (cyZ, 2, .inl fz5)), (wo, .inl (cyI, 8, .inl fwo)), (fi, .inl (cyI, 60, .inl ffi)), (bym, .inl (cyI, 60, .inl fby)), (wi, .inl (cyI, 60, .inl fwi)), (tu, .inl (cyZ, 60, .inl ftu)), (cr, .inl (cyZ, 60, .inl fcr)), (tld, .inl (cyZ, 60, .inl fto)), (rw, .inl (cyI, 30, .inl frw)), (nw, .inl (cyI, 30, .inl fnw)), (bb, .inl (cyI, 3, .inl fbb))] sz [.ref o] (fun (r : Int32) (u : Unit) => r = 0) (fun (u : Unit) => ([] : va_W)) := by
  refine entI (by decide) (Nat.le_of_ble_eq_true rfl) ?_
  intro p e s m below meth c ls A hC hl hP hK hD hA
  obtain ⟨hx, hb, hr, hml, hown, hts, hlk, hnm⟩ := id hC
  have hS : va_S A s.heap s.heap [] := va_S.rf
  have hl : lv_has ls 2 [(0, .ref o)] := hl
  generalize hHe : s.heap = H at hP ⊢
  rw [hHe] at hS
  have hS : va_S A s.heap H [] := by rw [hHe]; exact hS
  refine lv_aload_n hx hb dX10_drill_0 rfl (lv_at hl 0 rfl) ?_
  refine lv_iconst (v := 0) hx hb dX10_drill_1 (by decide) ?_
  refine pf (v := .int 0) hC hK hP hD hS iX10 tyX10_ok nmX10 0 rfl rfl 4 (by decide) mw_fieldLink_RX10_186_MirrorDrillModel_faultKind_I rfl rfl rfl (ln_lt hl_fs (by decide)) dX10_drill_2 (fun H locs hP hD hS => ?_)
  have hP : va_P D classes [(o, .inr (10, (fs.set 4 (.int 0)))), (mv, .inl (cyI, 2, .inl fmv)), (mn, .inl (cyI, 2, .inl fm)), (rl, .inl (cyI, 2, .inl fr)), (uo, .inl (cyI, 2, .inl fuo)), (ed, .inl (cyI, 2, .inl fed)), (z1, .inl (cyZ, 2, .inl fz1)), (z2, .inl (cyZ, 2, .inl fz2)), (rg, .inl (cyZ, 2, .inl frg)), (z4, .inl (cyZ, 2, .inl fz4)), (z5, .inl (cyZ, 2, .inl fz5)), (wo, .inl (cyI, 8, .inl fwo)), (fi, .inl (cyI, 60, .inl ffi)), (bym, .inl (cyI, 60, .inl fby)), (wi, .inl (cyI, 60, .inl fwi)), (tu, .inl (cyZ, 60, .inl ftu)), (cr, .inl (cyZ, 60, .inl fcr)), (tld, .inl (cyZ, 60, .inl fto)), (rw, .inl (cyI, 30, .inl frw)), (nw, .inl (cyI, 30, .inl fnw)), (bb, .inl (cyI, 3, .inl fbb))] H := hP
  have hD : va_D A [(o, .inr (10, (fs.set 4 (.int 0)))), (mv, .inl (cyI, 2, .inl fmv)), (mn, .inl (cyI, 2, .inl fm)), (rl, .inl (cyI, 2, .inl fr)), (uo, .inl (cyI, 2, .inl fuo)), (ed, .inl (cyI, 2, .inl fed)), (z1, .inl (cyZ, 2, .inl fz1)), (z2, .inl (cyZ, 2, .inl fz2)), (rg, .inl (cyZ, 2, .inl frg)), (z4, .inl (cyZ, 2, .inl fz4)), (z5, .inl (cyZ, 2, .inl fz5)), (wo, .inl (cyI, 8, .inl fwo)), (fi, .inl (cyI, 60, .inl ffi)), (bym, .inl (cyI, 60, .inl fby)), (wi, .inl (cyI, 60, .inl fwi)), (tu, .inl (cyZ, 60, .inl ftu)), (cr, .inl (cyZ, 60, .inl fcr)), (tld, .inl (cyZ, 60, .inl fto)), (rw, .inl (cyI, 30, .inl frw)), (nw, .inl (cyI, 30, .inl fnw)), (bb, .inl (cyI, 3, .inl fbb))] := hD
  refine lv_aload_n hx hb dX10_drill_5 rfl (lv_at hl 0 rfl) ?_
  refine lv_iconst (v := (-1)) hx hb dX10_drill_6 (by decide) ?_
  refine pf (v := .int (-1)) hC hK hP hD hS iX10 tyX10_ok nmX10 0 rfl rfl 5 (by decide) mw_fieldLink_RX10_16_MirrorDrillModel_faultPlace_I rfl rfl rfl (ln_lt (ln_set hl_fs) (by decide)) dX10_drill_7 (fun H locs hP hD hS => ?_)
  have hP : va_P D classes [(o, .inr (10, ((fs.set 4 (.int 0)).set 5 (.int (-1))))), (mv, .inl (cyI, 2, .inl fmv)), (mn, .inl (cyI, 2, .inl fm)), (rl, .inl (cyI, 2, .inl fr)), (uo, .inl (cyI, 2, .inl fuo)), (ed, .inl (cyI, 2, .inl fed)), (z1, .inl (cyZ, 2, .inl fz1)), (z2, .inl (cyZ, 2, .inl fz2)), (rg, .inl (cyZ, 2, .inl frg)), (z4, .inl (cyZ, 2, .inl fz4)), (z5, .inl (cyZ, 2, .inl fz5)), (wo, .inl (cyI, 8, .inl fwo)), (fi, .inl (cyI, 60, .inl ffi)), (bym, .inl (cyI, 60, .inl fby)), (wi, .inl (cyI, 60, .inl fwi)), (tu, .inl (cyZ, 60, .inl ftu)), (cr, .inl (cyZ, 60, .inl fcr)), (tld, .inl (cyZ, 60, .inl fto)), (rw, .inl (cyI, 30, .inl frw)), (nw, .inl (cyI, 30, .inl fnw)), (bb, .inl (cyI, 3, .inl fbb))] H := hP
  have hD : va_D A [(o, .inr (10, ((fs.set 4 (.int 0)).set 5 (.int (-1))))), (mv, .inl (cyI, 2, .inl fmv)), (mn, .inl (cyI, 2, .inl fm)), (rl, .inl (cyI, 2, .inl fr)), (uo, .inl (cyI, 2, .inl fuo)), (ed, .inl (cyI, 2, .inl fed)), (z1, .inl (cyZ, 2, .inl fz1)), (z2, .inl (cyZ, 2, .inl fz2)), (rg, .inl (cyZ, 2, .inl frg)), (z4, .inl (cyZ, 2, .inl fz4)), (z5, .inl (cyZ, 2, .inl fz5)), (wo, .inl (cyI, 8, .inl fwo)), (fi, .inl (cyI, 60, .inl ffi)), (bym, .inl (cyI, 60, .inl fby)), (wi, .inl (cyI, 60, .inl fwi)), (tu, .inl (cyZ, 60, .inl ftu)), (cr, .inl (cyZ, 60, .inl fcr)), (tld, .inl (cyZ, 60, .inl fto)), (rw, .inl (cyI, 30, .inl frw)), (nw, .inl (cyI, 30, .inl fnw)), (bb, .inl (cyI, 3, .inl fbb))] := hD
  refine lv_aload_n hx hb dX10_drill_10 rfl (lv_at hl 0 rfl) ?_
  refine lv_aload_n hx hb dX10_drill_11 rfl (lv_at hl 0 rfl) ?_
  refine gf hC hK hP iX10 0 rfl rfl 2 (by decide) mw_fieldLink_RX10_279_MirrorDrillModel_taped_I (gs_ne (by decide) (gs_ne (by decide) h_fs_2)) dX10_drill_12 ?_
  refine pf (v := .int 0) hC hK hP hD hS iX10 tyX10_ok nmX10 0 rfl rfl 3 (by decide) mw_fieldLink_RX10_183_MirrorDrillModel_size_I rfl rfl rfl (ln_lt (ln_set (ln_set hl_fs)) (by decide)) dX10_drill_15 (fun H locs hP hD hS => ?_)
  have hP : va_P D classes [(o, .inr (10, (((fs.set 4 (.int 0)).set 5 (.int (-1))).set 3 (.int 0)))), (mv, .inl (cyI, 2, .inl fmv)), (mn, .inl (cyI, 2, .inl fm)), (rl, .inl (cyI, 2, .inl fr)), (uo, .inl (cyI, 2, .inl fuo)), (ed, .inl (cyI, 2, .inl fed)), (z1, .inl (cyZ, 2, .inl fz1)), (z2, .inl (cyZ, 2, .inl fz2)), (rg, .inl (cyZ, 2, .inl frg)), (z4, .inl (cyZ, 2, .inl fz4)), (z5, .inl (cyZ, 2, .inl fz5)), (wo, .inl (cyI, 8, .inl fwo)), (fi, .inl (cyI, 60, .inl ffi)), (bym, .inl (cyI, 60, .inl fby)), (wi, .inl (cyI, 60, .inl fwi)), (tu, .inl (cyZ, 60, .inl ftu)), (cr, .inl (cyZ, 60, .inl fcr)), (tld, .inl (cyZ, 60, .inl fto)), (rw, .inl (cyI, 30, .inl frw)), (nw, .inl (cyI, 30, .inl fnw)), (bb, .inl (cyI, 3, .inl fbb))] H := hP
  have hD : va_D A [(o, .inr (10, (((fs.set 4 (.int 0)).set 5 (.int (-1))).set 3 (.int 0)))), (mv, .inl (cyI, 2, .inl fmv)), (mn, .inl (cyI, 2, .inl fm)), (rl, .inl (cyI, 2, .inl fr)), (uo, .inl (cyI, 2, .inl fuo)), (ed, .inl (cyI, 2, .inl fed)), (z1, .inl (cyZ, 2, .inl fz1)), (z2, .inl (cyZ, 2, .inl fz2)), (rg, .inl (cyZ, 2, .inl frg)), (z4, .inl (cyZ, 2, .inl fz4)), (z5, .inl (cyZ, 2, .inl fz5)), (wo, .inl (cyI, 8, .inl fwo)), (fi, .inl (cyI, 60, .inl ffi)), (bym, .inl (cyI, 60, .inl fby)), (wi, .inl (cyI, 60, .inl fwi)), (tu, .inl (cyZ, 60, .inl ftu)), (cr, .inl (cyZ, 60, .inl fcr)), (tld, .inl (cyZ, 60, .inl fto)), (rw, .inl (cyI, 30, .inl frw)), (nw, .inl (cyI, 30, .inl fnw)), (bb, .inl (cyI, 3, .inl fbb))] := hD
  refine lv_iconst (v := 0) hx hb dX10_drill_18 (by decide) ?_
  refine lv_istore_n (lv' := [(1, .int 0), (0, .ref o)]) hx hb dX10_drill_19 rfl hl (by decide) rfl (fun ls hl => ?_)
  refine lv_iload_n hx hb dX10_drill_20 rfl (lv_at hl 0 rfl) ?_
  refine lv_aload_n hx hb dX10_drill_21 rfl (lv_at hl 1 rfl) ?_
  refine gf hC hK hP iX10 0 rfl rfl 3 (by decide) mw_fieldLink_RX10_183_MirrorDrillModel_size_I (gs_eq (ln_lt (ln_set (ln_set hl_fs)) (by decide))) dX10_drill_22 ?_
  refine lv_icmp_ge (tgt := 46) hx hb dX10_drill_25 (by decide) (fun c_1 => ?_) (fun c_1 => absurd (by decide) c_1)
  refine lv_aload_n hx hb dX10_drill_46 rfl (lv_at hl 1 rfl) ?_
  refine lv_iconst (v := 0) hx hb dX10_drill_47 (by decide) ?_
  refine pf (v := .int 0) hC hK hP hD hS iX10 tyX10_ok nmX10 0 rfl rfl 2 (by decide) mw_fieldLink_RX10_279_MirrorDrillModel_taped_I rfl rfl rfl (ln_lt (ln_set (ln_set (ln_set hl_fs))) (by decide)) dX10_drill_48 (fun H locs hP hD hS => ?_)
  have hP : va_P D classes [(o, .inr (10, ((((fs.set 4 (.int 0)).set 5 (.int (-1))).set 3 (.int 0)).set 2 (.int 0)))), (mv, .inl (cyI, 2, .inl fmv)), (mn, .inl (cyI, 2, .inl fm)), (rl, .inl (cyI, 2, .inl fr)), (uo, .inl (cyI, 2, .inl fuo)), (ed, .inl (cyI, 2, .inl fed)), (z1, .inl (cyZ, 2, .inl fz1)), (z2, .inl (cyZ, 2, .inl fz2)), (rg, .inl (cyZ, 2, .inl frg)), (z4, .inl (cyZ, 2, .inl fz4)), (z5, .inl (cyZ, 2, .inl fz5)), (wo, .inl (cyI, 8, .inl fwo)), (fi, .inl (cyI, 60, .inl ffi)), (bym, .inl (cyI, 60, .inl fby)), (wi, .inl (cyI, 60, .inl fwi)), (tu, .inl (cyZ, 60, .inl ftu)), (cr, .inl (cyZ, 60, .inl fcr)), (tld, .inl (cyZ, 60, .inl fto)), (rw, .inl (cyI, 30, .inl frw)), (nw, .inl (cyI, 30, .inl fnw)), (bb, .inl (cyI, 3, .inl fbb))] H := hP
  have hD : va_D A [(o, .inr (10, ((((fs.set 4 (.int 0)).set 5 (.int (-1))).set 3 (.int 0)).set 2 (.int 0)))), (mv, .inl (cyI, 2, .inl fmv)), (mn, .inl (cyI, 2, .inl fm)), (rl, .inl (cyI, 2, .inl fr)), (uo, .inl (cyI, 2, .inl fuo)), (ed, .inl (cyI, 2, .inl fed)), (z1, .inl (cyZ, 2, .inl fz1)), (z2, .inl (cyZ, 2, .inl fz2)), (rg, .inl (cyZ, 2, .inl frg)), (z4, .inl (cyZ, 2, .inl fz4)), (z5, .inl (cyZ, 2, .inl fz5)), (wo, .inl (cyI, 8, .inl fwo)), (fi, .inl (cyI, 60, .inl ffi)), (bym, .inl (cyI, 60, .inl fby)), (wi, .inl (cyI, 60, .inl fwi)), (tu, .inl (cyZ, 60, .inl ftu)), (cr, .inl (cyZ, 60, .inl fcr)), (tld, .inl (cyZ, 60, .inl fto)), (rw, .inl (cyI, 30, .inl frw)), (nw, .inl (cyI, 30, .inl fnw)), (bb, .inl (cyI, 3, .inl fbb))] := hD
  refine lv_aload_n hx hb dX10_drill_51 rfl (lv_at hl 1 rfl) ?_
  refine lv_iconst (v := 0) hx hb dX10_drill_52 (by decide) ?_
  refine pf (v := .int 0) hC hK hP hD hS iX10 tyX10_ok nmX10 0 rfl rfl 7 (by decide) mw_fieldLink_RX10_225_MirrorDrillModel_end_I rfl rfl rfl (ln_lt (ln_set (ln_set (ln_set (ln_set hl_fs)))) (by decide)) dX10_drill_53 (fun H locs hP hD hS => ?_)
  have hP : va_P D classes [(o, .inr (10, (((((fs.set 4 (.int 0)).set 5 (.int (-1))).set 3 (.int 0)).set 2 (.int 0)).set 7 (.int 0)))), (mv, .inl (cyI, 2, .inl fmv)), (mn, .inl (cyI, 2, .inl fm)), (rl, .inl (cyI, 2, .inl fr)), (uo, .inl (cyI, 2, .inl fuo)), (ed, .inl (cyI, 2, .inl fed)), (z1, .inl (cyZ, 2, .inl fz1)), (z2, .inl (cyZ, 2, .inl fz2)), (rg, .inl (cyZ, 2, .inl frg)), (z4, .inl (cyZ, 2, .inl fz4)), (z5, .inl (cyZ, 2, .inl fz5)), (wo, .inl (cyI, 8, .inl fwo)), (fi, .inl (cyI, 60, .inl ffi)), (bym, .inl (cyI, 60, .inl fby)), (wi, .inl (cyI, 60, .inl fwi)), (tu, .inl (cyZ, 60, .inl ftu)), (cr, .inl (cyZ, 60, .inl fcr)), (tld, .inl (cyZ, 60, .inl fto)), (rw, .inl (cyI, 30, .inl frw)), (nw, .inl (cyI, 30, .inl fnw)), (bb, .inl (cyI, 3, .inl fbb))] H := hP
  have hD : va_D A [(o, .inr (10, (((((fs.set 4 (.int 0)).set 5 (.int (-1))).set 3 (.int 0)).set 2 (.int 0)).set 7 (.int 0)))), (mv, .inl (cyI, 2, .inl fmv)), (mn, .inl (cyI, 2, .inl fm)), (rl, .inl (cyI, 2, .inl fr)), (uo, .inl (cyI, 2, .inl fuo)), (ed, .inl (cyI, 2, .inl fed)), (z1, .inl (cyZ, 2, .inl fz1)), (z2, .inl (cyZ, 2, .inl fz2)), (rg, .inl (cyZ, 2, .inl frg)), (z4, .inl (cyZ, 2, .inl fz4)), (z5, .inl (cyZ, 2, .inl fz5)), (wo, .inl (cyI, 8, .inl fwo)), (fi, .inl (cyI, 60, .inl ffi)), (bym, .inl (cyI, 60, .inl fby)), (wi, .inl (cyI, 60, .inl fwi)), (tu, .inl (cyZ, 60, .inl ftu)), (cr, .inl (cyZ, 60, .inl fcr)), (tld, .inl (cyZ, 60, .inl fto)), (rw, .inl (cyI, 30, .inl frw)), (nw, .inl (cyI, 30, .inl fnw)), (bb, .inl (cyI, 3, .inl fbb))] := hD
  refine lv_aload_n hx hb dX10_drill_56 rfl (lv_at hl 1 rfl) ?_
  refine lv_iconst (v := 1) hx hb dX10_drill_57 (by decide) ?_
  refine lv_aload_n hx hb dX10_drill_58 rfl (lv_at hl 1 rfl) ?_
  refine gf hC hK hP iX10 0 rfl rfl 37 (by decide) mw_fieldLink_RX10_282_MirrorDrillModel_bank_I (gs_ne (by decide) (gs_ne (by decide) (gs_ne (by decide) (gs_ne (by decide) (gs_ne (by decide) h_fs_37))))) dX10_drill_59 ?_
  refine lv_isub hx hb dX10_drill_62 ?_
  refine lv_cst (v := 1) (by decide) ?_
  refine pf (v := .int 1) hC hK hP hD hS iX10 tyX10_ok nmX10 0 rfl rfl 38 (by decide) mw_fieldLink_RX10_273_MirrorDrillModel_rb_I rfl rfl rfl (ln_lt (ln_set (ln_set (ln_set (ln_set (ln_set hl_fs))))) (by decide)) dX10_drill_63 (fun H locs hP hD hS => ?_)
  have hP : va_P D classes [(o, .inr (10, ((((((fs.set 4 (.int 0)).set 5 (.int (-1))).set 3 (.int 0)).set 2 (.int 0)).set 7 (.int 0)).set 38 (.int 1)))), (mv, .inl (cyI, 2, .inl fmv)), (mn, .inl (cyI, 2, .inl fm)), (rl, .inl (cyI, 2, .inl fr)), (uo, .inl (cyI, 2, .inl fuo)), (ed, .inl (cyI, 2, .inl fed)), (z1, .inl (cyZ, 2, .inl fz1)), (z2, .inl (cyZ, 2, .inl fz2)), (rg, .inl (cyZ, 2, .inl frg)), (z4, .inl (cyZ, 2, .inl fz4)), (z5, .inl (cyZ, 2, .inl fz5)), (wo, .inl (cyI, 8, .inl fwo)), (fi, .inl (cyI, 60, .inl ffi)), (bym, .inl (cyI, 60, .inl fby)), (wi, .inl (cyI, 60, .inl fwi)), (tu, .inl (cyZ, 60, .inl ftu)), (cr, .inl (cyZ, 60, .inl fcr)), (tld, .inl (cyZ, 60, .inl fto)), (rw, .inl (cyI, 30, .inl frw)), (nw, .inl (cyI, 30, .inl fnw)), (bb, .inl (cyI, 3, .inl fbb))] H := hP
  have hD : va_D A [(o, .inr (10, ((((((fs.set 4 (.int 0)).set 5 (.int (-1))).set 3 (.int 0)).set 2 (.int 0)).set 7 (.int 0)).set 38 (.int 1)))), (mv, .inl (cyI, 2, .inl fmv)), (mn, .inl (cyI, 2, .inl fm)), (rl, .inl (cyI, 2, .inl fr)), (uo, .inl (cyI, 2, .inl fuo)), (ed, .inl (cyI, 2, .inl fed)), (z1, .inl (cyZ, 2, .inl fz1)), (z2, .inl (cyZ, 2, .inl fz2)), (rg, .inl (cyZ, 2, .inl frg)), (z4, .inl (cyZ, 2, .inl fz4)), (z5, .inl (cyZ, 2, .inl fz5)), (wo, .inl (cyI, 8, .inl fwo)), (fi, .inl (cyI, 60, .inl ffi)), (bym, .inl (cyI, 60, .inl fby)), (wi, .inl (cyI, 60, .inl fwi)), (tu, .inl (cyZ, 60, .inl ftu)), (cr, .inl (cyZ, 60, .inl fcr)), (tld, .inl (cyZ, 60, .inl fto)), (rw, .inl (cyI, 30, .inl frw)), (nw, .inl (cyI, 30, .inl fnw)), (bb, .inl (cyI, 3, .inl fbb))] := hD
  refine lv_aload_n hx hb dX10_drill_66 rfl (lv_at hl 1 rfl) ?_
  refine aftV (wr := [(rw, .inl (cyI, 30, .inl frw)), (nw, .inl (cyI, 30, .inl fnw)), (bb, .inl (cyI, 3, .inl fbb))]) (runV hC hK hP hD hl.1 (k_X10_clearBank1 l D cyB cyI cyJ cyZ H.size o ((((((fs.set 4 (.int 0)).set 5 (.int (-1))).set 3 (.int 0)).set 2 (.int 0)).set 7 (.int 0)).set 38 (.int 1)) mv mn rl uo ed z1 z2 rg z4 z5 wo fi bym wi tu cr tld fmv fm fr fuo fed fz1 fz2 frg fz4 fz5 fwo ffi fby fwi ftu fcr fto (ln_set (ln_set (ln_set (ln_set (ln_set (ln_set hl_fs)))))) (gs_ne (by decide) (gs_ne (by decide) (gs_ne (by decide) (gs_ne (by decide) (gs_ne (by decide) (gs_ne (by decide) h_fs_11)))))) (gs_ne (by decide) (gs_ne (by decide) (gs_ne (by decide) (gs_ne (by decide) (gs_ne (by decide) (gs_ne (by decide) h_fs_12)))))) (gs_ne (by decide) (gs_ne (by decide) (gs_ne (by decide) (gs_ne (by decide) (gs_ne (by decide) (gs_ne (by decide) h_fs_13)))))) (gs_ne (by decide) (gs_ne (by decide) (gs_ne (by decide) (gs_ne (by decide) (gs_ne (by decide) (gs_ne (by decide) h_fs_14)))))) (gs_ne (by decide) (gs_ne (by decide) (gs_ne (by decide) (gs_ne (by decide) (gs_ne (by decide) (gs_ne (by decide) h_fs_15)))))) (gs_ne (by decide) (gs_ne (by decide) (gs_ne (by decide) (gs_ne (by decide) (gs_ne (by decide) (gs_ne (by decide) h_fs_23)))))) (gs_ne (by decide) (gs_ne (by decide) (gs_ne (by decide) (gs_ne (by decide) (gs_ne (by decide) (gs_ne (by decide) h_fs_24)))))) (gs_ne (by decide) (gs_ne (by decide) (gs_ne (by decide) (gs_ne (by decide) (gs_ne (by decide) (gs_ne (by decide) h_fs_25)))))) (gs_ne (by decide) (gs_ne (by decide) (gs_ne (by decide) (gs_ne (by decide) (gs_ne (by decide) (gs_ne (by decide) h_fs_26)))))) (gs_ne (by decide) (gs_ne (by decide) (gs_ne (by decide) (gs_ne (by decide) (gs_ne (by decide) (gs_ne (by decide) h_fs_27)))))) (gs_ne (by decide) (gs_ne (by decide) (gs_ne (by decide) (gs_ne (by decide) (gs_ne (by decide) (gs_ne (by decide) h_fs_16)))))) (gs_ne (by decide) (gs_ne (by decide) (gs_ne (by decide) (gs_ne (by decide) (gs_ne (by decide) (gs_ne (by decide) h_fs_20)))))) (gs_ne (by decide) (gs_ne (by decide) (gs_ne (by decide) (gs_ne (by decide) (gs_ne (by decide) (gs_ne (by decide) h_fs_21)))))) (gs_ne (by decide) (gs_ne (by decide) (gs_ne (by decide) (gs_ne (by decide) (gs_ne (by decide) (gs_ne (by decide) h_fs_22)))))) (gs_ne (by decide) (gs_ne (by decide) (gs_ne (by decide) (gs_ne (by decide) (gs_ne (by decide) (gs_ne (by decide) h_fs_28)))))) (gs_ne (by decide) (gs_ne (by decide) (gs_ne (by decide) (gs_ne (by decide) (gs_ne (by decide) (gs_ne (by decide) h_fs_29)))))) (gs_ne (by decide) (gs_ne (by decide) (gs_ne (by decide) (gs_ne (by decide) (gs_ne (by decide) (gs_ne (by decide) h_fs_30)))))) (gs_eq (ln_lt (ln_set (ln_set (ln_set (ln_set (ln_set hl_fs))))) (by decide)))) cV_X10_clearBank mw_methodLink_RX10_177_yX10_clearBank [0, 1, 2, 3, 4, 5, 6, 7, 8, 9, 10, 11, 12, 13, 14, 15, 16, 17] rfl rfl 0 rfl rfl rfl rfl rfl (Nat.le_of_ble_eq_true rfl) ⟨by decide, by decide⟩ ⟨by decide, by decide⟩ dX10_drill_67) hP hD hS hA [0, 1, 2, 3, 4, 5, 6, 7, 8, 9, 10, 11, 12, 13, 14, 15, 16, 17] [18, 19, 20] rfl rfl rfl (by decide) (fun u_2 H locs hw_2 hP hD hS => ?_)
  obtain ⟨gmv_2, gm_2, gr_2, guo_2, ged_2, gz1_2, gz2_2, grg_2, gz4_2, gz5_2, gwo_2, gfi_2, gby_2, gwi_2, gtu_2, gcr_2, gto_2⟩ := u_2
  try dsimp only at hw_2
  obtain ⟨h_gmv_1_2, h_gm_1_2, h_gr_1_2, h_guo_1_2, h_grg_1_2⟩ := hw_2
  have hP : va_P D classes [(rw, .inl (cyI, 30, .inl frw)), (nw, .inl (cyI, 30, .inl fnw)), (bb, .inl (cyI, 3, .inl fbb)), (o, .inr (10, (((((((fs.set 4 (.int 0)).set 5 (.int (-1))).set 3 (.int 0)).set 2 (.int 0)).set 7 (.int 0)).set 38 (.int 1)).set 39 (.int 600)))), (mv, .inl (cyI, 2, .inl gmv_2)), (mn, .inl (cyI, 2, .inl gm_2)), (rl, .inl (cyI, 2, .inl gr_2)), (uo, .inl (cyI, 2, .inl guo_2)), (ed, .inl (cyI, 2, .inl ged_2)), (z1, .inl (cyZ, 2, .inl gz1_2)), (z2, .inl (cyZ, 2, .inl gz2_2)), (rg, .inl (cyZ, 2, .inl grg_2)), (z4, .inl (cyZ, 2, .inl gz4_2)), (z5, .inl (cyZ, 2, .inl gz5_2)), (wo, .inl (cyI, 8, .inl gwo_2)), (fi, .inl (cyI, 60, .inl gfi_2)), (bym, .inl (cyI, 60, .inl gby_2)), (wi, .inl (cyI, 60, .inl gwi_2)), (tu, .inl (cyZ, 60, .inl gtu_2)), (cr, .inl (cyZ, 60, .inl gcr_2)), (tld, .inl (cyZ, 60, .inl gto_2))] H := hP
  have hD : va_D A [(rw, .inl (cyI, 30, .inl frw)), (nw, .inl (cyI, 30, .inl fnw)), (bb, .inl (cyI, 3, .inl fbb)), (o, .inr (10, (((((((fs.set 4 (.int 0)).set 5 (.int (-1))).set 3 (.int 0)).set 2 (.int 0)).set 7 (.int 0)).set 38 (.int 1)).set 39 (.int 600)))), (mv, .inl (cyI, 2, .inl gmv_2)), (mn, .inl (cyI, 2, .inl gm_2)), (rl, .inl (cyI, 2, .inl gr_2)), (uo, .inl (cyI, 2, .inl guo_2)), (ed, .inl (cyI, 2, .inl ged_2)), (z1, .inl (cyZ, 2, .inl gz1_2)), (z2, .inl (cyZ, 2, .inl gz2_2)), (rg, .inl (cyZ, 2, .inl grg_2)), (z4, .inl (cyZ, 2, .inl gz4_2)), (z5, .inl (cyZ, 2, .inl gz5_2)), (wo, .inl (cyI, 8, .inl gwo_2)), (fi, .inl (cyI, 60, .inl gfi_2)), (bym, .inl (cyI, 60, .inl gby_2)), (wi, .inl (cyI, 60, .inl gwi_2)), (tu, .inl (cyZ, 60, .inl gtu_2)), (cr, .inl (cyZ, 60, .inl gcr_2)), (tld, .inl (cyZ, 60, .inl gto_2))] := hD
  refine W.widen (k := 0) (n := 0) (by decide) (by decide) ?_
  refine lv_aload_n hx hb dX10_drill_70 rfl (lv_at hl 1 rfl) ?_
  refine aftV (wr := [(rw, .inl (cyI, 30, .inl frw)), (nw, .inl (cyI, 30, .inl fnw)), (bb, .inl (cyI, 3, .inl fbb)), (mv, .inl (cyI, 2, .inl gmv_2)), (mn, .inl (cyI, 2, .inl gm_2)), (rl, .inl (cyI, 2, .inl gr_2)), (uo, .inl (cyI, 2, .inl guo_2)), (ed, .inl (cyI, 2, .inl ged_2)), (z1, .inl (cyZ, 2, .inl gz1_2)), (z2, .inl (cyZ, 2, .inl gz2_2)), (rg, .inl (cyZ, 2, .inl grg_2)), (z4, .inl (cyZ, 2, .inl gz4_2)), (z5, .inl (cyZ, 2, .inl gz5_2)), (wo, .inl (cyI, 8, .inl gwo_2)), (fi, .inl (cyI, 60, .inl gfi_2)), (bym, .inl (cyI, 60, .inl gby_2)), (wi, .inl (cyI, 60, .inl gwi_2)), (tu, .inl (cyZ, 60, .inl gtu_2)), (cr, .inl (cyZ, 60, .inl gcr_2)), (tld, .inl (cyZ, 60, .inl gto_2))]) (runV hC hK hP hD hl.1 (k_X10_goOn l D cyB cyI cyJ cyZ H.size o (((((((fs.set 4 (.int 0)).set 5 (.int (-1))).set 3 (.int 0)).set 2 (.int 0)).set 7 (.int 0)).set 38 (.int 1)).set 39 (.int 600)) (ln_set (ln_set (ln_set (ln_set (ln_set (ln_set (ln_set hl_fs))))))) (gs_ne (by decide) (gs_ne (by decide) (gs_eq (ln_lt (ln_set (ln_set (ln_set (ln_set hl_fs)))) (by decide))))) (gs_ne (by decide) (gs_ne (by decide) (gs_ne (by decide) (gs_ne (by decide) (gs_eq (ln_lt (ln_set (ln_set hl_fs)) (by decide)))))))) cV_X10_goOn mw_methodLink_RX10_267_yX10_goOn [3] rfl rfl 3 rfl rfl rfl rfl rfl (Nat.le_of_ble_eq_true rfl) ⟨by decide, by decide⟩ ⟨by decide, by decide⟩ dX10_drill_71) hP hD hS hA [3] [0, 1, 2, 4, 5, 6, 7, 8, 9, 10, 11, 12, 13, 14, 15, 16, 17, 18, 19, 20] rfl rfl rfl (by decide) (fun u_3 H locs hw_3 hP hD hS => ?_)
  have hP : va_P D classes [(rw, .inl (cyI, 30, .inl frw)), (nw, .inl (cyI, 30, .inl fnw)), (bb, .inl (cyI, 3, .inl fbb)), (mv, .inl (cyI, 2, .inl gmv_2)), (mn, .inl (cyI, 2, .inl gm_2)), (rl, .inl (cyI, 2, .inl gr_2)), (uo, .inl (cyI, 2, .inl guo_2)), (ed, .inl (cyI, 2, .inl ged_2)), (z1, .inl (cyZ, 2, .inl gz1_2)), (z2, .inl (cyZ, 2, .inl gz2_2)), (rg, .inl (cyZ, 2, .inl grg_2)), (z4, .inl (cyZ, 2, .inl gz4_2)), (z5, .inl (cyZ, 2, .inl gz5_2)), (wo, .inl (cyI, 8, .inl gwo_2)), (fi, .inl (cyI, 60, .inl gfi_2)), (bym, .inl (cyI, 60, .inl gby_2)), (wi, .inl (cyI, 60, .inl gwi_2)), (tu, .inl (cyZ, 60, .inl gtu_2)), (cr, .inl (cyZ, 60, .inl gcr_2)), (tld, .inl (cyZ, 60, .inl gto_2)), (o, .inr (10, ((((((((((((fs.set 4 (.int 0)).set 5 (.int (-1))).set 3 (.int 0)).set 2 (.int 0)).set 7 (.int 0)).set 38 (.int 1)).set 39 (.int 600)).set 6 (.int 0)).set 7 (.int 1)).set 8 (.int 0)).set 6 (.int 0)).set 7 (.int 0))))] H := hP
  have hD : va_D A [(rw, .inl (cyI, 30, .inl frw)), (nw, .inl (cyI, 30, .inl fnw)), (bb, .inl (cyI, 3, .inl fbb)), (mv, .inl (cyI, 2, .inl gmv_2)), (mn, .inl (cyI, 2, .inl gm_2)), (rl, .inl (cyI, 2, .inl gr_2)), (uo, .inl (cyI, 2, .inl guo_2)), (ed, .inl (cyI, 2, .inl ged_2)), (z1, .inl (cyZ, 2, .inl gz1_2)), (z2, .inl (cyZ, 2, .inl gz2_2)), (rg, .inl (cyZ, 2, .inl grg_2)), (z4, .inl (cyZ, 2, .inl gz4_2)), (z5, .inl (cyZ, 2, .inl gz5_2)), (wo, .inl (cyI, 8, .inl gwo_2)), (fi, .inl (cyI, 60, .inl gfi_2)), (bym, .inl (cyI, 60, .inl gby_2)), (wi, .inl (cyI, 60, .inl gwi_2)), (tu, .inl (cyZ, 60, .inl gtu_2)), (cr, .inl (cyZ, 60, .inl gcr_2)), (tld, .inl (cyZ, 60, .inl gto_2)), (o, .inr (10, ((((((((((((fs.set 4 (.int 0)).set 5 (.int (-1))).set 3 (.int 0)).set 2 (.int 0)).set 7 (.int 0)).set 38 (.int 1)).set 39 (.int 600)).set 6 (.int 0)).set 7 (.int 1)).set 8 (.int 0)).set 6 (.int 0)).set 7 (.int 0))))] := hD
  refine W.widen (k := 0) (n := 0) (by decide) (by decide) ?_
  refine lv_aload_n hx hb dX10_drill_74 rfl (lv_at hl 1 rfl) ?_
  refine aftI (wr := [(rw, .inl (cyI, 30, .inl frw)), (nw, .inl (cyI, 30, .inl fnw)), (bb, .inl (cyI, 3, .inl fbb)), (mv, .inl (cyI, 2, .inl gmv_2)), (mn, .inl (cyI, 2, .inl gm_2)), (rl, .inl (cyI, 2, .inl gr_2)), (uo, .inl (cyI, 2, .inl guo_2)), (ed, .inl (cyI, 2, .inl ged_2)), (z1, .inl (cyZ, 2, .inl gz1_2)), (z2, .inl (cyZ, 2, .inl gz2_2)), (rg, .inl (cyZ, 2, .inl grg_2)), (z4, .inl (cyZ, 2, .inl gz4_2)), (z5, .inl (cyZ, 2, .inl gz5_2)), (wo, .inl (cyI, 8, .inl gwo_2)), (fi, .inl (cyI, 60, .inl gfi_2)), (bym, .inl (cyI, 60, .inl gby_2)), (wi, .inl (cyI, 60, .inl gwi_2)), (tu, .inl (cyZ, 60, .inl gtu_2)), (cr, .inl (cyZ, 60, .inl gcr_2)), (tld, .inl (cyZ, 60, .inl gto_2))]) (runV hC hK hP hD hl.1 (k_X10_isGood l D cyB cyI cyJ cyZ H.size o ((((((((((((fs.set 4 (.int 0)).set 5 (.int (-1))).set 3 (.int 0)).set 2 (.int 0)).set 7 (.int 0)).set 38 (.int 1)).set 39 (.int 600)).set 6 (.int 0)).set 7 (.int 1)).set 8 (.int 0)).set 6 (.int 0)).set 7 (.int 0)) (ln_set (ln_set (ln_set (ln_set (ln_set (ln_set (ln_set (ln_set (ln_set (ln_set (ln_set (ln_set hl_fs)))))))))))) (gs_ne (by decide) (gs_ne (by decide) (gs_ne (by decide) (gs_ne (by decide) (gs_ne (by decide) (gs_ne (by decide) (gs_ne (by decide) (gs_ne (by decide) (gs_ne (by decide) (gs_ne (by decide) (gs_ne (by decide) (gs_eq (ln_lt hl_fs (by decide))))))))))))))) cV_X10_isGood mw_methodLink_RX10_263_yX10_isGood [20] rfl rfl 20 rfl rfl rfl rfl rfl (Nat.le_of_ble_eq_true rfl) ⟨by decide, by decide⟩ ⟨by decide, by decide⟩ dX10_drill_75) hP hD hS hA [20] [0, 1, 2, 3, 4, 5, 6, 7, 8, 9, 10, 11, 12, 13, 14, 15, 16, 17, 18, 19] rfl rfl rfl (by decide) (fun r_4 u_4 H locs hw_4 hP hD hS => ?_)
  have hr_4 := hw_4
  refine lv_cst (v := 1) hr_4 ?_
  have hP : va_P D classes [(rw, .inl (cyI, 30, .inl frw)), (nw, .inl (cyI, 30, .inl fnw)), (bb, .inl (cyI, 3, .inl fbb)), (mv, .inl (cyI, 2, .inl gmv_2)), (mn, .inl (cyI, 2, .inl gm_2)), (rl, .inl (cyI, 2, .inl gr_2)), (uo, .inl (cyI, 2, .inl guo_2)), (ed, .inl (cyI, 2, .inl ged_2)), (z1, .inl (cyZ, 2, .inl gz1_2)), (z2, .inl (cyZ, 2, .inl gz2_2)), (rg, .inl (cyZ, 2, .inl grg_2)), (z4, .inl (cyZ, 2, .inl gz4_2)), (z5, .inl (cyZ, 2, .inl gz5_2)), (wo, .inl (cyI, 8, .inl gwo_2)), (fi, .inl (cyI, 60, .inl gfi_2)), (bym, .inl (cyI, 60, .inl gby_2)), (wi, .inl (cyI, 60, .inl gwi_2)), (tu, .inl (cyZ, 60, .inl gtu_2)), (cr, .inl (cyZ, 60, .inl gcr_2)), (tld, .inl (cyZ, 60, .inl gto_2)), (o, .inr (10, ((((((((((((fs.set 4 (.int 0)).set 5 (.int (-1))).set 3 (.int 0)).set 2 (.int 0)).set 7 (.int 0)).set 38 (.int 1)).set 39 (.int 600)).set 6 (.int 0)).set 7 (.int 1)).set 8 (.int 0)).set 6 (.int 0)).set 7 (.int 0))))] H := hP
  have hD : va_D A [(rw, .inl (cyI, 30, .inl frw)), (nw, .inl (cyI, 30, .inl fnw)), (bb, .inl (cyI, 3, .inl fbb)), (mv, .inl (cyI, 2, .inl gmv_2)), (mn, .inl (cyI, 2, .inl gm_2)), (rl, .inl (cyI, 2, .inl gr_2)), (uo, .inl (cyI, 2, .inl guo_2)), (ed, .inl (cyI, 2, .inl ged_2)), (z1, .inl (cyZ, 2, .inl gz1_2)), (z2, .inl (cyZ, 2, .inl gz2_2)), (rg, .inl (cyZ, 2, .inl grg_2)), (z4, .inl (cyZ, 2, .inl gz4_2)), (z5, .inl (cyZ, 2, .inl gz5_2)), (wo, .inl (cyI, 8, .inl gwo_2)), (fi, .inl (cyI, 60, .inl gfi_2)), (bym, .inl (cyI, 60, .inl gby_2)), (wi, .inl (cyI, 60, .inl gwi_2)), (tu, .inl (cyZ, 60, .inl gtu_2)), (cr, .inl (cyZ, 60, .inl gcr_2)), (tld, .inl (cyZ, 60, .inl gto_2)), (o, .inr (10, ((((((((((((fs.set 4 (.int 0)).set 5 (.int (-1))).set 3 (.int 0)).set 2 (.int 0)).set 7 (.int 0)).set 38 (.int 1)).set 39 (.int 600)).set 6 (.int 0)).set 7 (.int 1)).set 8 (.int 0)).set 6 (.int 0)).set 7 (.int 0))))] := hD
  refine W.widen (k := 0) (n := 0) (by decide) (by decide) ?_
  refine lv_if_eq (tgt := 95) hx hb dX10_drill_78 (by decide) (fun c_5 => absurd c_5 (by decide)) (fun c_5 => ?_)
  refine lv_aload_n hx hb dX10_drill_81 rfl (lv_at hl 1 rfl) ?_
  refine gf hC hK hP iX10 20 rfl rfl 8 (by decide) mw_fieldLink_RX10_235_MirrorDrillModel_token_I (gs_ne (by decide) (gs_ne (by decide) (gs_eq (ln_lt (ln_set (ln_set (ln_set (ln_set (ln_set (ln_set (ln_set (ln_set (ln_set hl_fs))))))))) (by decide))))) dX10_drill_82 ?_
  refine lv_if_eq (tgt := 95) hx hb dX10_drill_85 (by decide) (fun c_6 => ?_) (fun c_6 => absurd (by decide) c_6)
  refine lv_aload_n hx hb dX10_drill_95 rfl (lv_at hl 1 rfl) ?_
  refine aftI (wr := [(rw, .inl (cyI, 30, .inl frw)), (nw, .inl (cyI, 30, .inl fnw)), (bb, .inl (cyI, 3, .inl fbb)), (mv, .inl (cyI, 2, .inl gmv_2)), (mn, .inl (cyI, 2, .inl gm_2)), (rl, .inl (cyI, 2, .inl gr_2)), (uo, .inl (cyI, 2, .inl guo_2)), (ed, .inl (cyI, 2, .inl ged_2)), (z1, .inl (cyZ, 2, .inl gz1_2)), (z2, .inl (cyZ, 2, .inl gz2_2)), (rg, .inl (cyZ, 2, .inl grg_2)), (z4, .inl (cyZ, 2, .inl gz4_2)), (z5, .inl (cyZ, 2, .inl gz5_2)), (wo, .inl (cyI, 8, .inl gwo_2)), (fi, .inl (cyI, 60, .inl gfi_2)), (bym, .inl (cyI, 60, .inl gby_2)), (wi, .inl (cyI, 60, .inl gwi_2)), (tu, .inl (cyZ, 60, .inl gtu_2)), (cr, .inl (cyZ, 60, .inl gcr_2)), (tld, .inl (cyZ, 60, .inl gto_2))]) (runV hC hK hP hD hl.1 (k_X10_isGood l D cyB cyI cyJ cyZ H.size o ((((((((((((fs.set 4 (.int 0)).set 5 (.int (-1))).set 3 (.int 0)).set 2 (.int 0)).set 7 (.int 0)).set 38 (.int 1)).set 39 (.int 600)).set 6 (.int 0)).set 7 (.int 1)).set 8 (.int 0)).set 6 (.int 0)).set 7 (.int 0)) (ln_set (ln_set (ln_set (ln_set (ln_set (ln_set (ln_set (ln_set (ln_set (ln_set (ln_set (ln_set hl_fs)))))))))))) (gs_ne (by decide) (gs_ne (by decide) (gs_ne (by decide) (gs_ne (by decide) (gs_ne (by decide) (gs_ne (by decide) (gs_ne (by decide) (gs_ne (by decide) (gs_ne (by decide) (gs_ne (by decide) (gs_ne (by decide) (gs_eq (ln_lt hl_fs (by decide))))))))))))))) cV_X10_isGood mw_methodLink_RX10_263_yX10_isGood [20] rfl rfl 20 rfl rfl rfl rfl rfl (Nat.le_of_ble_eq_true rfl) ⟨by decide, by decide⟩ ⟨by decide, by decide⟩ dX10_drill_96) hP hD hS hA [20] [0, 1, 2, 3, 4, 5, 6, 7, 8, 9, 10, 11, 12, 13, 14, 15, 16, 17, 18, 19] rfl rfl rfl (by decide) (fun r_7 u_7 H locs hw_7 hP hD hS => ?_)
  have hr_7 := hw_7
  refine lv_cst (v := 1) hr_7 ?_
  have hP : va_P D classes [(rw, .inl (cyI, 30, .inl frw)), (nw, .inl (cyI, 30, .inl fnw)), (bb, .inl (cyI, 3, .inl fbb)), (mv, .inl (cyI, 2, .inl gmv_2)), (mn, .inl (cyI, 2, .inl gm_2)), (rl, .inl (cyI, 2, .inl gr_2)), (uo, .inl (cyI, 2, .inl guo_2)), (ed, .inl (cyI, 2, .inl ged_2)), (z1, .inl (cyZ, 2, .inl gz1_2)), (z2, .inl (cyZ, 2, .inl gz2_2)), (rg, .inl (cyZ, 2, .inl grg_2)), (z4, .inl (cyZ, 2, .inl gz4_2)), (z5, .inl (cyZ, 2, .inl gz5_2)), (wo, .inl (cyI, 8, .inl gwo_2)), (fi, .inl (cyI, 60, .inl gfi_2)), (bym, .inl (cyI, 60, .inl gby_2)), (wi, .inl (cyI, 60, .inl gwi_2)), (tu, .inl (cyZ, 60, .inl gtu_2)), (cr, .inl (cyZ, 60, .inl gcr_2)), (tld, .inl (cyZ, 60, .inl gto_2)), (o, .inr (10, ((((((((((((fs.set 4 (.int 0)).set 5 (.int (-1))).set 3 (.int 0)).set 2 (.int 0)).set 7 (.int 0)).set 38 (.int 1)).set 39 (.int 600)).set 6 (.int 0)).set 7 (.int 1)).set 8 (.int 0)).set 6 (.int 0)).set 7 (.int 0))))] H := hP
  have hD : va_D A [(rw, .inl (cyI, 30, .inl frw)), (nw, .inl (cyI, 30, .inl fnw)), (bb, .inl (cyI, 3, .inl fbb)), (mv, .inl (cyI, 2, .inl gmv_2)), (mn, .inl (cyI, 2, .inl gm_2)), (rl, .inl (cyI, 2, .inl gr_2)), (uo, .inl (cyI, 2, .inl guo_2)), (ed, .inl (cyI, 2, .inl ged_2)), (z1, .inl (cyZ, 2, .inl gz1_2)), (z2, .inl (cyZ, 2, .inl gz2_2)), (rg, .inl (cyZ, 2, .inl grg_2)), (z4, .inl (cyZ, 2, .inl gz4_2)), (z5, .inl (cyZ, 2, .inl gz5_2)), (wo, .inl (cyI, 8, .inl gwo_2)), (fi, .inl (cyI, 60, .inl gfi_2)), (bym, .inl (cyI, 60, .inl gby_2)), (wi, .inl (cyI, 60, .inl gwi_2)), (tu, .inl (cyZ, 60, .inl gtu_2)), (cr, .inl (cyZ, 60, .inl gcr_2)), (tld, .inl (cyZ, 60, .inl gto_2)), (o, .inr (10, ((((((((((((fs.set 4 (.int 0)).set 5 (.int (-1))).set 3 (.int 0)).set 2 (.int 0)).set 7 (.int 0)).set 38 (.int 1)).set 39 (.int 600)).set 6 (.int 0)).set 7 (.int 1)).set 8 (.int 0)).set 6 (.int 0)).set 7 (.int 0))))] := hD
  refine W.widen (k := 0) (n := 0) (by decide) (by decide) ?_
  refine lv_if_ne (tgt := 104) hx hb dX10_drill_99 (by decide) (fun c_8 => ?_) (fun c_8 => absurd c_8 (by decide))
  refine lv_aload_n hx hb dX10_drill_104 rfl (lv_at hl 1 rfl) ?_
  refine lv_aload_n hx hb dX10_drill_105 rfl (lv_at hl 1 rfl) ?_
  refine gf hC hK hP iX10 20 rfl rfl 38 (by decide) mw_fieldLink_RX10_273_MirrorDrillModel_rb_I (gs_ne (by decide) (gs_ne (by decide) (gs_ne (by decide) (gs_ne (by decide) (gs_ne (by decide) (gs_ne (by decide) (gs_eq (ln_lt (ln_set (ln_set (ln_set (ln_set (ln_set hl_fs))))) (by decide))))))))) dX10_drill_106 ?_
  refine pf (v := .int 1) hC hK hP hD hS iX10 tyX10_ok nmX10 20 rfl rfl 37 (by decide) mw_fieldLink_RX10_282_MirrorDrillModel_bank_I rfl rfl rfl (ln_lt (ln_set (ln_set (ln_set (ln_set (ln_set (ln_set (ln_set (ln_set (ln_set (ln_set (ln_set (ln_set hl_fs)))))))))))) (by decide)) dX10_drill_109 (fun H locs hP hD hS => ?_)
  have hP : va_P D classes [(rw, .inl (cyI, 30, .inl frw)), (nw, .inl (cyI, 30, .inl fnw)), (bb, .inl (cyI, 3, .inl fbb)), (mv, .inl (cyI, 2, .inl gmv_2)), (mn, .inl (cyI, 2, .inl gm_2)), (rl, .inl (cyI, 2, .inl gr_2)), (uo, .inl (cyI, 2, .inl guo_2)), (ed, .inl (cyI, 2, .inl ged_2)), (z1, .inl (cyZ, 2, .inl gz1_2)), (z2, .inl (cyZ, 2, .inl gz2_2)), (rg, .inl (cyZ, 2, .inl grg_2)), (z4, .inl (cyZ, 2, .inl gz4_2)), (z5, .inl (cyZ, 2, .inl gz5_2)), (wo, .inl (cyI, 8, .inl gwo_2)), (fi, .inl (cyI, 60, .inl gfi_2)), (bym, .inl (cyI, 60, .inl gby_2)), (wi, .inl (cyI, 60, .inl gwi_2)), (tu, .inl (cyZ, 60, .inl gtu_2)), (cr, .inl (cyZ, 60, .inl gcr_2)), (tld, .inl (cyZ, 60, .inl gto_2)), (o, .inr (10, (((((((((((((fs.set 4 (.int 0)).set 5 (.int (-1))).set 3 (.int 0)).set 2 (.int 0)).set 7 (.int 0)).set 38 (.int 1)).set 39 (.int 600)).set 6 (.int 0)).set 7 (.int 1)).set 8 (.int 0)).set 6 (.int 0)).set 7 (.int 0)).set 37 (.int 1))))] H := hP
  have hD : va_D A [(rw, .inl (cyI, 30, .inl frw)), (nw, .inl (cyI, 30, .inl fnw)), (bb, .inl (cyI, 3, .inl fbb)), (mv, .inl (cyI, 2, .inl gmv_2)), (mn, .inl (cyI, 2, .inl gm_2)), (rl, .inl (cyI, 2, .inl gr_2)), (uo, .inl (cyI, 2, .inl guo_2)), (ed, .inl (cyI, 2, .inl ged_2)), (z1, .inl (cyZ, 2, .inl gz1_2)), (z2, .inl (cyZ, 2, .inl gz2_2)), (rg, .inl (cyZ, 2, .inl grg_2)), (z4, .inl (cyZ, 2, .inl gz4_2)), (z5, .inl (cyZ, 2, .inl gz5_2)), (wo, .inl (cyI, 8, .inl gwo_2)), (fi, .inl (cyI, 60, .inl gfi_2)), (bym, .inl (cyI, 60, .inl gby_2)), (wi, .inl (cyI, 60, .inl gwi_2)), (tu, .inl (cyZ, 60, .inl gtu_2)), (cr, .inl (cyZ, 60, .inl gcr_2)), (tld, .inl (cyZ, 60, .inl gto_2)), (o, .inr (10, (((((((((((((fs.set 4 (.int 0)).set 5 (.int (-1))).set 3 (.int 0)).set 2 (.int 0)).set 7 (.int 0)).set 38 (.int 1)).set 39 (.int 600)).set 6 (.int 0)).set 7 (.int 1)).set 8 (.int 0)).set 6 (.int 0)).set 7 (.int 0)).set 37 (.int 1))))] := hD
  refine lv_aload_n hx hb dX10_drill_112 rfl (lv_at hl 1 rfl) ?_
  refine aftV (wr := [(rw, .inl (cyI, 30, .inl frw)), (nw, .inl (cyI, 30, .inl fnw)), (bb, .inl (cyI, 3, .inl fbb)), (mn, .inl (cyI, 2, .inl gm_2)), (uo, .inl (cyI, 2, .inl guo_2)), (ed, .inl (cyI, 2, .inl ged_2)), (z1, .inl (cyZ, 2, .inl gz1_2)), (z2, .inl (cyZ, 2, .inl gz2_2)), (rg, .inl (cyZ, 2, .inl grg_2)), (z4, .inl (cyZ, 2, .inl gz4_2)), (z5, .inl (cyZ, 2, .inl gz5_2)), (wo, .inl (cyI, 8, .inl gwo_2)), (fi, .inl (cyI, 60, .inl gfi_2)), (bym, .inl (cyI, 60, .inl gby_2)), (wi, .inl (cyI, 60, .inl gwi_2)), (tu, .inl (cyZ, 60, .inl gtu_2)), (cr, .inl (cyZ, 60, .inl gcr_2)), (tld, .inl (cyZ, 60, .inl gto_2))]) (runV hC hK hP hD hl.1 (k_X10_layTables l D cyB cyI cyJ cyZ H.size o (((((((((((((fs.set 4 (.int 0)).set 5 (.int (-1))).set 3 (.int 0)).set 2 (.int 0)).set 7 (.int 0)).set 38 (.int 1)).set 39 (.int 600)).set 6 (.int 0)).set 7 (.int 1)).set 8 (.int 0)).set 6 (.int 0)).set 7 (.int 0)).set 37 (.int 1)) mv rl gmv_2 gr_2 (ln_set (ln_set (ln_set (ln_set (ln_set (ln_set (ln_set (ln_set (ln_set (ln_set (ln_set (ln_set (ln_set hl_fs))))))))))))) (gs_ne (by decide) (gs_ne (by decide) (gs_ne (by decide) (gs_ne (by decide) (gs_ne (by decide) (gs_ne (by decide) (gs_ne (by decide) (gs_ne (by decide) (gs_ne (by decide) (gs_ne (by decide) (gs_ne (by decide) (gs_ne (by decide) (gs_ne (by decide) h_fs_11))))))))))))) (gs_ne (by decide) (gs_ne (by decide) (gs_ne (by decide) (gs_ne (by decide) (gs_ne (by decide) (gs_ne (by decide) (gs_ne (by decide) (gs_ne (by decide) (gs_ne (by decide) (gs_ne (by decide) (gs_ne (by decide) (gs_ne (by decide) (gs_ne (by decide) h_fs_13))))))))))))) (gs_eq (ln_lt (ln_set (ln_set (ln_set (ln_set (ln_set (ln_set (ln_set (ln_set (ln_set (ln_set (ln_set (ln_set hl_fs)))))))))))) (by decide))) h_gmv_1_2 h_gr_1_2) cV_X10_layTables mw_methodLink_RX10_288_yX10_layTables [20, 3, 5] rfl rfl 20 rfl rfl rfl rfl rfl (Nat.le_of_ble_eq_true rfl) ⟨by decide, by decide⟩ ⟨by decide, by decide⟩ dX10_drill_113) hP hD hS hA [20, 3, 5] [0, 1, 2, 4, 6, 7, 8, 9, 10, 11, 12, 13, 14, 15, 16, 17, 18, 19] rfl rfl rfl (by decide) (fun u_9 H locs hw_9 hP hD hS => ?_)
  have hP : va_P D classes [(rw, .inl (cyI, 30, .inl frw)), (nw, .inl (cyI, 30, .inl fnw)), (bb, .inl (cyI, 3, .inl fbb)), (mn, .inl (cyI, 2, .inl gm_2)), (uo, .inl (cyI, 2, .inl guo_2)), (ed, .inl (cyI, 2, .inl ged_2)), (z1, .inl (cyZ, 2, .inl gz1_2)), (z2, .inl (cyZ, 2, .inl gz2_2)), (rg, .inl (cyZ, 2, .inl grg_2)), (z4, .inl (cyZ, 2, .inl gz4_2)), (z5, .inl (cyZ, 2, .inl gz5_2)), (wo, .inl (cyI, 8, .inl gwo_2)), (fi, .inl (cyI, 60, .inl gfi_2)), (bym, .inl (cyI, 60, .inl gby_2)), (wi, .inl (cyI, 60, .inl gwi_2)), (tu, .inl (cyZ, 60, .inl gtu_2)), (cr, .inl (cyZ, 60, .inl gcr_2)), (tld, .inl (cyZ, 60, .inl gto_2)), (o, .inr (10, (((((((((((((fs.set 4 (.int 0)).set 5 (.int (-1))).set 3 (.int 0)).set 2 (.int 0)).set 7 (.int 0)).set 38 (.int 1)).set 39 (.int 600)).set 6 (.int 0)).set 7 (.int 1)).set 8 (.int 0)).set 6 (.int 0)).set 7 (.int 0)).set 37 (.int 1)))), (mv, .inl (cyI, 2, .inl gmv_2)), (rl, .inl (cyI, 2, .inl gr_2))] H := hP
  have hD : va_D A [(rw, .inl (cyI, 30, .inl frw)), (nw, .inl (cyI, 30, .inl fnw)), (bb, .inl (cyI, 3, .inl fbb)), (mn, .inl (cyI, 2, .inl gm_2)), (uo, .inl (cyI, 2, .inl guo_2)), (ed, .inl (cyI, 2, .inl ged_2)), (z1, .inl (cyZ, 2, .inl gz1_2)), (z2, .inl (cyZ, 2, .inl gz2_2)), (rg, .inl (cyZ, 2, .inl grg_2)), (z4, .inl (cyZ, 2, .inl gz4_2)), (z5, .inl (cyZ, 2, .inl gz5_2)), (wo, .inl (cyI, 8, .inl gwo_2)), (fi, .inl (cyI, 60, .inl gfi_2)), (bym, .inl (cyI, 60, .inl gby_2)), (wi, .inl (cyI, 60, .inl gwi_2)), (tu, .inl (cyZ, 60, .inl gtu_2)), (cr, .inl (cyZ, 60, .inl gcr_2)), (tld, .inl (cyZ, 60, .inl gto_2)), (o, .inr (10, (((((((((((((fs.set 4 (.int 0)).set 5 (.int (-1))).set 3 (.int 0)).set 2 (.int 0)).set 7 (.int 0)).set 38 (.int 1)).set 39 (.int 600)).set 6 (.int 0)).set 7 (.int 1)).set 8 (.int 0)).set 6 (.int 0)).set 7 (.int 0)).set 37 (.int 1)))), (mv, .inl (cyI, 2, .inl gmv_2)), (rl, .inl (cyI, 2, .inl gr_2))] := hD
  refine W.widen (k := 0) (n := 0) (by decide) (by decide) ?_
  refine lv_aload_n hx hb dX10_drill_116 rfl (lv_at hl 1 rfl) ?_
  refine aftV (wr := [(bb, .inl (cyI, 3, .inl fbb)), (mn, .inl (cyI, 2, .inl gm_2)), (uo, .inl (cyI, 2, .inl guo_2)), (ed, .inl (cyI, 2, .inl ged_2)), (z1, .inl (cyZ, 2, .inl gz1_2)), (z2, .inl (cyZ, 2, .inl gz2_2)), (rg, .inl (cyZ, 2, .inl grg_2)), (z4, .inl (cyZ, 2, .inl gz4_2)), (z5, .inl (cyZ, 2, .inl gz5_2)), (wo, .inl (cyI, 8, .inl gwo_2)), (bym, .inl (cyI, 60, .inl gby_2)), (wi, .inl (cyI, 60, .inl gwi_2)), (tu, .inl (cyZ, 60, .inl gtu_2)), (cr, .inl (cyZ, 60, .inl gcr_2)), (tld, .inl (cyZ, 60, .inl gto_2)), (mv, .inl (cyI, 2, .inl gmv_2)), (rl, .inl (cyI, 2, .inl gr_2))]) (runV hC hK hP hD hl.1 (k_X10_begin1 l D cyB cyI cyJ cyZ H.size o (((((((((((((fs.set 4 (.int 0)).set 5 (.int (-1))).set 3 (.int 0)).set 2 (.int 0)).set 7 (.int 0)).set 38 (.int 1)).set 39 (.int 600)).set 6 (.int 0)).set 7 (.int 1)).set 8 (.int 0)).set 6 (.int 0)).set 7 (.int 0)).set 37 (.int 1)) rw fi nw frw gfi_2 fnw (ln_set (ln_set (ln_set (ln_set (ln_set (ln_set (ln_set (ln_set (ln_set (ln_set (ln_set (ln_set (ln_set hl_fs))))))))))))) (gs_ne (by decide) (gs_ne (by decide) (gs_ne (by decide) (gs_ne (by decide) (gs_ne (by decide) (gs_ne (by decide) (gs_ne (by decide) (gs_ne (by decide) (gs_ne (by decide) (gs_ne (by decide) (gs_ne (by decide) (gs_ne (by decide) (gs_ne (by decide) h_fs_43))))))))))))) (gs_ne (by decide) (gs_ne (by decide) (gs_ne (by decide) (gs_ne (by decide) (gs_ne (by decide) (gs_ne (by decide) (gs_ne (by decide) (gs_ne (by decide) (gs_ne (by decide) (gs_ne (by decide) (gs_ne (by decide) (gs_ne (by decide) (gs_ne (by decide) h_fs_20))))))))))))) (gs_ne (by decide) (gs_ne (by decide) (gs_ne (by decide) (gs_ne (by decide) (gs_ne (by decide) (gs_ne (by decide) (gs_ne (by decide) (gs_ne (by decide) (gs_ne (by decide) (gs_ne (by decide) (gs_ne (by decide) (gs_ne (by decide) (gs_ne (by decide) h_fs_45))))))))))))) (gs_eq (ln_lt (ln_set (ln_set (ln_set (ln_set (ln_set (ln_set (ln_set (ln_set (ln_set (ln_set (ln_set (ln_set hl_fs)))))))))))) (by decide)))) cV_X10_begin mw_methodLink_RX10_180_yX10_begin [18, 0, 12, 1] rfl rfl 18 rfl rfl rfl rfl rfl (Nat.le_of_ble_eq_true rfl) ⟨by decide, by decide⟩ ⟨by decide, by decide⟩ dX10_drill_117) hP hD hS hA [18, 0, 12, 1] [2, 3, 4, 5, 6, 7, 8, 9, 10, 11, 13, 14, 15, 16, 17, 19, 20] rfl rfl rfl (by decide) (fun u_10 H locs hw_10 hP hD hS => ?_)
  obtain ⟨grw_10, gnw_10⟩ := u_10
  try dsimp only at hw_10
  have hP : va_P D classes [(bb, .inl (cyI, 3, .inl fbb)), (mn, .inl (cyI, 2, .inl gm_2)), (uo, .inl (cyI, 2, .inl guo_2)), (ed, .inl (cyI, 2, .inl ged_2)), (z1, .inl (cyZ, 2, .inl gz1_2)), (z2, .inl (cyZ, 2, .inl gz2_2)), (rg, .inl (cyZ, 2, .inl grg_2)), (z4, .inl (cyZ, 2, .inl gz4_2)), (z5, .inl (cyZ, 2, .inl gz5_2)), (wo, .inl (cyI, 8, .inl gwo_2)), (bym, .inl (cyI, 60, .inl gby_2)), (wi, .inl (cyI, 60, .inl gwi_2)), (tu, .inl (cyZ, 60, .inl gtu_2)), (cr, .inl (cyZ, 60, .inl gcr_2)), (tld, .inl (cyZ, 60, .inl gto_2)), (mv, .inl (cyI, 2, .inl gmv_2)), (rl, .inl (cyI, 2, .inl gr_2)), (o, .inr (10, ((((((((((((((((fs.set 4 (.int 0)).set 5 (.int (-1))).set 3 (.int 0)).set 2 (.int 0)).set 7 (.int 0)).set 38 (.int 1)).set 39 (.int 600)).set 6 (.int 0)).set 7 (.int 1)).set 8 (.int 0)).set 6 (.int 0)).set 7 (.int 0)).set 37 (.int 1)).set 46 (.int 0)).set 51 (.int 0)).set 52 (.int 0)))), (rw, .inl (cyI, 30, .inl grw_10)), (fi, .inl (cyI, 60, .inl gfi_2)), (nw, .inl (cyI, 30, .inl gnw_10))] H := hP
  have hD : va_D A [(bb, .inl (cyI, 3, .inl fbb)), (mn, .inl (cyI, 2, .inl gm_2)), (uo, .inl (cyI, 2, .inl guo_2)), (ed, .inl (cyI, 2, .inl ged_2)), (z1, .inl (cyZ, 2, .inl gz1_2)), (z2, .inl (cyZ, 2, .inl gz2_2)), (rg, .inl (cyZ, 2, .inl grg_2)), (z4, .inl (cyZ, 2, .inl gz4_2)), (z5, .inl (cyZ, 2, .inl gz5_2)), (wo, .inl (cyI, 8, .inl gwo_2)), (bym, .inl (cyI, 60, .inl gby_2)), (wi, .inl (cyI, 60, .inl gwi_2)), (tu, .inl (cyZ, 60, .inl gtu_2)), (cr, .inl (cyZ, 60, .inl gcr_2)), (tld, .inl (cyZ, 60, .inl gto_2)), (mv, .inl (cyI, 2, .inl gmv_2)), (rl, .inl (cyI, 2, .inl gr_2)), (o, .inr (10, ((((((((((((((((fs.set 4 (.int 0)).set 5 (.int (-1))).set 3 (.int 0)).set 2 (.int 0)).set 7 (.int 0)).set 38 (.int 1)).set 39 (.int 600)).set 6 (.int 0)).set 7 (.int 1)).set 8 (.int 0)).set 6 (.int 0)).set 7 (.int 0)).set 37 (.int 1)).set 46 (.int 0)).set 51 (.int 0)).set 52 (.int 0)))), (rw, .inl (cyI, 30, .inl grw_10)), (fi, .inl (cyI, 60, .inl gfi_2)), (nw, .inl (cyI, 30, .inl gnw_10))] := hD
  refine W.widen (k := 0) (n := 0) (by decide) (by decide) ?_
  refine lv_aload_n hx hb dX10_drill_120 rfl (lv_at hl 1 rfl) ?_
  refine lv_iconst (v := 0) hx hb dX10_drill_121 (by decide) ?_
  refine pf (v := .int 0) hC hK hP hD hS iX10 tyX10_ok nmX10 17 rfl rfl 75 (by decide) mw_fieldLink_RX10_291_MirrorDrillModel_sights_I rfl rfl rfl (ln_lt (ln_set (ln_set (ln_set (ln_set (ln_set (ln_set (ln_set (ln_set (ln_set (ln_set (ln_set (ln_set (ln_set (ln_set (ln_set (ln_set hl_fs)))))))))))))))) (by decide)) dX10_drill_122 (fun H locs hP hD hS => ?_)
  have hP : va_P D classes [(bb, .inl (cyI, 3, .inl fbb)), (mn, .inl (cyI, 2, .inl gm_2)), (uo, .inl (cyI, 2, .inl guo_2)), (ed, .inl (cyI, 2, .inl ged_2)), (z1, .inl (cyZ, 2, .inl gz1_2)), (z2, .inl (cyZ, 2, .inl gz2_2)), (rg, .inl (cyZ, 2, .inl grg_2)), (z4, .inl (cyZ, 2, .inl gz4_2)), (z5, .inl (cyZ, 2, .inl gz5_2)), (wo, .inl (cyI, 8, .inl gwo_2)), (bym, .inl (cyI, 60, .inl gby_2)), (wi, .inl (cyI, 60, .inl gwi_2)), (tu, .inl (cyZ, 60, .inl gtu_2)), (cr, .inl (cyZ, 60, .inl gcr_2)), (tld, .inl (cyZ, 60, .inl gto_2)), (mv, .inl (cyI, 2, .inl gmv_2)), (rl, .inl (cyI, 2, .inl gr_2)), (o, .inr (10, (((((((((((((((((fs.set 4 (.int 0)).set 5 (.int (-1))).set 3 (.int 0)).set 2 (.int 0)).set 7 (.int 0)).set 38 (.int 1)).set 39 (.int 600)).set 6 (.int 0)).set 7 (.int 1)).set 8 (.int 0)).set 6 (.int 0)).set 7 (.int 0)).set 37 (.int 1)).set 46 (.int 0)).set 51 (.int 0)).set 52 (.int 0)).set 75 (.int 0)))), (rw, .inl (cyI, 30, .inl grw_10)), (fi, .inl (cyI, 60, .inl gfi_2)), (nw, .inl (cyI, 30, .inl gnw_10))] H := hP
  have hD : va_D A [(bb, .inl (cyI, 3, .inl fbb)), (mn, .inl (cyI, 2, .inl gm_2)), (uo, .inl (cyI, 2, .inl guo_2)), (ed, .inl (cyI, 2, .inl ged_2)), (z1, .inl (cyZ, 2, .inl gz1_2)), (z2, .inl (cyZ, 2, .inl gz2_2)), (rg, .inl (cyZ, 2, .inl grg_2)), (z4, .inl (cyZ, 2, .inl gz4_2)), (z5, .inl (cyZ, 2, .inl gz5_2)), (wo, .inl (cyI, 8, .inl gwo_2)), (bym, .inl (cyI, 60, .inl gby_2)), (wi, .inl (cyI, 60, .inl gwi_2)), (tu, .inl (cyZ, 60, .inl gtu_2)), (cr, .inl (cyZ, 60, .inl gcr_2)), (tld, .inl (cyZ, 60, .inl gto_2)), (mv, .inl (cyI, 2, .inl gmv_2)), (rl, .inl (cyI, 2, .inl gr_2)), (o, .inr (10, (((((((((((((((((fs.set 4 (.int 0)).set 5 (.int (-1))).set 3 (.int 0)).set 2 (.int 0)).set 7 (.int 0)).set 38 (.int 1)).set 39 (.int 600)).set 6 (.int 0)).set 7 (.int 1)).set 8 (.int 0)).set 6 (.int 0)).set 7 (.int 0)).set 37 (.int 1)).set 46 (.int 0)).set 51 (.int 0)).set 52 (.int 0)).set 75 (.int 0)))), (rw, .inl (cyI, 30, .inl grw_10)), (fi, .inl (cyI, 60, .inl gfi_2)), (nw, .inl (cyI, 30, .inl gnw_10))] := hD
  refine lv_aload_n hx hb dX10_drill_125 rfl (lv_at hl 1 rfl) ?_
  refine lv_iconst (v := 0) hx hb dX10_drill_126 (by decide) ?_
  refine pf (v := .int 0) hC hK hP hD hS iX10 tyX10_ok nmX10 17 rfl rfl 77 (by decide) mw_fieldLink_RX10_294_MirrorDrillModel_unsureSet_I rfl rfl rfl (ln_lt (ln_set (ln_set (ln_set (ln_set (ln_set (ln_set (ln_set (ln_set (ln_set (ln_set (ln_set (ln_set (ln_set (ln_set (ln_set (ln_set (ln_set hl_fs))))))))))))))))) (by decide)) dX10_drill_127 (fun H locs hP hD hS => ?_)
  have hP : va_P D classes [(bb, .inl (cyI, 3, .inl fbb)), (mn, .inl (cyI, 2, .inl gm_2)), (uo, .inl (cyI, 2, .inl guo_2)), (ed, .inl (cyI, 2, .inl ged_2)), (z1, .inl (cyZ, 2, .inl gz1_2)), (z2, .inl (cyZ, 2, .inl gz2_2)), (rg, .inl (cyZ, 2, .inl grg_2)), (z4, .inl (cyZ, 2, .inl gz4_2)), (z5, .inl (cyZ, 2, .inl gz5_2)), (wo, .inl (cyI, 8, .inl gwo_2)), (bym, .inl (cyI, 60, .inl gby_2)), (wi, .inl (cyI, 60, .inl gwi_2)), (tu, .inl (cyZ, 60, .inl gtu_2)), (cr, .inl (cyZ, 60, .inl gcr_2)), (tld, .inl (cyZ, 60, .inl gto_2)), (mv, .inl (cyI, 2, .inl gmv_2)), (rl, .inl (cyI, 2, .inl gr_2)), (o, .inr (10, ((((((((((((((((((fs.set 4 (.int 0)).set 5 (.int (-1))).set 3 (.int 0)).set 2 (.int 0)).set 7 (.int 0)).set 38 (.int 1)).set 39 (.int 600)).set 6 (.int 0)).set 7 (.int 1)).set 8 (.int 0)).set 6 (.int 0)).set 7 (.int 0)).set 37 (.int 1)).set 46 (.int 0)).set 51 (.int 0)).set 52 (.int 0)).set 75 (.int 0)).set 77 (.int 0)))), (rw, .inl (cyI, 30, .inl grw_10)), (fi, .inl (cyI, 60, .inl gfi_2)), (nw, .inl (cyI, 30, .inl gnw_10))] H := hP
  have hD : va_D A [(bb, .inl (cyI, 3, .inl fbb)), (mn, .inl (cyI, 2, .inl gm_2)), (uo, .inl (cyI, 2, .inl guo_2)), (ed, .inl (cyI, 2, .inl ged_2)), (z1, .inl (cyZ, 2, .inl gz1_2)), (z2, .inl (cyZ, 2, .inl gz2_2)), (rg, .inl (cyZ, 2, .inl grg_2)), (z4, .inl (cyZ, 2, .inl gz4_2)), (z5, .inl (cyZ, 2, .inl gz5_2)), (wo, .inl (cyI, 8, .inl gwo_2)), (bym, .inl (cyI, 60, .inl gby_2)), (wi, .inl (cyI, 60, .inl gwi_2)), (tu, .inl (cyZ, 60, .inl gtu_2)), (cr, .inl (cyZ, 60, .inl gcr_2)), (tld, .inl (cyZ, 60, .inl gto_2)), (mv, .inl (cyI, 2, .inl gmv_2)), (rl, .inl (cyI, 2, .inl gr_2)), (o, .inr (10, ((((((((((((((((((fs.set 4 (.int 0)).set 5 (.int (-1))).set 3 (.int 0)).set 2 (.int 0)).set 7 (.int 0)).set 38 (.int 1)).set 39 (.int 600)).set 6 (.int 0)).set 7 (.int 1)).set 8 (.int 0)).set 6 (.int 0)).set 7 (.int 0)).set 37 (.int 1)).set 46 (.int 0)).set 51 (.int 0)).set 52 (.int 0)).set 75 (.int 0)).set 77 (.int 0)))), (rw, .inl (cyI, 30, .inl grw_10)), (fi, .inl (cyI, 60, .inl gfi_2)), (nw, .inl (cyI, 30, .inl gnw_10))] := hD
  refine lv_aload_n hx hb dX10_drill_130 rfl (lv_at hl 1 rfl) ?_
  refine lv_iconst (v := 0) hx hb dX10_drill_131 (by decide) ?_
  refine pf (v := .int 0) hC hK hP hD hS iX10 tyX10_ok nmX10 17 rfl rfl 60 (by decide) mw_fieldLink_RX10_297_MirrorDrillModel_laid_I rfl rfl rfl (ln_lt (ln_set (ln_set (ln_set (ln_set (ln_set (ln_set (ln_set (ln_set (ln_set (ln_set (ln_set (ln_set (ln_set (ln_set (ln_set (ln_set (ln_set (ln_set hl_fs)))))))))))))))))) (by decide)) dX10_drill_132 (fun H locs hP hD hS => ?_)
  have hP : va_P D classes [(bb, .inl (cyI, 3, .inl fbb)), (mn, .inl (cyI, 2, .inl gm_2)), (uo, .inl (cyI, 2, .inl guo_2)), (ed, .inl (cyI, 2, .inl ged_2)), (z1, .inl (cyZ, 2, .inl gz1_2)), (z2, .inl (cyZ, 2, .inl gz2_2)), (rg, .inl (cyZ, 2, .inl grg_2)), (z4, .inl (cyZ, 2, .inl gz4_2)), (z5, .inl (cyZ, 2, .inl gz5_2)), (wo, .inl (cyI, 8, .inl gwo_2)), (bym, .inl (cyI, 60, .inl gby_2)), (wi, .inl (cyI, 60, .inl gwi_2)), (tu, .inl (cyZ, 60, .inl gtu_2)), (cr, .inl (cyZ, 60, .inl gcr_2)), (tld, .inl (cyZ, 60, .inl gto_2)), (mv, .inl (cyI, 2, .inl gmv_2)), (rl, .inl (cyI, 2, .inl gr_2)), (o, .inr (10, (((((((((((((((((((fs.set 4 (.int 0)).set 5 (.int (-1))).set 3 (.int 0)).set 2 (.int 0)).set 7 (.int 0)).set 38 (.int 1)).set 39 (.int 600)).set 6 (.int 0)).set 7 (.int 1)).set 8 (.int 0)).set 6 (.int 0)).set 7 (.int 0)).set 37 (.int 1)).set 46 (.int 0)).set 51 (.int 0)).set 52 (.int 0)).set 75 (.int 0)).set 77 (.int 0)).set 60 (.int 0)))), (rw, .inl (cyI, 30, .inl grw_10)), (fi, .inl (cyI, 60, .inl gfi_2)), (nw, .inl (cyI, 30, .inl gnw_10))] H := hP
  have hD : va_D A [(bb, .inl (cyI, 3, .inl fbb)), (mn, .inl (cyI, 2, .inl gm_2)), (uo, .inl (cyI, 2, .inl guo_2)), (ed, .inl (cyI, 2, .inl ged_2)), (z1, .inl (cyZ, 2, .inl gz1_2)), (z2, .inl (cyZ, 2, .inl gz2_2)), (rg, .inl (cyZ, 2, .inl grg_2)), (z4, .inl (cyZ, 2, .inl gz4_2)), (z5, .inl (cyZ, 2, .inl gz5_2)), (wo, .inl (cyI, 8, .inl gwo_2)), (bym, .inl (cyI, 60, .inl gby_2)), (wi, .inl (cyI, 60, .inl gwi_2)), (tu, .inl (cyZ, 60, .inl gtu_2)), (cr, .inl (cyZ, 60, .inl gcr_2)), (tld, .inl (cyZ, 60, .inl gto_2)), (mv, .inl (cyI, 2, .inl gmv_2)), (rl, .inl (cyI, 2, .inl gr_2)), (o, .inr (10, (((((((((((((((((((fs.set 4 (.int 0)).set 5 (.int (-1))).set 3 (.int 0)).set 2 (.int 0)).set 7 (.int 0)).set 38 (.int 1)).set 39 (.int 600)).set 6 (.int 0)).set 7 (.int 1)).set 8 (.int 0)).set 6 (.int 0)).set 7 (.int 0)).set 37 (.int 1)).set 46 (.int 0)).set 51 (.int 0)).set 52 (.int 0)).set 75 (.int 0)).set 77 (.int 0)).set 60 (.int 0)))), (rw, .inl (cyI, 30, .inl grw_10)), (fi, .inl (cyI, 60, .inl gfi_2)), (nw, .inl (cyI, 30, .inl gnw_10))] := hD
  refine lv_iconst (v := 0) hx hb dX10_drill_135 (by decide) ?_
  refine lv_istore_n (lv' := [(1, .int 0), (0, .ref o)]) hx hb dX10_drill_136 rfl hl (by decide) rfl (fun ls hl => ?_)
  refine lv_iload_n hx hb dX10_drill_137 rfl (lv_at hl 0 rfl) ?_
  refine lv_iconst (v := 3) hx hb dX10_drill_138 (by decide) ?_
  refine lv_icmp_ge (tgt := 155) hx hb dX10_drill_139 (by decide) (fun c_11 => absurd c_11 (by decide)) (fun c_11 => ?_)
  refine lv_aload_n hx hb dX10_drill_142 rfl (lv_at hl 1 rfl) ?_
  refine gf hC hK hP iX10 17 rfl rfl 78 (by decide) mw_fieldLink_RX10_171_MirrorDrillModel_boxBeats_I (gs_ne (by decide) (gs_ne (by decide) (gs_ne (by decide) (gs_ne (by decide) (gs_ne (by decide) (gs_ne (by decide) (gs_ne (by decide) (gs_ne (by decide) (gs_ne (by decide) (gs_ne (by decide) (gs_ne (by decide) (gs_ne (by decide) (gs_ne (by decide) (gs_ne (by decide) (gs_ne (by decide) (gs_ne (by decide) (gs_ne (by decide) (gs_ne (by decide) (gs_ne (by decide) h_fs_78))))))))))))))))))) dX10_drill_143 ?_
  refine lv_iload_n hx hb dX10_drill_146 rfl (lv_at hl 0 rfl) ?_
  refine lv_iconst (v := (-1)) hx hb dX10_drill_147 (by decide) ?_
  refine va_iast hx hb hK hP hD hS 0 1 rfl rfl (vin (by decide)) dX10_drill_148 (fun H locs hP hD hS => ?_)
  obtain ⟨f_12, ef_12⟩ : ∃ g : Nat → Int32, g = upd fbb ((0 : Int32).toNatClampNeg) (-1) := ⟨_, rfl⟩
  rw [← ef_12] at hP hD
  have hP : va_P D classes [(bb, .inl (cyI, 3, .inl f_12)), (mn, .inl (cyI, 2, .inl gm_2)), (uo, .inl (cyI, 2, .inl guo_2)), (ed, .inl (cyI, 2, .inl ged_2)), (z1, .inl (cyZ, 2, .inl gz1_2)), (z2, .inl (cyZ, 2, .inl gz2_2)), (rg, .inl (cyZ, 2, .inl grg_2)), (z4, .inl (cyZ, 2, .inl gz4_2)), (z5, .inl (cyZ, 2, .inl gz5_2)), (wo, .inl (cyI, 8, .inl gwo_2)), (bym, .inl (cyI, 60, .inl gby_2)), (wi, .inl (cyI, 60, .inl gwi_2)), (tu, .inl (cyZ, 60, .inl gtu_2)), (cr, .inl (cyZ, 60, .inl gcr_2)), (tld, .inl (cyZ, 60, .inl gto_2)), (mv, .inl (cyI, 2, .inl gmv_2)), (rl, .inl (cyI, 2, .inl gr_2)), (o, .inr (10, (((((((((((((((((((fs.set 4 (.int 0)).set 5 (.int (-1))).set 3 (.int 0)).set 2 (.int 0)).set 7 (.int 0)).set 38 (.int 1)).set 39 (.int 600)).set 6 (.int 0)).set 7 (.int 1)).set 8 (.int 0)).set 6 (.int 0)).set 7 (.int 0)).set 37 (.int 1)).set 46 (.int 0)).set 51 (.int 0)).set 52 (.int 0)).set 75 (.int 0)).set 77 (.int 0)).set 60 (.int 0)))), (rw, .inl (cyI, 30, .inl grw_10)), (fi, .inl (cyI, 60, .inl gfi_2)), (nw, .inl (cyI, 30, .inl gnw_10))] H := hP
  have hD : va_D A [(bb, .inl (cyI, 3, .inl f_12)), (mn, .inl (cyI, 2, .inl gm_2)), (uo, .inl (cyI, 2, .inl guo_2)), (ed, .inl (cyI, 2, .inl ged_2)), (z1, .inl (cyZ, 2, .inl gz1_2)), (z2, .inl (cyZ, 2, .inl gz2_2)), (rg, .inl (cyZ, 2, .inl grg_2)), (z4, .inl (cyZ, 2, .inl gz4_2)), (z5, .inl (cyZ, 2, .inl gz5_2)), (wo, .inl (cyI, 8, .inl gwo_2)), (bym, .inl (cyI, 60, .inl gby_2)), (wi, .inl (cyI, 60, .inl gwi_2)), (tu, .inl (cyZ, 60, .inl gtu_2)), (cr, .inl (cyZ, 60, .inl gcr_2)), (tld, .inl (cyZ, 60, .inl gto_2)), (mv, .inl (cyI, 2, .inl gmv_2)), (rl, .inl (cyI, 2, .inl gr_2)), (o, .inr (10, (((((((((((((((((((fs.set 4 (.int 0)).set 5 (.int (-1))).set 3 (.int 0)).set 2 (.int 0)).set 7 (.int 0)).set 38 (.int 1)).set 39 (.int 600)).set 6 (.int 0)).set 7 (.int 1)).set 8 (.int 0)).set 6 (.int 0)).set 7 (.int 0)).set 37 (.int 1)).set 46 (.int 0)).set 51 (.int 0)).set 52 (.int 0)).set 75 (.int 0)).set 77 (.int 0)).set 60 (.int 0)))), (rw, .inl (cyI, 30, .inl grw_10)), (fi, .inl (cyI, 60, .inl gfi_2)), (nw, .inl (cyI, 30, .inl gnw_10))] := hD
  refine lv_iinc (v := 1) (lv' := [(1, .int 1), (0, .ref o)]) hx hb dX10_drill_149 hl (k := 0) rfl (by decide) (by decide) rfl (fun ls hl => ?_)
  refine lv_goto (tgt := 137) hx hb dX10_drill_152 (by decide) ?_
  refine lv_iload_n hx hb dX10_drill_137 rfl (lv_at hl 0 rfl) ?_
  refine lv_iconst (v := 3) hx hb dX10_drill_138 (by decide) ?_
  refine lv_icmp_ge (tgt := 155) hx hb dX10_drill_139 (by decide) (fun c_13 => absurd c_13 (by decide)) (fun c_13 => ?_)
  refine lv_aload_n hx hb dX10_drill_142 rfl (lv_at hl 1 rfl) ?_
  refine gf hC hK hP iX10 17 rfl rfl 78 (by decide) mw_fieldLink_RX10_171_MirrorDrillModel_boxBeats_I (gs_ne (by decide) (gs_ne (by decide) (gs_ne (by decide) (gs_ne (by decide) (gs_ne (by decide) (gs_ne (by decide) (gs_ne (by decide) (gs_ne (by decide) (gs_ne (by decide) (gs_ne (by decide) (gs_ne (by decide) (gs_ne (by decide) (gs_ne (by decide) (gs_ne (by decide) (gs_ne (by decide) (gs_ne (by decide) (gs_ne (by decide) (gs_ne (by decide) (gs_ne (by decide) h_fs_78))))))))))))))))))) dX10_drill_143 ?_
  refine lv_iload_n hx hb dX10_drill_146 rfl (lv_at hl 0 rfl) ?_
  refine lv_iconst (v := (-1)) hx hb dX10_drill_147 (by decide) ?_
  refine va_iast hx hb hK hP hD hS 0 1 rfl rfl (vin (by decide)) dX10_drill_148 (fun H locs hP hD hS => ?_)
  obtain ⟨f_14, ef_14⟩ : ∃ g : Nat → Int32, g = upd f_12 ((1 : Int32).toNatClampNeg) (-1) := ⟨_, rfl⟩
  rw [← ef_14] at hP hD
  have hP : va_P D classes [(bb, .inl (cyI, 3, .inl f_14)), (mn, .inl (cyI, 2, .inl gm_2)), (uo, .inl (cyI, 2, .inl guo_2)), (ed, .inl (cyI, 2, .inl ged_2)), (z1, .inl (cyZ, 2, .inl gz1_2)), (z2, .inl (cyZ, 2, .inl gz2_2)), (rg, .inl (cyZ, 2, .inl grg_2)), (z4, .inl (cyZ, 2, .inl gz4_2)), (z5, .inl (cyZ, 2, .inl gz5_2)), (wo, .inl (cyI, 8, .inl gwo_2)), (bym, .inl (cyI, 60, .inl gby_2)), (wi, .inl (cyI, 60, .inl gwi_2)), (tu, .inl (cyZ, 60, .inl gtu_2)), (cr, .inl (cyZ, 60, .inl gcr_2)), (tld, .inl (cyZ, 60, .inl gto_2)), (mv, .inl (cyI, 2, .inl gmv_2)), (rl, .inl (cyI, 2, .inl gr_2)), (o, .inr (10, (((((((((((((((((((fs.set 4 (.int 0)).set 5 (.int (-1))).set 3 (.int 0)).set 2 (.int 0)).set 7 (.int 0)).set 38 (.int 1)).set 39 (.int 600)).set 6 (.int 0)).set 7 (.int 1)).set 8 (.int 0)).set 6 (.int 0)).set 7 (.int 0)).set 37 (.int 1)).set 46 (.int 0)).set 51 (.int 0)).set 52 (.int 0)).set 75 (.int 0)).set 77 (.int 0)).set 60 (.int 0)))), (rw, .inl (cyI, 30, .inl grw_10)), (fi, .inl (cyI, 60, .inl gfi_2)), (nw, .inl (cyI, 30, .inl gnw_10))] H := hP
  have hD : va_D A [(bb, .inl (cyI, 3, .inl f_14)), (mn, .inl (cyI, 2, .inl gm_2)), (uo, .inl (cyI, 2, .inl guo_2)), (ed, .inl (cyI, 2, .inl ged_2)), (z1, .inl (cyZ, 2, .inl gz1_2)), (z2, .inl (cyZ, 2, .inl gz2_2)), (rg, .inl (cyZ, 2, .inl grg_2)), (z4, .inl (cyZ, 2, .inl gz4_2)), (z5, .inl (cyZ, 2, .inl gz5_2)), (wo, .inl (cyI, 8, .inl gwo_2)), (bym, .inl (cyI, 60, .inl gby_2)), (wi, .inl (cyI, 60, .inl gwi_2)), (tu, .inl (cyZ, 60, .inl gtu_2)), (cr, .inl (cyZ, 60, .inl gcr_2)), (tld, .inl (cyZ, 60, .inl gto_2)), (mv, .inl (cyI, 2, .inl gmv_2)), (rl, .inl (cyI, 2, .inl gr_2)), (o, .inr (10, (((((((((((((((((((fs.set 4 (.int 0)).set 5 (.int (-1))).set 3 (.int 0)).set 2 (.int 0)).set 7 (.int 0)).set 38 (.int 1)).set 39 (.int 600)).set 6 (.int 0)).set 7 (.int 1)).set 8 (.int 0)).set 6 (.int 0)).set 7 (.int 0)).set 37 (.int 1)).set 46 (.int 0)).set 51 (.int 0)).set 52 (.int 0)).set 75 (.int 0)).set 77 (.int 0)).set 60 (.int 0)))), (rw, .inl (cyI, 30, .inl grw_10)), (fi, .inl (cyI, 60, .inl gfi_2)), (nw, .inl (cyI, 30, .inl gnw_10))] := hD
  refine lv_iinc (v := 2) (lv' := [(1, .int 2), (0, .ref o)]) hx hb dX10_drill_149 hl (k := 0) rfl (by decide) (by decide) rfl (fun ls hl => ?_)
  refine lv_goto (tgt := 137) hx hb dX10_drill_152 (by decide) ?_
  refine lv_iload_n hx hb dX10_drill_137 rfl (lv_at hl 0 rfl) ?_
  refine lv_iconst (v := 3) hx hb dX10_drill_138 (by decide) ?_
  refine lv_icmp_ge (tgt := 155) hx hb dX10_drill_139 (by decide) (fun c_15 => absurd c_15 (by decide)) (fun c_15 => ?_)
  refine lv_aload_n hx hb dX10_drill_142 rfl (lv_at hl 1 rfl) ?_
  refine gf hC hK hP iX10 17 rfl rfl 78 (by decide) mw_fieldLink_RX10_171_MirrorDrillModel_boxBeats_I (gs_ne (by decide) (gs_ne (by decide) (gs_ne (by decide) (gs_ne (by decide) (gs_ne (by decide) (gs_ne (by decide) (gs_ne (by decide) (gs_ne (by decide) (gs_ne (by decide) (gs_ne (by decide) (gs_ne (by decide) (gs_ne (by decide) (gs_ne (by decide) (gs_ne (by decide) (gs_ne (by decide) (gs_ne (by decide) (gs_ne (by decide) (gs_ne (by decide) (gs_ne (by decide) h_fs_78))))))))))))))))))) dX10_drill_143 ?_
  refine lv_iload_n hx hb dX10_drill_146 rfl (lv_at hl 0 rfl) ?_
  refine lv_iconst (v := (-1)) hx hb dX10_drill_147 (by decide) ?_
  refine va_iast hx hb hK hP hD hS 0 1 rfl rfl (vin (by decide)) dX10_drill_148 (fun H locs hP hD hS => ?_)
  obtain ⟨f_16, ef_16⟩ : ∃ g : Nat → Int32, g = upd f_14 ((2 : Int32).toNatClampNeg) (-1) := ⟨_, rfl⟩
  rw [← ef_16] at hP hD
  have hP : va_P D classes [(bb, .inl (cyI, 3, .inl f_16)), (mn, .inl (cyI, 2, .inl gm_2)), (uo, .inl (cyI, 2, .inl guo_2)), (ed, .inl (cyI, 2, .inl ged_2)), (z1, .inl (cyZ, 2, .inl gz1_2)), (z2, .inl (cyZ, 2, .inl gz2_2)), (rg, .inl (cyZ, 2, .inl grg_2)), (z4, .inl (cyZ, 2, .inl gz4_2)), (z5, .inl (cyZ, 2, .inl gz5_2)), (wo, .inl (cyI, 8, .inl gwo_2)), (bym, .inl (cyI, 60, .inl gby_2)), (wi, .inl (cyI, 60, .inl gwi_2)), (tu, .inl (cyZ, 60, .inl gtu_2)), (cr, .inl (cyZ, 60, .inl gcr_2)), (tld, .inl (cyZ, 60, .inl gto_2)), (mv, .inl (cyI, 2, .inl gmv_2)), (rl, .inl (cyI, 2, .inl gr_2)), (o, .inr (10, (((((((((((((((((((fs.set 4 (.int 0)).set 5 (.int (-1))).set 3 (.int 0)).set 2 (.int 0)).set 7 (.int 0)).set 38 (.int 1)).set 39 (.int 600)).set 6 (.int 0)).set 7 (.int 1)).set 8 (.int 0)).set 6 (.int 0)).set 7 (.int 0)).set 37 (.int 1)).set 46 (.int 0)).set 51 (.int 0)).set 52 (.int 0)).set 75 (.int 0)).set 77 (.int 0)).set 60 (.int 0)))), (rw, .inl (cyI, 30, .inl grw_10)), (fi, .inl (cyI, 60, .inl gfi_2)), (nw, .inl (cyI, 30, .inl gnw_10))] H := hP
  have hD : va_D A [(bb, .inl (cyI, 3, .inl f_16)), (mn, .inl (cyI, 2, .inl gm_2)), (uo, .inl (cyI, 2, .inl guo_2)), (ed, .inl (cyI, 2, .inl ged_2)), (z1, .inl (cyZ, 2, .inl gz1_2)), (z2, .inl (cyZ, 2, .inl gz2_2)), (rg, .inl (cyZ, 2, .inl grg_2)), (z4, .inl (cyZ, 2, .inl gz4_2)), (z5, .inl (cyZ, 2, .inl gz5_2)), (wo, .inl (cyI, 8, .inl gwo_2)), (bym, .inl (cyI, 60, .inl gby_2)), (wi, .inl (cyI, 60, .inl gwi_2)), (tu, .inl (cyZ, 60, .inl gtu_2)), (cr, .inl (cyZ, 60, .inl gcr_2)), (tld, .inl (cyZ, 60, .inl gto_2)), (mv, .inl (cyI, 2, .inl gmv_2)), (rl, .inl (cyI, 2, .inl gr_2)), (o, .inr (10, (((((((((((((((((((fs.set 4 (.int 0)).set 5 (.int (-1))).set 3 (.int 0)).set 2 (.int 0)).set 7 (.int 0)).set 38 (.int 1)).set 39 (.int 600)).set 6 (.int 0)).set 7 (.int 1)).set 8 (.int 0)).set 6 (.int 0)).set 7 (.int 0)).set 37 (.int 1)).set 46 (.int 0)).set 51 (.int 0)).set 52 (.int 0)).set 75 (.int 0)).set 77 (.int 0)).set 60 (.int 0)))), (rw, .inl (cyI, 30, .inl grw_10)), (fi, .inl (cyI, 60, .inl gfi_2)), (nw, .inl (cyI, 30, .inl gnw_10))] := hD
  refine lv_iinc (v := 3) (lv' := [(1, .int 3), (0, .ref o)]) hx hb dX10_drill_149 hl (k := 0) rfl (by decide) (by decide) rfl (fun ls hl => ?_)
  refine lv_goto (tgt := 137) hx hb dX10_drill_152 (by decide) ?_
  refine lv_iload_n hx hb dX10_drill_137 rfl (lv_at hl 0 rfl) ?_
  refine lv_iconst (v := 3) hx hb dX10_drill_138 (by decide) ?_
  refine lv_icmp_ge (tgt := 155) hx hb dX10_drill_139 (by decide) (fun c_17 => ?_) (fun c_17 => absurd (by decide) c_17)
  refine lv_aload_n hx hb dX10_drill_155 rfl (lv_at hl 1 rfl) ?_
  refine gf hC hK hP iX10 17 rfl rfl 12 (by decide) mw_fieldLink_RX10_24_MirrorDrillModel_men_I (gs_ne (by decide) (gs_ne (by decide) (gs_ne (by decide) (gs_ne (by decide) (gs_ne (by decide) (gs_ne (by decide) (gs_ne (by decide) (gs_ne (by decide) (gs_ne (by decide) (gs_ne (by decide) (gs_ne (by decide) (gs_ne (by decide) (gs_ne (by decide) (gs_ne (by decide) (gs_ne (by decide) (gs_ne (by decide) (gs_ne (by decide) (gs_ne (by decide) (gs_ne (by decide) h_fs_12))))))))))))))))))) dX10_drill_156 ?_
  refine lv_aload_n hx hb dX10_drill_159 rfl (lv_at hl 1 rfl) ?_
  refine gf hC hK hP iX10 17 rfl rfl 37 (by decide) mw_fieldLink_RX10_282_MirrorDrillModel_bank_I (gs_ne (by decide) (gs_ne (by decide) (gs_ne (by decide) (gs_ne (by decide) (gs_ne (by decide) (gs_ne (by decide) (gs_eq (ln_lt (ln_set (ln_set (ln_set (ln_set (ln_set (ln_set (ln_set (ln_set (ln_set (ln_set (ln_set (ln_set hl_fs)))))))))))) (by decide))))))))) dX10_drill_160 ?_
  refine va_iald hx hb hK hP 1 1 rfl rfl (vin (by decide)) dX10_drill_163 ?_
  refine lv_cst (v := 0) (h_gm_1_2) ?_
  exact retI hC hP hD hS (by decide) (by decide) () [] rfl rfl rfl dX10_drill_164
