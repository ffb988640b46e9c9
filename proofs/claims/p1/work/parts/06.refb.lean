theorem dX10_layNow_0 : decode cX10_layNow 0 = .ok (.iconst 0, 1) := by decide +kernel
theorem dX10_layNow_1 : decode cX10_layNow 1 = .ok (.istore_n 1, 1) := by decide +kernel
theorem dX10_layNow_2 : decode cX10_layNow 2 = .ok (.iload_n 1, 1) := by decide +kernel
theorem dX10_layNow_3 : decode cX10_layNow 3 = .ok (.bipush 30, 2) := by decide +kernel
theorem dX10_layNow_5 : decode cX10_layNow 5 = .ok (.if_icmp .ge 21, 3) := by decide +kernel
theorem dX10_layNow_8 : decode cX10_layNow 8 = .ok (.aload_n 0, 1) := by decide +kernel
theorem dX10_layNow_9 : decode cX10_layNow 9 = .ok (.getfield 101, 3) := by decide +kernel
theorem dX10_layNow_12 : decode cX10_layNow 12 = .ok (.iload_n 1, 1) := by decide +kernel
theorem dX10_layNow_13 : decode cX10_layNow 13 = .ok (.aload_n 0, 1) := by decide +kernel
theorem dX10_layNow_14 : decode cX10_layNow 14 = .ok (.getfield 107, 3) := by decide +kernel
theorem dX10_layNow_17 : decode cX10_layNow 17 = .ok (.iload_n 1, 1) := by decide +kernel
theorem dX10_layNow_18 : decode cX10_layNow 18 = .ok (.iaload, 1) := by decide +kernel
theorem dX10_layNow_19 : decode cX10_layNow 19 = .ok (.iastore, 1) := by decide +kernel
theorem dX10_layNow_20 : decode cX10_layNow 20 = .ok (.iinc 1 1, 3) := by decide +kernel
theorem dX10_layNow_23 : decode cX10_layNow 23 = .ok (.goto (-21), 3) := by decide +kernel
theorem dX10_layNow_26 : decode cX10_layNow 26 = .ok (.return_, 1) := by decide +kernel
theorem dX10_keepNow_0 : decode cX10_keepNow 0 = .ok (.iconst 0, 1) := by decide +kernel
theorem dX10_keepNow_1 : decode cX10_keepNow 1 = .ok (.istore_n 1, 1) := by decide +kernel
theorem dX10_keepNow_2 : decode cX10_keepNow 2 = .ok (.iload_n 1, 1) := by decide +kernel
theorem dX10_keepNow_3 : decode cX10_keepNow 3 = .ok (.bipush 30, 2) := by decide +kernel
theorem dX10_keepNow_5 : decode cX10_keepNow 5 = .ok (.if_icmp .ge 21, 3) := by decide +kernel
theorem dX10_keepNow_8 : decode cX10_keepNow 8 = .ok (.aload_n 0, 1) := by decide +kernel
theorem dX10_keepNow_9 : decode cX10_keepNow 9 = .ok (.getfield 107, 3) := by decide +kernel
theorem dX10_keepNow_12 : decode cX10_keepNow 12 = .ok (.iload_n 1, 1) := by decide +kernel
theorem dX10_keepNow_13 : decode cX10_keepNow 13 = .ok (.aload_n 0, 1) := by decide +kernel
theorem dX10_keepNow_14 : decode cX10_keepNow 14 = .ok (.getfield 101, 3) := by decide +kernel
theorem dX10_keepNow_17 : decode cX10_keepNow 17 = .ok (.iload_n 1, 1) := by decide +kernel
theorem dX10_keepNow_18 : decode cX10_keepNow 18 = .ok (.iaload, 1) := by decide +kernel
theorem dX10_keepNow_19 : decode cX10_keepNow 19 = .ok (.iastore, 1) := by decide +kernel
theorem dX10_keepNow_20 : decode cX10_keepNow 20 = .ok (.iinc 1 1, 3) := by decide +kernel
theorem dX10_keepNow_23 : decode cX10_keepNow 23 = .ok (.goto (-21), 3) := by decide +kernel
theorem dX10_keepNow_26 : decode cX10_keepNow 26 = .ok (.return_, 1) := by decide +kernel
theorem dX10_layFirst_0 : decode cX10_layFirst 0 = .ok (.iconst 0, 1) := by decide +kernel
theorem dX10_layFirst_1 : decode cX10_layFirst 1 = .ok (.istore_n 1, 1) := by decide +kernel
theorem dX10_layFirst_2 : decode cX10_layFirst 2 = .ok (.iload_n 1, 1) := by decide +kernel
theorem dX10_layFirst_3 : decode cX10_layFirst 3 = .ok (.bipush 30, 2) := by decide +kernel
theorem dX10_layFirst_5 : decode cX10_layFirst 5 = .ok (.if_icmp .ge 29, 3) := by decide +kernel
theorem dX10_layFirst_8 : decode cX10_layFirst 8 = .ok (.aload_n 0, 1) := by decide +kernel
theorem dX10_layFirst_9 : decode cX10_layFirst 9 = .ok (.getfield 101, 3) := by decide +kernel
theorem dX10_layFirst_12 : decode cX10_layFirst 12 = .ok (.iload_n 1, 1) := by decide +kernel
theorem dX10_layFirst_13 : decode cX10_layFirst 13 = .ok (.aload_n 0, 1) := by decide +kernel
theorem dX10_layFirst_14 : decode cX10_layFirst 14 = .ok (.getfield 48, 3) := by decide +kernel
theorem dX10_layFirst_17 : decode cX10_layFirst 17 = .ok (.bipush 30, 2) := by decide +kernel
theorem dX10_layFirst_19 : decode cX10_layFirst 19 = .ok (.aload_n 0, 1) := by decide +kernel
theorem dX10_layFirst_20 : decode cX10_layFirst 20 = .ok (.getfield 282, 3) := by decide +kernel
theorem dX10_layFirst_23 : decode cX10_layFirst 23 = .ok (.imul, 1) := by decide +kernel
theorem dX10_layFirst_24 : decode cX10_layFirst 24 = .ok (.iload_n 1, 1) := by decide +kernel
theorem dX10_layFirst_25 : decode cX10_layFirst 25 = .ok (.iadd, 1) := by decide +kernel
theorem dX10_layFirst_26 : decode cX10_layFirst 26 = .ok (.iaload, 1) := by decide +kernel
theorem dX10_layFirst_27 : decode cX10_layFirst 27 = .ok (.iastore, 1) := by decide +kernel
theorem dX10_layFirst_28 : decode cX10_layFirst 28 = .ok (.iinc 1 1, 3) := by decide +kernel
theorem dX10_layFirst_31 : decode cX10_layFirst 31 = .ok (.goto (-29), 3) := by decide +kernel
theorem dX10_layFirst_34 : decode cX10_layFirst 34 = .ok (.return_, 1) := by decide +kernel
theorem dX10_begin_0 : decode cX10_begin 0 = .ok (.aload_n 0, 1) := by decide +kernel
theorem dX10_begin_1 : decode cX10_begin 1 = .ok (.invokevirtual 382, 3) := by decide +kernel
theorem dX10_begin_4 : decode cX10_begin 4 = .ok (.aload_n 0, 1) := by decide +kernel
theorem dX10_begin_5 : decode cX10_begin 5 = .ok (.invokevirtual 385, 3) := by decide +kernel
theorem dX10_begin_8 : decode cX10_begin 8 = .ok (.aload_n 0, 1) := by decide +kernel
theorem dX10_begin_9 : decode cX10_begin 9 = .ok (.iconst 0, 1) := by decide +kernel
theorem dX10_begin_10 : decode cX10_begin 10 = .ok (.putfield 388, 3) := by decide +kernel
theorem dX10_begin_13 : decode cX10_begin 13 = .ok (.aload_n 0, 1) := by decide +kernel
theorem dX10_begin_14 : decode cX10_begin 14 = .ok (.iconst 0, 1) := by decide +kernel
theorem dX10_begin_15 : decode cX10_begin 15 = .ok (.putfield 391, 3) := by decide +kernel
theorem dX10_begin_18 : decode cX10_begin 18 = .ok (.aload_n 0, 1) := by decide +kernel
theorem dX10_begin_19 : decode cX10_begin 19 = .ok (.iconst 0, 1) := by decide +kernel
theorem dX10_begin_20 : decode cX10_begin 20 = .ok (.putfield 394, 3) := by decide +kernel
theorem dX10_begin_23 : decode cX10_begin 23 = .ok (.return_, 1) := by decide +kernel
theorem dX10_keepAct_0 : decode cX10_keepAct 0 = .ok (.aload_n 0, 1) := by decide +kernel
theorem dX10_keepAct_1 : decode cX10_keepAct 1 = .ok (.getfield 391, 3) := by decide +kernel
theorem dX10_keepAct_4 : decode cX10_keepAct 4 = .ok (.bipush 40, 2) := by decide +kernel
theorem dX10_keepAct_6 : decode cX10_keepAct 6 = .ok (.if_icmp .ne 43, 3) := by decide +kernel
theorem dX10_keepAct_9 : decode cX10_keepAct 9 = .ok (.iconst 0, 1) := by decide +kernel
theorem dX10_keepAct_10 : decode cX10_keepAct 10 = .ok (.istore_n 1, 1) := by decide +kernel
theorem dX10_keepAct_11 : decode cX10_keepAct 11 = .ok (.iload_n 1, 1) := by decide +kernel
theorem dX10_keepAct_12 : decode cX10_keepAct 12 = .ok (.sipush 1240, 3) := by decide +kernel
theorem dX10_keepAct_15 : decode cX10_keepAct 15 = .ok (.if_icmp .ge 24, 3) := by decide +kernel
theorem dX10_keepAct_18 : decode cX10_keepAct 18 = .ok (.aload_n 0, 1) := by decide +kernel
theorem dX10_keepAct_19 : decode cX10_keepAct 19 = .ok (.getfield 113, 3) := by decide +kernel
theorem dX10_keepAct_22 : decode cX10_keepAct 22 = .ok (.iload_n 1, 1) := by decide +kernel
theorem dX10_keepAct_23 : decode cX10_keepAct 23 = .ok (.aload_n 0, 1) := by decide +kernel
theorem dX10_keepAct_24 : decode cX10_keepAct 24 = .ok (.getfield 113, 3) := by decide +kernel
theorem dX10_keepAct_27 : decode cX10_keepAct 27 = .ok (.iload_n 1, 1) := by decide +kernel
theorem dX10_keepAct_28 : decode cX10_keepAct 28 = .ok (.bipush 31, 2) := by decide +kernel
theorem dX10_keepAct_30 : decode cX10_keepAct 30 = .ok (.iadd, 1) := by decide +kernel
theorem dX10_keepAct_31 : decode cX10_keepAct 31 = .ok (.iaload, 1) := by decide +kernel
theorem dX10_keepAct_32 : decode cX10_keepAct 32 = .ok (.iastore, 1) := by decide +kernel
theorem dX10_keepAct_33 : decode cX10_keepAct 33 = .ok (.iinc 1 1, 3) := by decide +kernel
theorem dX10_keepAct_36 : decode cX10_keepAct 36 = .ok (.goto (-25), 3) := by decide +kernel
theorem dX10_keepAct_39 : decode cX10_keepAct 39 = .ok (.aload_n 0, 1) := by decide +kernel
theorem dX10_keepAct_40 : decode cX10_keepAct 40 = .ok (.dup, 1) := by decide +kernel
theorem dX10_keepAct_41 : decode cX10_keepAct 41 = .ok (.getfield 391, 3) := by decide +kernel
theorem dX10_keepAct_44 : decode cX10_keepAct 44 = .ok (.iconst 1, 1) := by decide +kernel
theorem dX10_keepAct_45 : decode cX10_keepAct 45 = .ok (.isub, 1) := by decide +kernel
theorem dX10_keepAct_46 : decode cX10_keepAct 46 = .ok (.putfield 391, 3) := by decide +kernel
theorem dX10_keepAct_49 : decode cX10_keepAct 49 = .ok (.iconst 0, 1) := by decide +kernel
theorem dX10_keepAct_50 : decode cX10_keepAct 50 = .ok (.istore_n 1, 1) := by decide +kernel
theorem dX10_keepAct_51 : decode cX10_keepAct 51 = .ok (.iload_n 1, 1) := by decide +kernel
theorem dX10_keepAct_52 : decode cX10_keepAct 52 = .ok (.bipush 30, 2) := by decide +kernel
theorem dX10_keepAct_54 : decode cX10_keepAct 54 = .ok (.if_icmp .ge 29, 3) := by decide +kernel
theorem dX10_keepAct_57 : decode cX10_keepAct 57 = .ok (.aload_n 0, 1) := by decide +kernel
theorem dX10_keepAct_58 : decode cX10_keepAct 58 = .ok (.getfield 113, 3) := by decide +kernel
theorem dX10_keepAct_61 : decode cX10_keepAct 61 = .ok (.bipush 31, 2) := by decide +kernel
theorem dX10_keepAct_63 : decode cX10_keepAct 63 = .ok (.aload_n 0, 1) := by decide +kernel
theorem dX10_keepAct_64 : decode cX10_keepAct 64 = .ok (.getfield 391, 3) := by decide +kernel
theorem dX10_keepAct_67 : decode cX10_keepAct 67 = .ok (.imul, 1) := by decide +kernel
theorem dX10_keepAct_68 : decode cX10_keepAct 68 = .ok (.iload_n 1, 1) := by decide +kernel
theorem dX10_keepAct_69 : decode cX10_keepAct 69 = .ok (.iadd, 1) := by decide +kernel
theorem dX10_keepAct_70 : decode cX10_keepAct 70 = .ok (.aload_n 0, 1) := by decide +kernel
theorem dX10_keepAct_71 : decode cX10_keepAct 71 = .ok (.getfield 107, 3) := by decide +kernel
theorem dX10_keepAct_74 : decode cX10_keepAct 74 = .ok (.iload_n 1, 1) := by decide +kernel
theorem dX10_keepAct_75 : decode cX10_keepAct 75 = .ok (.iaload, 1) := by decide +kernel
theorem dX10_keepAct_76 : decode cX10_keepAct 76 = .ok (.iastore, 1) := by decide +kernel
theorem dX10_keepAct_77 : decode cX10_keepAct 77 = .ok (.iinc 1 1, 3) := by decide +kernel
theorem dX10_keepAct_80 : decode cX10_keepAct 80 = .ok (.goto (-29), 3) := by decide +kernel
theorem dX10_keepAct_83 : decode cX10_keepAct 83 = .ok (.aload_n 0, 1) := by decide +kernel
theorem dX10_keepAct_84 : decode cX10_keepAct 84 = .ok (.getfield 113, 3) := by decide +kernel
theorem dX10_keepAct_87 : decode cX10_keepAct 87 = .ok (.bipush 31, 2) := by decide +kernel
theorem dX10_keepAct_89 : decode cX10_keepAct 89 = .ok (.aload_n 0, 1) := by decide +kernel
theorem dX10_keepAct_90 : decode cX10_keepAct 90 = .ok (.getfield 391, 3) := by decide +kernel
theorem dX10_keepAct_93 : decode cX10_keepAct 93 = .ok (.imul, 1) := by decide +kernel
theorem dX10_keepAct_94 : decode cX10_keepAct 94 = .ok (.bipush 30, 2) := by decide +kernel
theorem dX10_keepAct_96 : decode cX10_keepAct 96 = .ok (.iadd, 1) := by decide +kernel
theorem dX10_keepAct_97 : decode cX10_keepAct 97 = .ok (.aload_n 0, 1) := by decide +kernel
theorem dX10_keepAct_98 : decode cX10_keepAct 98 = .ok (.getfield 388, 3) := by decide +kernel
theorem dX10_keepAct_101 : decode cX10_keepAct 101 = .ok (.iastore, 1) := by decide +kernel
theorem dX10_keepAct_102 : decode cX10_keepAct 102 = .ok (.aload_n 0, 1) := by decide +kernel
theorem dX10_keepAct_103 : decode cX10_keepAct 103 = .ok (.dup, 1) := by decide +kernel
theorem dX10_keepAct_104 : decode cX10_keepAct 104 = .ok (.getfield 391, 3) := by decide +kernel
theorem dX10_keepAct_107 : decode cX10_keepAct 107 = .ok (.iconst 1, 1) := by decide +kernel
theorem dX10_keepAct_108 : decode cX10_keepAct 108 = .ok (.iadd, 1) := by decide +kernel
theorem dX10_keepAct_109 : decode cX10_keepAct 109 = .ok (.putfield 391, 3) := by decide +kernel
theorem dX10_keepAct_112 : decode cX10_keepAct 112 = .ok (.aload_n 0, 1) := by decide +kernel
theorem dX10_keepAct_113 : decode cX10_keepAct 113 = .ok (.iconst 0, 1) := by decide +kernel
theorem dX10_keepAct_114 : decode cX10_keepAct 114 = .ok (.putfield 394, 3) := by decide +kernel
theorem dX10_keepAct_117 : decode cX10_keepAct 117 = .ok (.return_, 1) := by decide +kernel
theorem dX10_beat_0 : decode cX10_beat 0 = .ok (.iconst 0, 1) := by decide +kernel
theorem dX10_beat_1 : decode cX10_beat 1 = .ok (.istore_n 1, 1) := by decide +kernel
theorem dX10_beat_2 : decode cX10_beat 2 = .ok (.iload_n 1, 1) := by decide +kernel
theorem dX10_beat_3 : decode cX10_beat 3 = .ok (.aload_n 0, 1) := by decide +kernel
theorem dX10_beat_4 : decode cX10_beat 4 = .ok (.invokevirtual 375, 3) := by decide +kernel
theorem dX10_beat_7 : decode cX10_beat 7 = .ok (.if_icmp .ge 36, 3) := by decide +kernel
theorem dX10_beat_10 : decode cX10_beat 10 = .ok (.aload_n 0, 1) := by decide +kernel
theorem dX10_beat_11 : decode cX10_beat 11 = .ok (.getfield 104, 3) := by decide +kernel
theorem dX10_beat_14 : decode cX10_beat 14 = .ok (.iload_n 1, 1) := by decide +kernel
theorem dX10_beat_15 : decode cX10_beat 15 = .ok (.aload_n 0, 1) := by decide +kernel
theorem dX10_beat_16 : decode cX10_beat 16 = .ok (.iload_n 1, 1) := by decide +kernel
theorem dX10_beat_17 : decode cX10_beat 17 = .ok (.aload_n 0, 1) := by decide +kernel
theorem dX10_beat_18 : decode cX10_beat 18 = .ok (.iload_n 1, 1) := by decide +kernel
theorem dX10_beat_19 : decode cX10_beat 19 = .ok (.invokevirtual 412, 3) := by decide +kernel
theorem dX10_beat_22 : decode cX10_beat 22 = .ok (.aload_n 0, 1) := by decide +kernel
theorem dX10_beat_23 : decode cX10_beat 23 = .ok (.getfield 101, 3) := by decide +kernel
theorem dX10_beat_26 : decode cX10_beat 26 = .ok (.iload_n 1, 1) := by decide +kernel
theorem dX10_beat_27 : decode cX10_beat 27 = .ok (.iaload, 1) := by decide +kernel
theorem dX10_beat_28 : decode cX10_beat 28 = .ok (.aload_n 0, 1) := by decide +kernel
theorem dX10_beat_29 : decode cX10_beat 29 = .ok (.iload_n 1, 1) := by decide +kernel
theorem dX10_beat_30 : decode cX10_beat 30 = .ok (.invokevirtual 415, 3) := by decide +kernel
theorem dX10_beat_33 : decode cX10_beat 33 = .ok (.invokevirtual 418, 3) := by decide +kernel
theorem dX10_beat_36 : decode cX10_beat 36 = .ok (.iastore, 1) := by decide +kernel
theorem dX10_beat_37 : decode cX10_beat 37 = .ok (.iinc 1 1, 3) := by decide +kernel
theorem dX10_beat_40 : decode cX10_beat 40 = .ok (.goto (-38), 3) := by decide +kernel
theorem dX10_beat_43 : decode cX10_beat 43 = .ok (.iconst 0, 1) := by decide +kernel
theorem dX10_beat_44 : decode cX10_beat 44 = .ok (.istore_n 1, 1) := by decide +kernel
theorem dX10_beat_45 : decode cX10_beat 45 = .ok (.iload_n 1, 1) := by decide +kernel
theorem dX10_beat_46 : decode cX10_beat 46 = .ok (.aload_n 0, 1) := by decide +kernel
theorem dX10_beat_47 : decode cX10_beat 47 = .ok (.invokevirtual 375, 3) := by decide +kernel
theorem dX10_beat_50 : decode cX10_beat 50 = .ok (.if_icmp .ge 21, 3) := by decide +kernel
theorem dX10_beat_53 : decode cX10_beat 53 = .ok (.aload_n 0, 1) := by decide +kernel
theorem dX10_beat_54 : decode cX10_beat 54 = .ok (.getfield 101, 3) := by decide +kernel
theorem dX10_beat_57 : decode cX10_beat 57 = .ok (.iload_n 1, 1) := by decide +kernel
theorem dX10_beat_58 : decode cX10_beat 58 = .ok (.aload_n 0, 1) := by decide +kernel
theorem dX10_beat_59 : decode cX10_beat 59 = .ok (.getfield 104, 3) := by decide +kernel
theorem dX10_beat_62 : decode cX10_beat 62 = .ok (.iload_n 1, 1) := by decide +kernel
theorem dX10_beat_63 : decode cX10_beat 63 = .ok (.iaload, 1) := by decide +kernel
theorem dX10_beat_64 : decode cX10_beat 64 = .ok (.iastore, 1) := by decide +kernel
theorem dX10_beat_65 : decode cX10_beat 65 = .ok (.iinc 1 1, 3) := by decide +kernel
theorem dX10_beat_68 : decode cX10_beat 68 = .ok (.goto (-23), 3) := by decide +kernel
theorem dX10_beat_71 : decode cX10_beat 71 = .ok (.return_, 1) := by decide +kernel
theorem dX10_beatTimes_0 : decode cX10_beatTimes 0 = .ok (.iconst 0, 1) := by decide +kernel
theorem dX10_beatTimes_1 : decode cX10_beatTimes 1 = .ok (.istore_n 2, 1) := by decide +kernel
theorem dX10_beatTimes_2 : decode cX10_beatTimes 2 = .ok (.iload_n 2, 1) := by decide +kernel
theorem dX10_beatTimes_3 : decode cX10_beatTimes 3 = .ok (.iload_n 1, 1) := by decide +kernel
theorem dX10_beatTimes_4 : decode cX10_beatTimes 4 = .ok (.if_icmp .ge 13, 3) := by decide +kernel
theorem dX10_beatTimes_7 : decode cX10_beatTimes 7 = .ok (.aload_n 0, 1) := by decide +kernel
theorem dX10_beatTimes_8 : decode cX10_beatTimes 8 = .ok (.invokevirtual 421, 3) := by decide +kernel
theorem dX10_beatTimes_11 : decode cX10_beatTimes 11 = .ok (.iinc 2 1, 3) := by decide +kernel
theorem dX10_beatTimes_14 : decode cX10_beatTimes 14 = .ok (.goto (-12), 3) := by decide +kernel
theorem dX10_beatTimes_17 : decode cX10_beatTimes 17 = .ok (.return_, 1) := by decide +kernel
theorem dX10_run_0 : decode cX10_run 0 = .ok (.iload_n 1, 1) := by decide +kernel
theorem dX10_run_1 : decode cX10_run 1 = .ok (.iconst 0, 1) := by decide +kernel
theorem dX10_run_2 : decode cX10_run 2 = .ok (.sipush 500, 3) := by decide +kernel
theorem dX10_run_5 : decode cX10_run 5 = .ok (.invokestatic 378, 3) := by decide +kernel
theorem dX10_run_8 : decode cX10_run 8 = .ok (.ifCond .eq 15, 3) := by decide +kernel
theorem dX10_run_11 : decode cX10_run 11 = .ok (.aload_n 0, 1) := by decide +kernel
theorem dX10_run_12 : decode cX10_run 12 = .ok (.getfield 388, 3) := by decide +kernel
theorem dX10_run_15 : decode cX10_run 15 = .ok (.iload_n 1, 1) := by decide +kernel
theorem dX10_run_16 : decode cX10_run 16 = .ok (.iadd, 1) := by decide +kernel
theorem dX10_run_17 : decode cX10_run 17 = .ok (.ldc_w 433, 3) := by decide +kernel
theorem dX10_run_20 : decode cX10_run 20 = .ok (.if_icmp .le 5, 3) := by decide +kernel
theorem dX10_run_23 : decode cX10_run 23 = .ok (.iconst (-1), 1) := by decide +kernel
theorem dX10_run_24 : decode cX10_run 24 = .ok (.ireturn, 1) := by decide +kernel
theorem dX10_run_25 : decode cX10_run 25 = .ok (.aload_n 0, 1) := by decide +kernel
theorem dX10_run_26 : decode cX10_run 26 = .ok (.invokevirtual 434, 3) := by decide +kernel
theorem dX10_run_29 : decode cX10_run 29 = .ok (.aload_n 0, 1) := by decide +kernel
theorem dX10_run_30 : decode cX10_run 30 = .ok (.invokevirtual 437, 3) := by decide +kernel
theorem dX10_run_33 : decode cX10_run 33 = .ok (.aload_n 0, 1) := by decide +kernel
theorem dX10_run_34 : decode cX10_run 34 = .ok (.iload_n 1, 1) := by decide +kernel
theorem dX10_run_35 : decode cX10_run 35 = .ok (.invokevirtual 440, 3) := by decide +kernel
theorem dX10_run_38 : decode cX10_run 38 = .ok (.aload_n 0, 1) := by decide +kernel
theorem dX10_run_39 : decode cX10_run 39 = .ok (.invokevirtual 385, 3) := by decide +kernel
theorem dX10_run_42 : decode cX10_run 42 = .ok (.aload_n 0, 1) := by decide +kernel
theorem dX10_run_43 : decode cX10_run 43 = .ok (.dup, 1) := by decide +kernel
theorem dX10_run_44 : decode cX10_run 44 = .ok (.getfield 388, 3) := by decide +kernel
theorem dX10_run_47 : decode cX10_run 47 = .ok (.iload_n 1, 1) := by decide +kernel
theorem dX10_run_48 : decode cX10_run 48 = .ok (.iadd, 1) := by decide +kernel
theorem dX10_run_49 : decode cX10_run 49 = .ok (.putfield 388, 3) := by decide +kernel
theorem dX10_run_52 : decode cX10_run 52 = .ok (.aload_n 0, 1) := by decide +kernel
theorem dX10_run_53 : decode cX10_run 53 = .ok (.getfield 388, 3) := by decide +kernel
theorem dX10_run_56 : decode cX10_run 56 = .ok (.ireturn, 1) := by decide +kernel
theorem dX10_rowNumber_0 : decode cX10_rowNumber 0 = .ok (.lconst 0, 1) := by decide +kernel
theorem dX10_rowNumber_1 : decode cX10_rowNumber 1 = .ok (.lstore_n 1, 1) := by decide +kernel
theorem dX10_rowNumber_2 : decode cX10_rowNumber 2 = .ok (.iconst 0, 1) := by decide +kernel
theorem dX10_rowNumber_3 : decode cX10_rowNumber 3 = .ok (.istore_n 3, 1) := by decide +kernel
theorem dX10_rowNumber_4 : decode cX10_rowNumber 4 = .ok (.iload_n 3, 1) := by decide +kernel
theorem dX10_rowNumber_5 : decode cX10_rowNumber 5 = .ok (.aload_n 0, 1) := by decide +kernel
theorem dX10_rowNumber_6 : decode cX10_rowNumber 6 = .ok (.invokevirtual 375, 3) := by decide +kernel
theorem dX10_rowNumber_9 : decode cX10_rowNumber 9 = .ok (.if_icmp .ge 21, 3) := by decide +kernel
theorem dX10_rowNumber_12 : decode cX10_rowNumber 12 = .ok (.lload_n 1, 1) := by decide +kernel
theorem dX10_rowNumber_13 : decode cX10_rowNumber 13 = .ok (.iconst 2, 1) := by decide +kernel
theorem dX10_rowNumber_14 : decode cX10_rowNumber 14 = .ok (.lshl, 1) := by decide +kernel
theorem dX10_rowNumber_15 : decode cX10_rowNumber 15 = .ok (.aload_n 0, 1) := by decide +kernel
theorem dX10_rowNumber_16 : decode cX10_rowNumber 16 = .ok (.getfield 101, 3) := by decide +kernel
theorem dX10_rowNumber_19 : decode cX10_rowNumber 19 = .ok (.iload_n 3, 1) := by decide +kernel
theorem dX10_rowNumber_20 : decode cX10_rowNumber 20 = .ok (.iaload, 1) := by decide +kernel
theorem dX10_rowNumber_21 : decode cX10_rowNumber 21 = .ok (.i2l, 1) := by decide +kernel
theorem dX10_rowNumber_22 : decode cX10_rowNumber 22 = .ok (.lor, 1) := by decide +kernel
theorem dX10_rowNumber_23 : decode cX10_rowNumber 23 = .ok (.lstore_n 1, 1) := by decide +kernel
theorem dX10_rowNumber_24 : decode cX10_rowNumber 24 = .ok (.iinc 3 1, 3) := by decide +kernel
theorem dX10_rowNumber_27 : decode cX10_rowNumber 27 = .ok (.goto (-23), 3) := by decide +kernel
theorem dX10_rowNumber_30 : decode cX10_rowNumber 30 = .ok (.lload_n 1, 1) := by decide +kernel
theorem dX10_rowNumber_31 : decode cX10_rowNumber 31 = .ok (.lreturn, 1) := by decide +kernel
theorem dX10_layRound_0 : decode cX10_layRound 0 = .ok (.aload_n 0, 1) := by decide +kernel
theorem dX10_layRound_1 : decode cX10_layRound 1 = .ok (.invokevirtual 437, 3) := by decide +kernel
theorem dX10_layRound_4 : decode cX10_layRound 4 = .ok (.iconst 0, 1) := by decide +kernel
theorem dX10_layRound_5 : decode cX10_layRound 5 = .ok (.istore_n 1, 1) := by decide +kernel
theorem dX10_layRound_6 : decode cX10_layRound 6 = .ok (.iload_n 1, 1) := by decide +kernel
theorem dX10_layRound_7 : decode cX10_layRound 7 = .ok (.sipush 3000, 3) := by decide +kernel
theorem dX10_layRound_10 : decode cX10_layRound 10 = .ok (.if_icmp .gt 69, 3) := by decide +kernel
theorem dX10_layRound_13 : decode cX10_layRound 13 = .ok (.aload_n 0, 1) := by decide +kernel
theorem dX10_layRound_14 : decode cX10_layRound 14 = .ok (.getfield 116, 3) := by decide +kernel
theorem dX10_layRound_17 : decode cX10_layRound 17 = .ok (.iload_n 1, 1) := by decide +kernel
theorem dX10_layRound_18 : decode cX10_layRound 18 = .ok (.aload_n 0, 1) := by decide +kernel
theorem dX10_layRound_19 : decode cX10_layRound 19 = .ok (.invokevirtual 446, 3) := by decide +kernel
theorem dX10_layRound_22 : decode cX10_layRound 22 = .ok (.lastore, 1) := by decide +kernel
theorem dX10_layRound_23 : decode cX10_layRound 23 = .ok (.iconst 0, 1) := by decide +kernel
theorem dX10_layRound_24 : decode cX10_layRound 24 = .ok (.istore_n 2, 1) := by decide +kernel
theorem dX10_layRound_25 : decode cX10_layRound 25 = .ok (.iload_n 2, 1) := by decide +kernel
theorem dX10_layRound_26 : decode cX10_layRound 26 = .ok (.iload_n 1, 1) := by decide +kernel
theorem dX10_layRound_27 : decode cX10_layRound 27 = .ok (.if_icmp .ge 42, 3) := by decide +kernel
theorem dX10_layRound_30 : decode cX10_layRound 30 = .ok (.aload_n 0, 1) := by decide +kernel
theorem dX10_layRound_31 : decode cX10_layRound 31 = .ok (.getfield 116, 3) := by decide +kernel
theorem dX10_layRound_34 : decode cX10_layRound 34 = .ok (.iload_n 2, 1) := by decide +kernel
theorem dX10_layRound_35 : decode cX10_layRound 35 = .ok (.laload, 1) := by decide +kernel
theorem dX10_layRound_36 : decode cX10_layRound 36 = .ok (.aload_n 0, 1) := by decide +kernel
theorem dX10_layRound_37 : decode cX10_layRound 37 = .ok (.getfield 116, 3) := by decide +kernel
theorem dX10_layRound_40 : decode cX10_layRound 40 = .ok (.iload_n 1, 1) := by decide +kernel
theorem dX10_layRound_41 : decode cX10_layRound 41 = .ok (.laload, 1) := by decide +kernel
theorem dX10_layRound_42 : decode cX10_layRound 42 = .ok (.lcmp, 1) := by decide +kernel
theorem dX10_layRound_43 : decode cX10_layRound 43 = .ok (.ifCond .eq 6, 3) := by decide +kernel
theorem dX10_layRound_46 : decode cX10_layRound 46 = .ok (.goto 17, 3) := by decide +kernel
theorem dX10_layRound_49 : decode cX10_layRound 49 = .ok (.aload_n 0, 1) := by decide +kernel
theorem dX10_layRound_50 : decode cX10_layRound 50 = .ok (.iload_n 2, 1) := by decide +kernel
theorem dX10_layRound_51 : decode cX10_layRound 51 = .ok (.putfield 450, 3) := by decide +kernel
theorem dX10_layRound_54 : decode cX10_layRound 54 = .ok (.aload_n 0, 1) := by decide +kernel
theorem dX10_layRound_55 : decode cX10_layRound 55 = .ok (.iload_n 1, 1) := by decide +kernel
theorem dX10_layRound_56 : decode cX10_layRound 56 = .ok (.iload_n 2, 1) := by decide +kernel
theorem dX10_layRound_57 : decode cX10_layRound 57 = .ok (.isub, 1) := by decide +kernel
theorem dX10_layRound_58 : decode cX10_layRound 58 = .ok (.putfield 453, 3) := by decide +kernel
theorem dX10_layRound_61 : decode cX10_layRound 61 = .ok (.iconst 1, 1) := by decide +kernel
theorem dX10_layRound_62 : decode cX10_layRound 62 = .ok (.ireturn, 1) := by decide +kernel
theorem dX10_layRound_63 : decode cX10_layRound 63 = .ok (.iinc 2 1, 3) := by decide +kernel
theorem dX10_layRound_66 : decode cX10_layRound 66 = .ok (.goto (-41), 3) := by decide +kernel
theorem dX10_layRound_69 : decode cX10_layRound 69 = .ok (.aload_n 0, 1) := by decide +kernel
theorem dX10_layRound_70 : decode cX10_layRound 70 = .ok (.invokevirtual 421, 3) := by decide +kernel
theorem dX10_layRound_73 : decode cX10_layRound 73 = .ok (.iinc 1 1, 3) := by decide +kernel
theorem dX10_layRound_76 : decode cX10_layRound 76 = .ok (.goto (-70), 3) := by decide +kernel
theorem dX10_layRound_79 : decode cX10_layRound 79 = .ok (.iconst 0, 1) := by decide +kernel
theorem dX10_layRound_80 : decode cX10_layRound 80 = .ok (.ireturn, 1) := by decide +kernel
theorem dX10_round_0 : decode cX10_round 0 = .ok (.iload_n 1, 1) := by decide +kernel
theorem dX10_round_1 : decode cX10_round 1 = .ok (.iconst 0, 1) := by decide +kernel
theorem dX10_round_2 : decode cX10_round 2 = .ok (.iconst 1, 1) := by decide +kernel
theorem dX10_round_3 : decode cX10_round 3 = .ok (.invokestatic 378, 3) := by decide +kernel
theorem dX10_round_6 : decode cX10_round 6 = .ok (.ifCond .ne 5, 3) := by decide +kernel
theorem dX10_round_9 : decode cX10_round 9 = .ok (.iconst (-1), 1) := by decide +kernel
theorem dX10_round_10 : decode cX10_round 10 = .ok (.ireturn, 1) := by decide +kernel
theorem dX10_round_11 : decode cX10_round 11 = .ok (.aload_n 0, 1) := by decide +kernel
theorem dX10_round_12 : decode cX10_round 12 = .ok (.invokevirtual 456, 3) := by decide +kernel
theorem dX10_round_15 : decode cX10_round 15 = .ok (.ifCond .ne 6, 3) := by decide +kernel
theorem dX10_round_18 : decode cX10_round 18 = .ok (.bipush (-2), 2) := by decide +kernel
theorem dX10_round_20 : decode cX10_round 20 = .ok (.ireturn, 1) := by decide +kernel
theorem dX10_round_21 : decode cX10_round 21 = .ok (.iload_n 1, 1) := by decide +kernel
theorem dX10_round_22 : decode cX10_round 22 = .ok (.ifCond .ne 10, 3) := by decide +kernel
theorem dX10_round_25 : decode cX10_round 25 = .ok (.aload_n 0, 1) := by decide +kernel
theorem dX10_round_26 : decode cX10_round 26 = .ok (.getfield 450, 3) := by decide +kernel
theorem dX10_round_29 : decode cX10_round 29 = .ok (.goto 7, 3) := by decide +kernel
theorem dX10_round_32 : decode cX10_round 32 = .ok (.aload_n 0, 1) := by decide +kernel
theorem dX10_round_33 : decode cX10_round 33 = .ok (.getfield 453, 3) := by decide +kernel
theorem dX10_round_36 : decode cX10_round 36 = .ok (.ireturn, 1) := by decide +kernel
theorem dX10_countAhead_0 : decode cX10_countAhead 0 = .ok (.aload_n 0, 1) := by decide +kernel
theorem dX10_countAhead_1 : decode cX10_countAhead 1 = .ok (.invokevirtual 375, 3) := by decide +kernel
theorem dX10_countAhead_4 : decode cX10_countAhead 4 = .ok (.istore_n 1, 1) := by decide +kernel
theorem dX10_countAhead_5 : decode cX10_countAhead 5 = .ok (.iload_n 1, 1) := by decide +kernel
theorem dX10_countAhead_6 : decode cX10_countAhead 6 = .ok (.ifCond .ne 5, 3) := by decide +kernel
theorem dX10_countAhead_9 : decode cX10_countAhead 9 = .ok (.lconst 1, 1) := by decide +kernel
theorem dX10_countAhead_10 : decode cX10_countAhead 10 = .ok (.lreturn, 1) := by decide +kernel
theorem dX10_countAhead_11 : decode cX10_countAhead 11 = .ok (.lconst 0, 1) := by decide +kernel
theorem dX10_countAhead_12 : decode cX10_countAhead 12 = .ok (.lstore_n 2, 1) := by decide +kernel
theorem dX10_countAhead_13 : decode cX10_countAhead 13 = .ok (.iconst 0, 1) := by decide +kernel
theorem dX10_countAhead_14 : decode cX10_countAhead 14 = .ok (.istore 4, 2) := by decide +kernel
theorem dX10_countAhead_16 : decode cX10_countAhead 16 = .ok (.iload 4, 2) := by decide +kernel
theorem dX10_countAhead_18 : decode cX10_countAhead 18 = .ok (.aload_n 0, 1) := by decide +kernel
theorem dX10_countAhead_19 : decode cX10_countAhead 19 = .ok (.getfield 20, 3) := by decide +kernel
theorem dX10_countAhead_22 : decode cX10_countAhead 22 = .ok (.aload_n 0, 1) := by decide +kernel
theorem dX10_countAhead_23 : decode cX10_countAhead 23 = .ok (.getfield 282, 3) := by decide +kernel
theorem dX10_countAhead_26 : decode cX10_countAhead 26 = .ok (.iaload, 1) := by decide +kernel
theorem dX10_countAhead_27 : decode cX10_countAhead 27 = .ok (.if_icmp .ge 153, 3) := by decide +kernel
theorem dX10_countAhead_30 : decode cX10_countAhead 30 = .ok (.aload_n 0, 1) := by decide +kernel
theorem dX10_countAhead_31 : decode cX10_countAhead 31 = .ok (.iconst 0, 1) := by decide +kernel
theorem dX10_countAhead_32 : decode cX10_countAhead 32 = .ok (.iload 4, 2) := by decide +kernel
theorem dX10_countAhead_34 : decode cX10_countAhead 34 = .ok (.invokevirtual 461, 3) := by decide +kernel
theorem dX10_countAhead_37 : decode cX10_countAhead 37 = .ok (.ifCond .ne 6, 3) := by decide +kernel
theorem dX10_countAhead_40 : decode cX10_countAhead 40 = .ok (.goto 134, 3) := by decide +kernel
theorem dX10_countAhead_43 : decode cX10_countAhead 43 = .ok (.iload_n 1, 1) := by decide +kernel
theorem dX10_countAhead_44 : decode cX10_countAhead 44 = .ok (.iconst 1, 1) := by decide +kernel
theorem dX10_countAhead_45 : decode cX10_countAhead 45 = .ok (.if_icmp .ne 82, 3) := by decide +kernel
theorem dX10_countAhead_48 : decode cX10_countAhead 48 = .ok (.lload_n 2, 1) := by decide +kernel
theorem dX10_countAhead_49 : decode cX10_countAhead 49 = .ok (.aload_n 0, 1) := by decide +kernel
theorem dX10_countAhead_50 : decode cX10_countAhead 50 = .ok (.iconst 0, 1) := by decide +kernel
theorem dX10_countAhead_51 : decode cX10_countAhead 51 = .ok (.aload_n 0, 1) := by decide +kernel
theorem dX10_countAhead_52 : decode cX10_countAhead 52 = .ok (.getfield 64, 3) := by decide +kernel
theorem dX10_countAhead_55 : decode cX10_countAhead 55 = .ok (.aload_n 0, 1) := by decide +kernel
theorem dX10_countAhead_56 : decode cX10_countAhead 56 = .ok (.getfield 282, 3) := by decide +kernel
theorem dX10_countAhead_59 : decode cX10_countAhead 59 = .ok (.baload, 1) := by decide +kernel
theorem dX10_countAhead_60 : decode cX10_countAhead 60 = .ok (.ifCond .eq 8, 3) := by decide +kernel
theorem dX10_countAhead_63 : decode cX10_countAhead 63 = .ok (.iload 4, 2) := by decide +kernel
theorem dX10_countAhead_65 : decode cX10_countAhead 65 = .ok (.goto 12, 3) := by decide +kernel
theorem dX10_countAhead_68 : decode cX10_countAhead 68 = .ok (.aload_n 0, 1) := by decide +kernel
theorem dX10_countAhead_69 : decode cX10_countAhead 69 = .ok (.getfield 33, 3) := by decide +kernel
theorem dX10_countAhead_72 : decode cX10_countAhead 72 = .ok (.aload_n 0, 1) := by decide +kernel
theorem dX10_countAhead_73 : decode cX10_countAhead 73 = .ok (.getfield 282, 3) := by decide +kernel
theorem dX10_countAhead_76 : decode cX10_countAhead 76 = .ok (.iaload, 1) := by decide +kernel
theorem dX10_countAhead_77 : decode cX10_countAhead 77 = .ok (.iload 4, 2) := by decide +kernel
theorem dX10_countAhead_79 : decode cX10_countAhead 79 = .ok (.aload_n 0, 1) := by decide +kernel
theorem dX10_countAhead_80 : decode cX10_countAhead 80 = .ok (.getfield 64, 3) := by decide +kernel
theorem dX10_countAhead_83 : decode cX10_countAhead 83 = .ok (.aload_n 0, 1) := by decide +kernel
theorem dX10_countAhead_84 : decode cX10_countAhead 84 = .ok (.getfield 282, 3) := by decide +kernel
theorem dX10_countAhead_87 : decode cX10_countAhead 87 = .ok (.baload, 1) := by decide +kernel
theorem dX10_countAhead_88 : decode cX10_countAhead 88 = .ok (.ifCond .eq 8, 3) := by decide +kernel
theorem dX10_countAhead_91 : decode cX10_countAhead 91 = .ok (.iload 4, 2) := by decide +kernel
theorem dX10_countAhead_93 : decode cX10_countAhead 93 = .ok (.goto 12, 3) := by decide +kernel
theorem dX10_countAhead_96 : decode cX10_countAhead 96 = .ok (.aload_n 0, 1) := by decide +kernel
theorem dX10_countAhead_97 : decode cX10_countAhead 97 = .ok (.getfield 33, 3) := by decide +kernel
theorem dX10_countAhead_100 : decode cX10_countAhead 100 = .ok (.aload_n 0, 1) := by decide +kernel
theorem dX10_countAhead_101 : decode cX10_countAhead 101 = .ok (.getfield 282, 3) := by decide +kernel
theorem dX10_countAhead_104 : decode cX10_countAhead 104 = .ok (.iaload, 1) := by decide +kernel
theorem dX10_countAhead_105 : decode cX10_countAhead 105 = .ok (.invokevirtual 418, 3) := by decide +kernel
theorem dX10_countAhead_108 : decode cX10_countAhead 108 = .ok (.aload_n 0, 1) := by decide +kernel
theorem dX10_countAhead_109 : decode cX10_countAhead 109 = .ok (.getfield 107, 3) := by decide +kernel
theorem dX10_countAhead_112 : decode cX10_countAhead 112 = .ok (.iconst 0, 1) := by decide +kernel
theorem dX10_countAhead_113 : decode cX10_countAhead 113 = .ok (.iaload, 1) := by decide +kernel
theorem dX10_countAhead_114 : decode cX10_countAhead 114 = .ok (.if_icmp .ne 7, 3) := by decide +kernel
theorem dX10_countAhead_117 : decode cX10_countAhead 117 = .ok (.lconst 1, 1) := by decide +kernel
theorem dX10_countAhead_118 : decode cX10_countAhead 118 = .ok (.goto 4, 3) := by decide +kernel
theorem dX10_countAhead_121 : decode cX10_countAhead 121 = .ok (.lconst 0, 1) := by decide +kernel
theorem dX10_countAhead_122 : decode cX10_countAhead 122 = .ok (.ladd, 1) := by decide +kernel
theorem dX10_countAhead_123 : decode cX10_countAhead 123 = .ok (.lstore_n 2, 1) := by decide +kernel
theorem dX10_countAhead_124 : decode cX10_countAhead 124 = .ok (.goto 50, 3) := by decide +kernel
theorem dX10_countAhead_127 : decode cX10_countAhead 127 = .ok (.iconst 0, 1) := by decide +kernel
theorem dX10_countAhead_128 : decode cX10_countAhead 128 = .ok (.istore 5, 2) := by decide +kernel
theorem dX10_countAhead_130 : decode cX10_countAhead 130 = .ok (.iload 5, 2) := by decide +kernel
theorem dX10_countAhead_132 : decode cX10_countAhead 132 = .ok (.aload_n 0, 1) := by decide +kernel
theorem dX10_countAhead_133 : decode cX10_countAhead 133 = .ok (.getfield 20, 3) := by decide +kernel
theorem dX10_countAhead_136 : decode cX10_countAhead 136 = .ok (.aload_n 0, 1) := by decide +kernel
theorem dX10_countAhead_137 : decode cX10_countAhead 137 = .ok (.getfield 282, 3) := by decide +kernel
theorem dX10_countAhead_140 : decode cX10_countAhead 140 = .ok (.iaload, 1) := by decide +kernel
theorem dX10_countAhead_141 : decode cX10_countAhead 141 = .ok (.if_icmp .ge 33, 3) := by decide +kernel
theorem dX10_countAhead_144 : decode cX10_countAhead 144 = .ok (.aload_n 0, 1) := by decide +kernel
theorem dX10_countAhead_145 : decode cX10_countAhead 145 = .ok (.iconst 1, 1) := by decide +kernel
theorem dX10_countAhead_146 : decode cX10_countAhead 146 = .ok (.iload 5, 2) := by decide +kernel
theorem dX10_countAhead_148 : decode cX10_countAhead 148 = .ok (.invokevirtual 461, 3) := by decide +kernel
theorem dX10_countAhead_151 : decode cX10_countAhead 151 = .ok (.ifCond .eq 17, 3) := by decide +kernel
theorem dX10_countAhead_154 : decode cX10_countAhead 154 = .ok (.lload_n 2, 1) := by decide +kernel
theorem dX10_countAhead_155 : decode cX10_countAhead 155 = .ok (.aload_n 0, 1) := by decide +kernel
theorem dX10_countAhead_156 : decode cX10_countAhead 156 = .ok (.iload 4, 2) := by decide +kernel
theorem dX10_countAhead_158 : decode cX10_countAhead 158 = .ok (.iload 5, 2) := by decide +kernel
theorem dX10_countAhead_160 : decode cX10_countAhead 160 = .ok (.invokevirtual 465, 3) := by decide +kernel
theorem dX10_countAhead_163 : decode cX10_countAhead 163 = .ok (.ladd, 1) := by decide +kernel
theorem dX10_countAhead_164 : decode cX10_countAhead 164 = .ok (.invokestatic 469, 3) := by decide +kernel
theorem dX10_countAhead_167 : decode cX10_countAhead 167 = .ok (.lstore_n 2, 1) := by decide +kernel
theorem dX10_countAhead_168 : decode cX10_countAhead 168 = .ok (.iinc 5 1, 3) := by decide +kernel
theorem dX10_countAhead_171 : decode cX10_countAhead 171 = .ok (.goto (-41), 3) := by decide +kernel
theorem dX10_countAhead_174 : decode cX10_countAhead 174 = .ok (.iinc 4 1, 3) := by decide +kernel
theorem dX10_countAhead_177 : decode cX10_countAhead 177 = .ok (.goto (-161), 3) := by decide +kernel
theorem dX10_countAhead_180 : decode cX10_countAhead 180 = .ok (.lload_n 2, 1) := by decide +kernel
theorem dX10_countAhead_181 : decode cX10_countAhead 181 = .ok (.lreturn, 1) := by decide +kernel
theorem dX10_before_0 : decode cX10_before 0 = .ok (.aload_n 0, 1) := by decide +kernel
theorem dX10_before_1 : decode cX10_before 1 = .ok (.iconst 0, 1) := by decide +kernel
theorem dX10_before_2 : decode cX10_before 2 = .ok (.putfield 297, 3) := by decide +kernel
theorem dX10_before_5 : decode cX10_before 5 = .ok (.iconst 0, 1) := by decide +kernel
theorem dX10_before_6 : decode cX10_before 6 = .ok (.istore_n 1, 1) := by decide +kernel
theorem dX10_before_7 : decode cX10_before 7 = .ok (.iload_n 1, 1) := by decide +kernel
theorem dX10_before_8 : decode cX10_before 8 = .ok (.bipush 30, 2) := by decide +kernel
theorem dX10_before_10 : decode cX10_before 10 = .ok (.if_icmp .ge 16, 3) := by decide +kernel
theorem dX10_before_13 : decode cX10_before 13 = .ok (.aload_n 0, 1) := by decide +kernel
theorem dX10_before_14 : decode cX10_before 14 = .ok (.getfield 119, 3) := by decide +kernel
theorem dX10_before_17 : decode cX10_before 17 = .ok (.iload_n 1, 1) := by decide +kernel
theorem dX10_before_18 : decode cX10_before 18 = .ok (.iconst (-1), 1) := by decide +kernel
theorem dX10_before_19 : decode cX10_before 19 = .ok (.iastore, 1) := by decide +kernel
theorem dX10_before_20 : decode cX10_before 20 = .ok (.iinc 1 1, 3) := by decide +kernel
theorem dX10_before_23 : decode cX10_before 23 = .ok (.goto (-16), 3) := by decide +kernel
theorem dX10_before_26 : decode cX10_before 26 = .ok (.aload_n 0, 1) := by decide +kernel
theorem dX10_before_27 : decode cX10_before 27 = .ok (.invokevirtual 473, 3) := by decide +kernel
theorem dX10_before_30 : decode cX10_before 30 = .ok (.lstore_n 1, 1) := by decide +kernel
theorem dX10_before_31 : decode cX10_before 31 = .ok (.lload_n 1, 1) := by decide +kernel
theorem dX10_before_32 : decode cX10_before 32 = .ok (.lconst 0, 1) := by decide +kernel
theorem dX10_before_33 : decode cX10_before 33 = .ok (.lcmp, 1) := by decide +kernel
theorem dX10_before_34 : decode cX10_before 34 = .ok (.ifCond .ne 5, 3) := by decide +kernel
theorem dX10_before_37 : decode cX10_before 37 = .ok (.lconst 0, 1) := by decide +kernel
theorem dX10_before_38 : decode cX10_before 38 = .ok (.lreturn, 1) := by decide +kernel
theorem dX10_before_39 : decode cX10_before 39 = .ok (.iconst 0, 1) := by decide +kernel
theorem dX10_before_40 : decode cX10_before 40 = .ok (.istore_n 3, 1) := by decide +kernel
theorem dX10_before_41 : decode cX10_before 41 = .ok (.iload_n 3, 1) := by decide +kernel
theorem dX10_before_42 : decode cX10_before 42 = .ok (.aload_n 0, 1) := by decide +kernel
theorem dX10_before_43 : decode cX10_before 43 = .ok (.invokevirtual 375, 3) := by decide +kernel
theorem dX10_before_46 : decode cX10_before 46 = .ok (.if_icmp .ge 50, 3) := by decide +kernel
theorem dX10_before_49 : decode cX10_before 49 = .ok (.aload_n 0, 1) := by decide +kernel
theorem dX10_before_50 : decode cX10_before 50 = .ok (.getfield 119, 3) := by decide +kernel
theorem dX10_before_53 : decode cX10_before 53 = .ok (.iload_n 3, 1) := by decide +kernel
theorem dX10_before_54 : decode cX10_before 54 = .ok (.iconst 0, 1) := by decide +kernel
theorem dX10_before_55 : decode cX10_before 55 = .ok (.iastore, 1) := by decide +kernel
theorem dX10_before_56 : decode cX10_before 56 = .ok (.aload_n 0, 1) := by decide +kernel
theorem dX10_before_57 : decode cX10_before 57 = .ok (.invokevirtual 473, 3) := by decide +kernel
theorem dX10_before_60 : decode cX10_before 60 = .ok (.lconst 0, 1) := by decide +kernel
theorem dX10_before_61 : decode cX10_before 61 = .ok (.lcmp, 1) := by decide +kernel
theorem dX10_before_62 : decode cX10_before 62 = .ok (.ifCond .ne 16, 3) := by decide +kernel
theorem dX10_before_65 : decode cX10_before 65 = .ok (.aload_n 0, 1) := by decide +kernel
theorem dX10_before_66 : decode cX10_before 66 = .ok (.getfield 119, 3) := by decide +kernel
theorem dX10_before_69 : decode cX10_before 69 = .ok (.iload_n 3, 1) := by decide +kernel
theorem dX10_before_70 : decode cX10_before 70 = .ok (.dup2, 1) := by decide +kernel
theorem dX10_before_71 : decode cX10_before 71 = .ok (.iaload, 1) := by decide +kernel
theorem dX10_before_72 : decode cX10_before 72 = .ok (.iconst 1, 1) := by decide +kernel
theorem dX10_before_73 : decode cX10_before 73 = .ok (.iadd, 1) := by decide +kernel
theorem dX10_before_74 : decode cX10_before 74 = .ok (.iastore, 1) := by decide +kernel
theorem dX10_before_75 : decode cX10_before 75 = .ok (.goto (-19), 3) := by decide +kernel
theorem dX10_before_78 : decode cX10_before 78 = .ok (.aload_n 0, 1) := by decide +kernel
theorem dX10_before_79 : decode cX10_before 79 = .ok (.getfield 128, 3) := by decide +kernel
theorem dX10_before_82 : decode cX10_before 82 = .ok (.iload_n 3, 1) := by decide +kernel
theorem dX10_before_83 : decode cX10_before 83 = .ok (.aload_n 0, 1) := by decide +kernel
theorem dX10_before_84 : decode cX10_before 84 = .ok (.getfield 119, 3) := by decide +kernel
theorem dX10_before_87 : decode cX10_before 87 = .ok (.iload_n 3, 1) := by decide +kernel
theorem dX10_before_88 : decode cX10_before 88 = .ok (.iaload, 1) := by decide +kernel
theorem dX10_before_89 : decode cX10_before 89 = .ok (.iastore, 1) := by decide +kernel
theorem dX10_before_90 : decode cX10_before 90 = .ok (.iinc 3 1, 3) := by decide +kernel
theorem dX10_before_93 : decode cX10_before 93 = .ok (.goto (-52), 3) := by decide +kernel
theorem dX10_before_96 : decode cX10_before 96 = .ok (.aload_n 0, 1) := by decide +kernel
theorem dX10_before_97 : decode cX10_before 97 = .ok (.aload_n 0, 1) := by decide +kernel
theorem dX10_before_98 : decode cX10_before 98 = .ok (.invokevirtual 375, 3) := by decide +kernel
theorem dX10_before_101 : decode cX10_before 101 = .ok (.putfield 297, 3) := by decide +kernel
theorem dX10_before_104 : decode cX10_before 104 = .ok (.aload_n 0, 1) := by decide +kernel
theorem dX10_before_105 : decode cX10_before 105 = .ok (.iconst 0, 1) := by decide +kernel
theorem dX10_before_106 : decode cX10_before 106 = .ok (.putfield 476, 3) := by decide +kernel
theorem dX10_before_109 : decode cX10_before 109 = .ok (.lload_n 1, 1) := by decide +kernel
theorem dX10_before_110 : decode cX10_before 110 = .ok (.lreturn, 1) := by decide +kernel
theorem dX10_bitsOf_0 : decode cX10_bitsOf 0 = .ok (.iconst 0, 1) := by decide +kernel
theorem dX10_bitsOf_1 : decode cX10_bitsOf 1 = .ok (.istore_n 1, 1) := by decide +kernel
theorem dX10_bitsOf_2 : decode cX10_bitsOf 2 = .ok (.iconst 0, 1) := by decide +kernel
theorem dX10_bitsOf_3 : decode cX10_bitsOf 3 = .ok (.istore_n 2, 1) := by decide +kernel
theorem dX10_bitsOf_4 : decode cX10_bitsOf 4 = .ok (.iload_n 2, 1) := by decide +kernel
theorem dX10_bitsOf_5 : decode cX10_bitsOf 5 = .ok (.bipush 31, 2) := by decide +kernel
theorem dX10_bitsOf_7 : decode cX10_bitsOf 7 = .ok (.if_icmp .ge 17, 3) := by decide +kernel
theorem dX10_bitsOf_10 : decode cX10_bitsOf 10 = .ok (.iload_n 1, 1) := by decide +kernel
theorem dX10_bitsOf_11 : decode cX10_bitsOf 11 = .ok (.iload_n 0, 1) := by decide +kernel
theorem dX10_bitsOf_12 : decode cX10_bitsOf 12 = .ok (.iload_n 2, 1) := by decide +kernel
theorem dX10_bitsOf_13 : decode cX10_bitsOf 13 = .ok (.ishr, 1) := by decide +kernel
theorem dX10_bitsOf_14 : decode cX10_bitsOf 14 = .ok (.iconst 1, 1) := by decide +kernel
theorem dX10_bitsOf_15 : decode cX10_bitsOf 15 = .ok (.iand, 1) := by decide +kernel
theorem dX10_bitsOf_16 : decode cX10_bitsOf 16 = .ok (.iadd, 1) := by decide +kernel
theorem dX10_bitsOf_17 : decode cX10_bitsOf 17 = .ok (.istore_n 1, 1) := by decide +kernel
theorem dX10_bitsOf_18 : decode cX10_bitsOf 18 = .ok (.iinc 2 1, 3) := by decide +kernel
theorem dX10_bitsOf_21 : decode cX10_bitsOf 21 = .ok (.goto (-17), 3) := by decide +kernel
theorem dX10_bitsOf_24 : decode cX10_bitsOf 24 = .ok (.iload_n 1, 1) := by decide +kernel
theorem dX10_bitsOf_25 : decode cX10_bitsOf 25 = .ok (.ireturn, 1) := by decide +kernel
theorem dX10_unsure_0 : decode cX10_unsure 0 = .ok (.iload_n 1, 1) := by decide +kernel
theorem dX10_unsure_1 : decode cX10_unsure 1 = .ok (.ifCond .lt 22, 3) := by decide +kernel
theorem dX10_unsure_4 : decode cX10_unsure 4 = .ok (.iload_n 1, 1) := by decide +kernel
theorem dX10_unsure_5 : decode cX10_unsure 5 = .ok (.iconst 1, 1) := by decide +kernel
theorem dX10_unsure_6 : decode cX10_unsure 6 = .ok (.aload_n 0, 1) := by decide +kernel
theorem dX10_unsure_7 : decode cX10_unsure 7 = .ok (.invokevirtual 375, 3) := by decide +kernel
theorem dX10_unsure_10 : decode cX10_unsure 10 = .ok (.ishl, 1) := by decide +kernel
theorem dX10_unsure_11 : decode cX10_unsure 11 = .ok (.if_icmp .ge 12, 3) := by decide +kernel
theorem dX10_unsure_14 : decode cX10_unsure 14 = .ok (.iload_n 1, 1) := by decide +kernel
theorem dX10_unsure_15 : decode cX10_unsure 15 = .ok (.invokestatic 527, 3) := by decide +kernel
theorem dX10_unsure_18 : decode cX10_unsure 18 = .ok (.bipush 6, 2) := by decide +kernel
theorem dX10_unsure_20 : decode cX10_unsure 20 = .ok (.if_icmp .le 5, 3) := by decide +kernel
theorem dX10_unsure_23 : decode cX10_unsure 23 = .ok (.iconst (-1), 1) := by decide +kernel
theorem dX10_unsure_24 : decode cX10_unsure 24 = .ok (.ireturn, 1) := by decide +kernel
theorem dX10_unsure_25 : decode cX10_unsure 25 = .ok (.aload_n 0, 1) := by decide +kernel
theorem dX10_unsure_26 : decode cX10_unsure 26 = .ok (.iload_n 1, 1) := by decide +kernel
theorem dX10_unsure_27 : decode cX10_unsure 27 = .ok (.putfield 294, 3) := by decide +kernel
theorem dX10_unsure_30 : decode cX10_unsure 30 = .ok (.iload_n 1, 1) := by decide +kernel
theorem dX10_unsure_31 : decode cX10_unsure 31 = .ok (.invokestatic 527, 3) := by decide +kernel
theorem dX10_unsure_34 : decode cX10_unsure 34 = .ok (.ireturn, 1) := by decide +kernel
theorem dX10_areSo_0 : decode cX10_areSo 0 = .ok (.iconst 0, 1) := by decide +kernel
theorem dX10_areSo_1 : decode cX10_areSo 1 = .ok (.istore_n 2, 1) := by decide +kernel
theorem dX10_areSo_2 : decode cX10_areSo 2 = .ok (.iload_n 2, 1) := by decide +kernel
theorem dX10_areSo_3 : decode cX10_areSo 3 = .ok (.bipush 30, 2) := by decide +kernel
theorem dX10_areSo_5 : decode cX10_areSo 5 = .ok (.if_icmp .gt 90, 3) := by decide +kernel
theorem dX10_areSo_8 : decode cX10_areSo 8 = .ok (.iconst 0, 1) := by decide +kernel
theorem dX10_areSo_9 : decode cX10_areSo 9 = .ok (.istore_n 3, 1) := by decide +kernel
theorem dX10_areSo_10 : decode cX10_areSo 10 = .ok (.iload_n 3, 1) := by decide +kernel
theorem dX10_areSo_11 : decode cX10_areSo 11 = .ok (.aload_n 0, 1) := by decide +kernel
theorem dX10_areSo_12 : decode cX10_areSo 12 = .ok (.getfield 291, 3) := by decide +kernel
theorem dX10_areSo_15 : decode cX10_areSo 15 = .ok (.if_icmp .ge 70, 3) := by decide +kernel
theorem dX10_areSo_18 : decode cX10_areSo 18 = .ok (.aload_n 0, 1) := by decide +kernel
theorem dX10_areSo_19 : decode cX10_areSo 19 = .ok (.getfield 153, 3) := by decide +kernel
theorem dX10_areSo_22 : decode cX10_areSo 22 = .ok (.iload_n 3, 1) := by decide +kernel
theorem dX10_areSo_23 : decode cX10_areSo 23 = .ok (.iaload, 1) := by decide +kernel
theorem dX10_areSo_24 : decode cX10_areSo 24 = .ok (.iload_n 2, 1) := by decide +kernel
theorem dX10_areSo_25 : decode cX10_areSo 25 = .ok (.if_icmp .ne 54, 3) := by decide +kernel
theorem dX10_areSo_28 : decode cX10_areSo 28 = .ok (.aload_n 0, 1) := by decide +kernel
theorem dX10_areSo_29 : decode cX10_areSo 29 = .ok (.getfield 162, 3) := by decide +kernel
theorem dX10_areSo_32 : decode cX10_areSo 32 = .ok (.iload_n 3, 1) := by decide +kernel
theorem dX10_areSo_33 : decode cX10_areSo 33 = .ok (.iaload, 1) := by decide +kernel
theorem dX10_areSo_34 : decode cX10_areSo 34 = .ok (.iload_n 1, 1) := by decide +kernel
theorem dX10_areSo_35 : decode cX10_areSo 35 = .ok (.if_icmp .gt 44, 3) := by decide +kernel
theorem dX10_areSo_38 : decode cX10_areSo 38 = .ok (.aload_n 0, 1) := by decide +kernel
theorem dX10_areSo_39 : decode cX10_areSo 39 = .ok (.getfield 165, 3) := by decide +kernel
theorem dX10_areSo_42 : decode cX10_areSo 42 = .ok (.iload_n 3, 1) := by decide +kernel
theorem dX10_areSo_43 : decode cX10_areSo 43 = .ok (.iaload, 1) := by decide +kernel
theorem dX10_areSo_44 : decode cX10_areSo 44 = .ok (.ifCond .lt 13, 3) := by decide +kernel
theorem dX10_areSo_47 : decode cX10_areSo 47 = .ok (.aload_n 0, 1) := by decide +kernel
theorem dX10_areSo_48 : decode cX10_areSo 48 = .ok (.getfield 165, 3) := by decide +kernel
theorem dX10_areSo_51 : decode cX10_areSo 51 = .ok (.iload_n 3, 1) := by decide +kernel
theorem dX10_areSo_52 : decode cX10_areSo 52 = .ok (.iaload, 1) := by decide +kernel
theorem dX10_areSo_53 : decode cX10_areSo 53 = .ok (.iload_n 1, 1) := by decide +kernel
theorem dX10_areSo_54 : decode cX10_areSo 54 = .ok (.if_icmp .le 25, 3) := by decide +kernel
theorem dX10_areSo_57 : decode cX10_areSo 57 = .ok (.aload_n 0, 1) := by decide +kernel
theorem dX10_areSo_58 : decode cX10_areSo 58 = .ok (.getfield 101, 3) := by decide +kernel
theorem dX10_areSo_61 : decode cX10_areSo 61 = .ok (.aload_n 0, 1) := by decide +kernel
theorem dX10_areSo_62 : decode cX10_areSo 62 = .ok (.getfield 156, 3) := by decide +kernel
theorem dX10_areSo_65 : decode cX10_areSo 65 = .ok (.iload_n 3, 1) := by decide +kernel
theorem dX10_areSo_66 : decode cX10_areSo 66 = .ok (.iaload, 1) := by decide +kernel
theorem dX10_areSo_67 : decode cX10_areSo 67 = .ok (.iaload, 1) := by decide +kernel
theorem dX10_areSo_68 : decode cX10_areSo 68 = .ok (.aload_n 0, 1) := by decide +kernel
theorem dX10_areSo_69 : decode cX10_areSo 69 = .ok (.getfield 159, 3) := by decide +kernel
theorem dX10_areSo_72 : decode cX10_areSo 72 = .ok (.iload_n 3, 1) := by decide +kernel
theorem dX10_areSo_73 : decode cX10_areSo 73 = .ok (.iaload, 1) := by decide +kernel
theorem dX10_areSo_74 : decode cX10_areSo 74 = .ok (.if_icmp .eq 5, 3) := by decide +kernel
theorem dX10_areSo_77 : decode cX10_areSo 77 = .ok (.iconst 0, 1) := by decide +kernel
theorem dX10_areSo_78 : decode cX10_areSo 78 = .ok (.ireturn, 1) := by decide +kernel
theorem dX10_areSo_79 : decode cX10_areSo 79 = .ok (.iinc 3 1, 3) := by decide +kernel
theorem dX10_areSo_82 : decode cX10_areSo 82 = .ok (.goto (-72), 3) := by decide +kernel
theorem dX10_areSo_85 : decode cX10_areSo 85 = .ok (.aload_n 0, 1) := by decide +kernel
theorem dX10_areSo_86 : decode cX10_areSo 86 = .ok (.invokevirtual 421, 3) := by decide +kernel
theorem dX10_areSo_89 : decode cX10_areSo 89 = .ok (.iinc 2 1, 3) := by decide +kernel
theorem dX10_areSo_92 : decode cX10_areSo 92 = .ok (.goto (-90), 3) := by decide +kernel
theorem dX10_areSo_95 : decode cX10_areSo 95 = .ok (.iconst 1, 1) := by decide +kernel
theorem dX10_areSo_96 : decode cX10_areSo 96 = .ok (.ireturn, 1) := by decide +kernel
theorem dX10_layCase_0 : decode cX10_layCase 0 = .ok (.aload_n 0, 1) := by decide +kernel
theorem dX10_layCase_1 : decode cX10_layCase 1 = .ok (.invokevirtual 382, 3) := by decide +kernel
theorem dX10_layCase_4 : decode cX10_layCase 4 = .ok (.iload_n 1, 1) := by decide +kernel
theorem dX10_layCase_5 : decode cX10_layCase 5 = .ok (.istore_n 2, 1) := by decide +kernel
theorem dX10_layCase_6 : decode cX10_layCase 6 = .ok (.iconst 0, 1) := by decide +kernel
theorem dX10_layCase_7 : decode cX10_layCase 7 = .ok (.istore_n 3, 1) := by decide +kernel
theorem dX10_layCase_8 : decode cX10_layCase 8 = .ok (.iload_n 3, 1) := by decide +kernel
theorem dX10_layCase_9 : decode cX10_layCase 9 = .ok (.aload_n 0, 1) := by decide +kernel
theorem dX10_layCase_10 : decode cX10_layCase 10 = .ok (.invokevirtual 375, 3) := by decide +kernel
theorem dX10_layCase_13 : decode cX10_layCase 13 = .ok (.if_icmp .ge 52, 3) := by decide +kernel
theorem dX10_layCase_16 : decode cX10_layCase 16 = .ok (.aload_n 0, 1) := by decide +kernel
theorem dX10_layCase_17 : decode cX10_layCase 17 = .ok (.getfield 294, 3) := by decide +kernel
theorem dX10_layCase_20 : decode cX10_layCase 20 = .ok (.iload_n 3, 1) := by decide +kernel
theorem dX10_layCase_21 : decode cX10_layCase 21 = .ok (.ishr, 1) := by decide +kernel
theorem dX10_layCase_22 : decode cX10_layCase 22 = .ok (.iconst 1, 1) := by decide +kernel
theorem dX10_layCase_23 : decode cX10_layCase 23 = .ok (.iand, 1) := by decide +kernel
theorem dX10_layCase_24 : decode cX10_layCase 24 = .ok (.ifCond .ne 6, 3) := by decide +kernel
theorem dX10_layCase_27 : decode cX10_layCase 27 = .ok (.goto 32, 3) := by decide +kernel
theorem dX10_layCase_30 : decode cX10_layCase 30 = .ok (.aload_n 0, 1) := by decide +kernel
theorem dX10_layCase_31 : decode cX10_layCase 31 = .ok (.getfield 101, 3) := by decide +kernel
theorem dX10_layCase_34 : decode cX10_layCase 34 = .ok (.iload_n 3, 1) := by decide +kernel
theorem dX10_layCase_35 : decode cX10_layCase 35 = .ok (.iload_n 2, 1) := by decide +kernel
theorem dX10_layCase_36 : decode cX10_layCase 36 = .ok (.aload_n 0, 1) := by decide +kernel
theorem dX10_layCase_37 : decode cX10_layCase 37 = .ok (.getfield 20, 3) := by decide +kernel
theorem dX10_layCase_40 : decode cX10_layCase 40 = .ok (.aload_n 0, 1) := by decide +kernel
theorem dX10_layCase_41 : decode cX10_layCase 41 = .ok (.getfield 282, 3) := by decide +kernel
theorem dX10_layCase_44 : decode cX10_layCase 44 = .ok (.iaload, 1) := by decide +kernel
theorem dX10_layCase_45 : decode cX10_layCase 45 = .ok (.irem, 1) := by decide +kernel
theorem dX10_layCase_46 : decode cX10_layCase 46 = .ok (.iastore, 1) := by decide +kernel
theorem dX10_layCase_47 : decode cX10_layCase 47 = .ok (.iload_n 2, 1) := by decide +kernel
theorem dX10_layCase_48 : decode cX10_layCase 48 = .ok (.aload_n 0, 1) := by decide +kernel
theorem dX10_layCase_49 : decode cX10_layCase 49 = .ok (.getfield 20, 3) := by decide +kernel
theorem dX10_layCase_52 : decode cX10_layCase 52 = .ok (.aload_n 0, 1) := by decide +kernel
theorem dX10_layCase_53 : decode cX10_layCase 53 = .ok (.getfield 282, 3) := by decide +kernel
theorem dX10_layCase_56 : decode cX10_layCase 56 = .ok (.iaload, 1) := by decide +kernel
theorem dX10_layCase_57 : decode cX10_layCase 57 = .ok (.idiv, 1) := by decide +kernel
theorem dX10_layCase_58 : decode cX10_layCase 58 = .ok (.istore_n 2, 1) := by decide +kernel
theorem dX10_layCase_59 : decode cX10_layCase 59 = .ok (.iinc 3 1, 3) := by decide +kernel
theorem dX10_layCase_62 : decode cX10_layCase 62 = .ok (.goto (-54), 3) := by decide +kernel
theorem dX10_layCase_65 : decode cX10_layCase 65 = .ok (.return_, 1) := by decide +kernel
theorem dX10_fits_0 : decode cX10_fits 0 = .ok (.iconst 1, 1) := by decide +kernel
theorem dX10_fits_1 : decode cX10_fits 1 = .ok (.istore_n 2, 1) := by decide +kernel
theorem dX10_fits_2 : decode cX10_fits 2 = .ok (.iconst 0, 1) := by decide +kernel
theorem dX10_fits_3 : decode cX10_fits 3 = .ok (.istore_n 3, 1) := by decide +kernel
theorem dX10_fits_4 : decode cX10_fits 4 = .ok (.iload_n 3, 1) := by decide +kernel
theorem dX10_fits_5 : decode cX10_fits 5 = .ok (.aload_n 0, 1) := by decide +kernel
theorem dX10_fits_6 : decode cX10_fits 6 = .ok (.invokevirtual 375, 3) := by decide +kernel
theorem dX10_fits_9 : decode cX10_fits 9 = .ok (.if_icmp .ge 37, 3) := by decide +kernel
theorem dX10_fits_12 : decode cX10_fits 12 = .ok (.iload_n 2, 1) := by decide +kernel
theorem dX10_fits_13 : decode cX10_fits 13 = .ok (.aload_n 0, 1) := by decide +kernel
theorem dX10_fits_14 : decode cX10_fits 14 = .ok (.getfield 294, 3) := by decide +kernel
theorem dX10_fits_17 : decode cX10_fits 17 = .ok (.iload_n 3, 1) := by decide +kernel
theorem dX10_fits_18 : decode cX10_fits 18 = .ok (.ishr, 1) := by decide +kernel
theorem dX10_fits_19 : decode cX10_fits 19 = .ok (.iconst 1, 1) := by decide +kernel
theorem dX10_fits_20 : decode cX10_fits 20 = .ok (.iand, 1) := by decide +kernel
theorem dX10_fits_21 : decode cX10_fits 21 = .ok (.iconst 1, 1) := by decide +kernel
theorem dX10_fits_22 : decode cX10_fits 22 = .ok (.if_icmp .ne 15, 3) := by decide +kernel
theorem dX10_fits_25 : decode cX10_fits 25 = .ok (.aload_n 0, 1) := by decide +kernel
theorem dX10_fits_26 : decode cX10_fits 26 = .ok (.getfield 20, 3) := by decide +kernel
theorem dX10_fits_29 : decode cX10_fits 29 = .ok (.aload_n 0, 1) := by decide +kernel
theorem dX10_fits_30 : decode cX10_fits 30 = .ok (.getfield 282, 3) := by decide +kernel
theorem dX10_fits_33 : decode cX10_fits 33 = .ok (.iaload, 1) := by decide +kernel
theorem dX10_fits_34 : decode cX10_fits 34 = .ok (.goto 4, 3) := by decide +kernel
theorem dX10_fits_37 : decode cX10_fits 37 = .ok (.iconst 1, 1) := by decide +kernel
theorem dX10_fits_38 : decode cX10_fits 38 = .ok (.imul, 1) := by decide +kernel
theorem dX10_fits_39 : decode cX10_fits 39 = .ok (.istore_n 2, 1) := by decide +kernel
theorem dX10_fits_40 : decode cX10_fits 40 = .ok (.iinc 3 1, 3) := by decide +kernel
theorem dX10_fits_43 : decode cX10_fits 43 = .ok (.goto (-39), 3) := by decide +kernel
theorem dX10_fits_46 : decode cX10_fits 46 = .ok (.iconst 0, 1) := by decide +kernel
theorem dX10_fits_47 : decode cX10_fits 47 = .ok (.istore_n 3, 1) := by decide +kernel
theorem dX10_fits_48 : decode cX10_fits 48 = .ok (.iload_n 3, 1) := by decide +kernel
theorem dX10_fits_49 : decode cX10_fits 49 = .ok (.bipush 30, 2) := by decide +kernel
theorem dX10_fits_51 : decode cX10_fits 51 = .ok (.if_icmp .ge 16, 3) := by decide +kernel
theorem dX10_fits_54 : decode cX10_fits 54 = .ok (.aload_n 0, 1) := by decide +kernel
theorem dX10_fits_55 : decode cX10_fits 55 = .ok (.getfield 168, 3) := by decide +kernel
theorem dX10_fits_58 : decode cX10_fits 58 = .ok (.iload_n 3, 1) := by decide +kernel
theorem dX10_fits_59 : decode cX10_fits 59 = .ok (.iconst 0, 1) := by decide +kernel
theorem dX10_fits_60 : decode cX10_fits 60 = .ok (.iastore, 1) := by decide +kernel
theorem dX10_fits_61 : decode cX10_fits 61 = .ok (.iinc 3 1, 3) := by decide +kernel
theorem dX10_fits_64 : decode cX10_fits 64 = .ok (.goto (-16), 3) := by decide +kernel
theorem dX10_fits_67 : decode cX10_fits 67 = .ok (.iconst 0, 1) := by decide +kernel
theorem dX10_fits_68 : decode cX10_fits 68 = .ok (.istore_n 3, 1) := by decide +kernel
theorem dX10_fits_69 : decode cX10_fits 69 = .ok (.iconst 0, 1) := by decide +kernel
theorem dX10_fits_70 : decode cX10_fits 70 = .ok (.istore 4, 2) := by decide +kernel
theorem dX10_fits_72 : decode cX10_fits 72 = .ok (.iload 4, 2) := by decide +kernel
theorem dX10_fits_74 : decode cX10_fits 74 = .ok (.iload_n 2, 1) := by decide +kernel
theorem dX10_fits_75 : decode cX10_fits 75 = .ok (.if_icmp .ge 72, 3) := by decide +kernel
theorem dX10_fits_78 : decode cX10_fits 78 = .ok (.aload_n 0, 1) := by decide +kernel
theorem dX10_fits_79 : decode cX10_fits 79 = .ok (.iload 4, 2) := by decide +kernel
theorem dX10_fits_81 : decode cX10_fits 81 = .ok (.invokevirtual 530, 3) := by decide +kernel
theorem dX10_fits_84 : decode cX10_fits 84 = .ok (.aload_n 0, 1) := by decide +kernel
theorem dX10_fits_85 : decode cX10_fits 85 = .ok (.iload_n 1, 1) := by decide +kernel
theorem dX10_fits_86 : decode cX10_fits 86 = .ok (.invokevirtual 533, 3) := by decide +kernel
theorem dX10_fits_89 : decode cX10_fits 89 = .ok (.ifCond .ne 6, 3) := by decide +kernel
theorem dX10_fits_92 : decode cX10_fits 92 = .ok (.goto 49, 3) := by decide +kernel
theorem dX10_fits_95 : decode cX10_fits 95 = .ok (.iinc 3 1, 3) := by decide +kernel
theorem dX10_fits_98 : decode cX10_fits 98 = .ok (.aload_n 0, 1) := by decide +kernel
theorem dX10_fits_99 : decode cX10_fits 99 = .ok (.iload 4, 2) := by decide +kernel
theorem dX10_fits_101 : decode cX10_fits 101 = .ok (.invokevirtual 530, 3) := by decide +kernel
theorem dX10_fits_104 : decode cX10_fits 104 = .ok (.iconst 0, 1) := by decide +kernel
theorem dX10_fits_105 : decode cX10_fits 105 = .ok (.istore 5, 2) := by decide +kernel
theorem dX10_fits_107 : decode cX10_fits 107 = .ok (.iload 5, 2) := by decide +kernel
theorem dX10_fits_109 : decode cX10_fits 109 = .ok (.aload_n 0, 1) := by decide +kernel
theorem dX10_fits_110 : decode cX10_fits 110 = .ok (.invokevirtual 375, 3) := by decide +kernel
theorem dX10_fits_113 : decode cX10_fits 113 = .ok (.if_icmp .ge 28, 3) := by decide +kernel
theorem dX10_fits_116 : decode cX10_fits 116 = .ok (.aload_n 0, 1) := by decide +kernel
theorem dX10_fits_117 : decode cX10_fits 117 = .ok (.getfield 168, 3) := by decide +kernel
theorem dX10_fits_120 : decode cX10_fits 120 = .ok (.iload 5, 2) := by decide +kernel
theorem dX10_fits_122 : decode cX10_fits 122 = .ok (.dup2, 1) := by decide +kernel
theorem dX10_fits_123 : decode cX10_fits 123 = .ok (.iaload, 1) := by decide +kernel
theorem dX10_fits_124 : decode cX10_fits 124 = .ok (.iconst 1, 1) := by decide +kernel
theorem dX10_fits_125 : decode cX10_fits 125 = .ok (.aload_n 0, 1) := by decide +kernel
theorem dX10_fits_126 : decode cX10_fits 126 = .ok (.getfield 101, 3) := by decide +kernel
theorem dX10_fits_129 : decode cX10_fits 129 = .ok (.iload 5, 2) := by decide +kernel
theorem dX10_fits_131 : decode cX10_fits 131 = .ok (.iaload, 1) := by decide +kernel
theorem dX10_fits_132 : decode cX10_fits 132 = .ok (.ishl, 1) := by decide +kernel
theorem dX10_fits_133 : decode cX10_fits 133 = .ok (.ior, 1) := by decide +kernel
theorem dX10_fits_134 : decode cX10_fits 134 = .ok (.iastore, 1) := by decide +kernel
theorem dX10_fits_135 : decode cX10_fits 135 = .ok (.iinc 5 1, 3) := by decide +kernel
theorem dX10_fits_138 : decode cX10_fits 138 = .ok (.goto (-31), 3) := by decide +kernel
theorem dX10_fits_141 : decode cX10_fits 141 = .ok (.iinc 4 1, 3) := by decide +kernel
theorem dX10_fits_144 : decode cX10_fits 144 = .ok (.goto (-72), 3) := by decide +kernel
theorem dX10_fits_147 : decode cX10_fits 147 = .ok (.iload_n 3, 1) := by decide +kernel
theorem dX10_fits_148 : decode cX10_fits 148 = .ok (.ireturn, 1) := by decide +kernel
theorem dX10_isCase_0 : decode cX10_isCase 0 = .ok (.aload_n 0, 1) := by decide +kernel
theorem dX10_isCase_1 : decode cX10_isCase 1 = .ok (.invokevirtual 382, 3) := by decide +kernel
theorem dX10_isCase_4 : decode cX10_isCase 4 = .ok (.aload_n 0, 1) := by decide +kernel
theorem dX10_isCase_5 : decode cX10_isCase 5 = .ok (.iload_n 1, 1) := by decide +kernel
theorem dX10_isCase_6 : decode cX10_isCase 6 = .ok (.invokevirtual 533, 3) := by decide +kernel
theorem dX10_isCase_9 : decode cX10_isCase 9 = .ok (.ireturn, 1) := by decide +kernel
theorem dX10_wrong_0 : decode cX10_wrong 0 = .ok (.iload_n 1, 1) := by decide +kernel
theorem dX10_wrong_1 : decode cX10_wrong 1 = .ok (.iconst 0, 1) := by decide +kernel
theorem dX10_wrong_2 : decode cX10_wrong 2 = .ok (.iconst 2, 1) := by decide +kernel
theorem dX10_wrong_3 : decode cX10_wrong 3 = .ok (.invokestatic 378, 3) := by decide +kernel
theorem dX10_wrong_6 : decode cX10_wrong 6 = .ok (.ifCond .ne 5, 3) := by decide +kernel
theorem dX10_wrong_9 : decode cX10_wrong 9 = .ok (.iconst (-1), 1) := by decide +kernel
theorem dX10_wrong_10 : decode cX10_wrong 10 = .ok (.ireturn, 1) := by decide +kernel
theorem dX10_wrong_11 : decode cX10_wrong 11 = .ok (.iload_n 1, 1) := by decide +kernel
theorem dX10_wrong_12 : decode cX10_wrong 12 = .ok (.ifCond .ne 17, 3) := by decide +kernel
theorem dX10_wrong_15 : decode cX10_wrong 15 = .ok (.aload_n 0, 1) := by decide +kernel
theorem dX10_wrong_16 : decode cX10_wrong 16 = .ok (.iload_n 2, 1) := by decide +kernel
theorem dX10_wrong_17 : decode cX10_wrong 17 = .ok (.invokevirtual 539, 3) := by decide +kernel
theorem dX10_wrong_20 : decode cX10_wrong 20 = .ok (.ifCond .eq 7, 3) := by decide +kernel
theorem dX10_wrong_23 : decode cX10_wrong 23 = .ok (.iconst 1, 1) := by decide +kernel
theorem dX10_wrong_24 : decode cX10_wrong 24 = .ok (.goto 4, 3) := by decide +kernel
theorem dX10_wrong_27 : decode cX10_wrong 27 = .ok (.iconst 0, 1) := by decide +kernel
theorem dX10_wrong_28 : decode cX10_wrong 28 = .ok (.ireturn, 1) := by decide +kernel
theorem dX10_wrong_29 : decode cX10_wrong 29 = .ok (.iconst 0, 1) := by decide +kernel
theorem dX10_wrong_30 : decode cX10_wrong 30 = .ok (.istore_n 3, 1) := by decide +kernel
theorem dX10_wrong_31 : decode cX10_wrong 31 = .ok (.iconst 0, 1) := by decide +kernel
theorem dX10_wrong_32 : decode cX10_wrong 32 = .ok (.istore 4, 2) := by decide +kernel
theorem dX10_wrong_34 : decode cX10_wrong 34 = .ok (.iload 4, 2) := by decide +kernel
theorem dX10_wrong_36 : decode cX10_wrong 36 = .ok (.aload_n 0, 1) := by decide +kernel
theorem dX10_wrong_37 : decode cX10_wrong 37 = .ok (.invokevirtual 375, 3) := by decide +kernel
theorem dX10_wrong_40 : decode cX10_wrong 40 = .ok (.if_icmp .ge 48, 3) := by decide +kernel
theorem dX10_wrong_43 : decode cX10_wrong 43 = .ok (.iload_n 3, 1) := by decide +kernel
theorem dX10_wrong_44 : decode cX10_wrong 44 = .ok (.iload_n 1, 1) := by decide +kernel
theorem dX10_wrong_45 : decode cX10_wrong 45 = .ok (.iconst 1, 1) := by decide +kernel
theorem dX10_wrong_46 : decode cX10_wrong 46 = .ok (.if_icmp .ne 16, 3) := by decide +kernel
theorem dX10_wrong_49 : decode cX10_wrong 49 = .ok (.aload_n 0, 1) := by decide +kernel
theorem dX10_wrong_50 : decode cX10_wrong 50 = .ok (.iload 4, 2) := by decide +kernel
theorem dX10_wrong_52 : decode cX10_wrong 52 = .ok (.iload_n 2, 1) := by decide +kernel
theorem dX10_wrong_53 : decode cX10_wrong 53 = .ok (.invokevirtual 542, 3) := by decide +kernel
theorem dX10_wrong_56 : decode cX10_wrong 56 = .ok (.ifCond .eq 23, 3) := by decide +kernel
theorem dX10_wrong_59 : decode cX10_wrong 59 = .ok (.goto 13, 3) := by decide +kernel
theorem dX10_wrong_62 : decode cX10_wrong 62 = .ok (.aload_n 0, 1) := by decide +kernel
theorem dX10_wrong_63 : decode cX10_wrong 63 = .ok (.iload 4, 2) := by decide +kernel
theorem dX10_wrong_65 : decode cX10_wrong 65 = .ok (.iload_n 2, 1) := by decide +kernel
theorem dX10_wrong_66 : decode cX10_wrong 66 = .ok (.invokevirtual 545, 3) := by decide +kernel
theorem dX10_wrong_69 : decode cX10_wrong 69 = .ok (.ifCond .eq 10, 3) := by decide +kernel
theorem dX10_wrong_72 : decode cX10_wrong 72 = .ok (.iconst 1, 1) := by decide +kernel
theorem dX10_wrong_73 : decode cX10_wrong 73 = .ok (.iload 4, 2) := by decide +kernel
theorem dX10_wrong_75 : decode cX10_wrong 75 = .ok (.ishl, 1) := by decide +kernel
theorem dX10_wrong_76 : decode cX10_wrong 76 = .ok (.goto 4, 3) := by decide +kernel
theorem dX10_wrong_79 : decode cX10_wrong 79 = .ok (.iconst 0, 1) := by decide +kernel
theorem dX10_wrong_80 : decode cX10_wrong 80 = .ok (.ior, 1) := by decide +kernel
theorem dX10_wrong_81 : decode cX10_wrong 81 = .ok (.istore_n 3, 1) := by decide +kernel
theorem dX10_wrong_82 : decode cX10_wrong 82 = .ok (.iinc 4 1, 3) := by decide +kernel
theorem dX10_wrong_85 : decode cX10_wrong 85 = .ok (.goto (-51), 3) := by decide +kernel
theorem dX10_wrong_88 : decode cX10_wrong 88 = .ok (.iload_n 3, 1) := by decide +kernel
theorem dX10_wrong_89 : decode cX10_wrong 89 = .ok (.ireturn, 1) := by decide +kernel
theorem dX10_image_0 : decode cX10_image 0 = .ok (.iload_n 1, 1) := by decide +kernel
theorem dX10_image_1 : decode cX10_image 1 = .ok (.iconst 0, 1) := by decide +kernel
theorem dX10_image_2 : decode cX10_image 2 = .ok (.iconst 2, 1) := by decide +kernel
theorem dX10_image_3 : decode cX10_image 3 = .ok (.invokestatic 378, 3) := by decide +kernel
theorem dX10_image_6 : decode cX10_image 6 = .ok (.ifCond .ne 5, 3) := by decide +kernel
theorem dX10_image_9 : decode cX10_image 9 = .ok (.iconst (-1), 1) := by decide +kernel
theorem dX10_image_10 : decode cX10_image 10 = .ok (.ireturn, 1) := by decide +kernel
theorem dX10_image_11 : decode cX10_image 11 = .ok (.iconst 0, 1) := by decide +kernel
theorem dX10_image_12 : decode cX10_image 12 = .ok (.istore_n 2, 1) := by decide +kernel
theorem dX10_image_13 : decode cX10_image 13 = .ok (.iload_n 2, 1) := by decide +kernel
theorem dX10_image_14 : decode cX10_image 14 = .ok (.bipush 30, 2) := by decide +kernel
theorem dX10_image_16 : decode cX10_image 16 = .ok (.if_icmp .ge 26, 3) := by decide +kernel
theorem dX10_image_19 : decode cX10_image 19 = .ok (.aload_n 0, 1) := by decide +kernel
theorem dX10_image_20 : decode cX10_image 20 = .ok (.getfield 174, 3) := by decide +kernel
theorem dX10_image_23 : decode cX10_image 23 = .ok (.bipush 30, 2) := by decide +kernel
theorem dX10_image_25 : decode cX10_image 25 = .ok (.iload_n 1, 1) := by decide +kernel
theorem dX10_image_26 : decode cX10_image 26 = .ok (.imul, 1) := by decide +kernel
theorem dX10_image_27 : decode cX10_image 27 = .ok (.iload_n 2, 1) := by decide +kernel
theorem dX10_image_28 : decode cX10_image 28 = .ok (.iadd, 1) := by decide +kernel
theorem dX10_image_29 : decode cX10_image 29 = .ok (.aload_n 0, 1) := by decide +kernel
theorem dX10_image_30 : decode cX10_image 30 = .ok (.getfield 107, 3) := by decide +kernel
theorem dX10_image_33 : decode cX10_image 33 = .ok (.iload_n 2, 1) := by decide +kernel
theorem dX10_image_34 : decode cX10_image 34 = .ok (.iaload, 1) := by decide +kernel
theorem dX10_image_35 : decode cX10_image 35 = .ok (.iastore, 1) := by decide +kernel
theorem dX10_image_36 : decode cX10_image 36 = .ok (.iinc 2 1, 3) := by decide +kernel
theorem dX10_image_39 : decode cX10_image 39 = .ok (.goto (-26), 3) := by decide +kernel
theorem dX10_image_42 : decode cX10_image 42 = .ok (.aload_n 0, 1) := by decide +kernel
theorem dX10_image_43 : decode cX10_image 43 = .ok (.getfield 171, 3) := by decide +kernel
theorem dX10_image_46 : decode cX10_image 46 = .ok (.iload_n 1, 1) := by decide +kernel
theorem dX10_image_47 : decode cX10_image 47 = .ok (.aload_n 0, 1) := by decide +kernel
theorem dX10_image_48 : decode cX10_image 48 = .ok (.getfield 388, 3) := by decide +kernel
theorem dX10_image_51 : decode cX10_image 51 = .ok (.iastore, 1) := by decide +kernel
theorem dX10_image_52 : decode cX10_image 52 = .ok (.aload_n 0, 1) := by decide +kernel
theorem dX10_image_53 : decode cX10_image 53 = .ok (.getfield 388, 3) := by decide +kernel
theorem dX10_image_56 : decode cX10_image 56 = .ok (.ireturn, 1) := by decide +kernel
theorem dX10_back_0 : decode cX10_back 0 = .ok (.iload_n 1, 1) := by decide +kernel
theorem dX10_back_1 : decode cX10_back 1 = .ok (.iconst 0, 1) := by decide +kernel
theorem dX10_back_2 : decode cX10_back 2 = .ok (.iconst 2, 1) := by decide +kernel
theorem dX10_back_3 : decode cX10_back 3 = .ok (.invokestatic 378, 3) := by decide +kernel
theorem dX10_back_6 : decode cX10_back 6 = .ok (.ifCond .eq 12, 3) := by decide +kernel
theorem dX10_back_9 : decode cX10_back 9 = .ok (.aload_n 0, 1) := by decide +kernel
theorem dX10_back_10 : decode cX10_back 10 = .ok (.getfield 171, 3) := by decide +kernel
theorem dX10_back_13 : decode cX10_back 13 = .ok (.iload_n 1, 1) := by decide +kernel
theorem dX10_back_14 : decode cX10_back 14 = .ok (.iaload, 1) := by decide +kernel
theorem dX10_back_15 : decode cX10_back 15 = .ok (.ifCond .ge 5, 3) := by decide +kernel
theorem dX10_back_18 : decode cX10_back 18 = .ok (.iconst (-1), 1) := by decide +kernel
theorem dX10_back_19 : decode cX10_back 19 = .ok (.ireturn, 1) := by decide +kernel
theorem dX10_back_20 : decode cX10_back 20 = .ok (.iconst 0, 1) := by decide +kernel
theorem dX10_back_21 : decode cX10_back 21 = .ok (.istore_n 2, 1) := by decide +kernel
theorem dX10_back_22 : decode cX10_back 22 = .ok (.iload_n 2, 1) := by decide +kernel
theorem dX10_back_23 : decode cX10_back 23 = .ok (.bipush 30, 2) := by decide +kernel
theorem dX10_back_25 : decode cX10_back 25 = .ok (.if_icmp .ge 26, 3) := by decide +kernel
theorem dX10_back_28 : decode cX10_back 28 = .ok (.aload_n 0, 1) := by decide +kernel
theorem dX10_back_29 : decode cX10_back 29 = .ok (.getfield 107, 3) := by decide +kernel
theorem dX10_back_32 : decode cX10_back 32 = .ok (.iload_n 2, 1) := by decide +kernel
theorem dX10_back_33 : decode cX10_back 33 = .ok (.aload_n 0, 1) := by decide +kernel
theorem dX10_back_34 : decode cX10_back 34 = .ok (.getfield 174, 3) := by decide +kernel
theorem dX10_back_37 : decode cX10_back 37 = .ok (.bipush 30, 2) := by decide +kernel
theorem dX10_back_39 : decode cX10_back 39 = .ok (.iload_n 1, 1) := by decide +kernel
theorem dX10_back_40 : decode cX10_back 40 = .ok (.imul, 1) := by decide +kernel
theorem dX10_back_41 : decode cX10_back 41 = .ok (.iload_n 2, 1) := by decide +kernel
theorem dX10_back_42 : decode cX10_back 42 = .ok (.iadd, 1) := by decide +kernel
theorem dX10_back_43 : decode cX10_back 43 = .ok (.iaload, 1) := by decide +kernel
theorem dX10_back_44 : decode cX10_back 44 = .ok (.iastore, 1) := by decide +kernel
theorem dX10_back_45 : decode cX10_back 45 = .ok (.iinc 2 1, 3) := by decide +kernel
theorem dX10_back_48 : decode cX10_back 48 = .ok (.goto (-26), 3) := by decide +kernel
theorem dX10_back_51 : decode cX10_back 51 = .ok (.aload_n 0, 1) := by decide +kernel
theorem dX10_back_52 : decode cX10_back 52 = .ok (.aload_n 0, 1) := by decide +kernel
theorem dX10_back_53 : decode cX10_back 53 = .ok (.getfield 171, 3) := by decide +kernel
theorem dX10_back_56 : decode cX10_back 56 = .ok (.iload_n 1, 1) := by decide +kernel
theorem dX10_back_57 : decode cX10_back 57 = .ok (.iaload, 1) := by decide +kernel
theorem dX10_back_58 : decode cX10_back 58 = .ok (.putfield 388, 3) := by decide +kernel
theorem dX10_back_61 : decode cX10_back 61 = .ok (.aload_n 0, 1) := by decide +kernel
theorem dX10_back_62 : decode cX10_back 62 = .ok (.iconst 0, 1) := by decide +kernel
theorem dX10_back_63 : decode cX10_back 63 = .ok (.putfield 391, 3) := by decide +kernel
theorem dX10_back_66 : decode cX10_back 66 = .ok (.aload_n 0, 1) := by decide +kernel
theorem dX10_back_67 : decode cX10_back 67 = .ok (.iconst 0, 1) := by decide +kernel
theorem dX10_back_68 : decode cX10_back 68 = .ok (.putfield 394, 3) := by decide +kernel
theorem dX10_back_71 : decode cX10_back 71 = .ok (.aload_n 0, 1) := by decide +kernel
theorem dX10_back_72 : decode cX10_back 72 = .ok (.getfield 388, 3) := by decide +kernel
theorem dX10_back_75 : decode cX10_back 75 = .ok (.ireturn, 1) := by decide +kernel
theorem dX10_about_0 : decode cX10_about 0 = .ok (.iload_n 1, 1) := by decide +kernel
theorem dX10_about_1 : decode cX10_about 1 = .ok (.tableswitch 160 0 12 #[67, 72, 82, 92, 97, 102, 107, 112, 117, 122, 132, 150, 155], 67) := by decide +kernel
theorem dX10_about_68 : decode cX10_about 68 = .ok (.aload_n 0, 1) := by decide +kernel
theorem dX10_about_69 : decode cX10_about 69 = .ok (.invokevirtual 375, 3) := by decide +kernel
theorem dX10_about_72 : decode cX10_about 72 = .ok (.ireturn, 1) := by decide +kernel
theorem dX10_about_73 : decode cX10_about 73 = .ok (.aload_n 0, 1) := by decide +kernel
theorem dX10_about_74 : decode cX10_about 74 = .ok (.getfield 20, 3) := by decide +kernel
theorem dX10_about_77 : decode cX10_about 77 = .ok (.aload_n 0, 1) := by decide +kernel
theorem dX10_about_78 : decode cX10_about 78 = .ok (.getfield 282, 3) := by decide +kernel
theorem dX10_about_81 : decode cX10_about 81 = .ok (.iaload, 1) := by decide +kernel
theorem dX10_about_82 : decode cX10_about 82 = .ok (.ireturn, 1) := by decide +kernel
theorem dX10_about_83 : decode cX10_about 83 = .ok (.aload_n 0, 1) := by decide +kernel
theorem dX10_about_84 : decode cX10_about 84 = .ok (.getfield 27, 3) := by decide +kernel
theorem dX10_about_87 : decode cX10_about 87 = .ok (.aload_n 0, 1) := by decide +kernel
theorem dX10_about_88 : decode cX10_about 88 = .ok (.getfield 282, 3) := by decide +kernel
theorem dX10_about_91 : decode cX10_about 91 = .ok (.iaload, 1) := by decide +kernel
theorem dX10_about_92 : decode cX10_about 92 = .ok (.ireturn, 1) := by decide +kernel
theorem dX10_about_93 : decode cX10_about 93 = .ok (.aload_n 0, 1) := by decide +kernel
theorem dX10_about_94 : decode cX10_about 94 = .ok (.getfield 388, 3) := by decide +kernel
theorem dX10_about_97 : decode cX10_about 97 = .ok (.ireturn, 1) := by decide +kernel
theorem dX10_about_98 : decode cX10_about 98 = .ok (.aload_n 0, 1) := by decide +kernel
theorem dX10_about_99 : decode cX10_about 99 = .ok (.getfield 391, 3) := by decide +kernel
theorem dX10_about_102 : decode cX10_about 102 = .ok (.ireturn, 1) := by decide +kernel
theorem dX10_about_103 : decode cX10_about 103 = .ok (.aload_n 0, 1) := by decide +kernel
theorem dX10_about_104 : decode cX10_about 104 = .ok (.getfield 394, 3) := by decide +kernel
theorem dX10_about_107 : decode cX10_about 107 = .ok (.ireturn, 1) := by decide +kernel
theorem dX10_about_108 : decode cX10_about 108 = .ok (.aload_n 0, 1) := by decide +kernel
theorem dX10_about_109 : decode cX10_about 109 = .ok (.getfield 291, 3) := by decide +kernel
theorem dX10_about_112 : decode cX10_about 112 = .ok (.ireturn, 1) := by decide +kernel
theorem dX10_about_113 : decode cX10_about 113 = .ok (.aload_n 0, 1) := by decide +kernel
theorem dX10_about_114 : decode cX10_about 114 = .ok (.getfield 524, 3) := by decide +kernel
theorem dX10_about_117 : decode cX10_about 117 = .ok (.ireturn, 1) := by decide +kernel
theorem dX10_about_118 : decode cX10_about 118 = .ok (.aload_n 0, 1) := by decide +kernel
theorem dX10_about_119 : decode cX10_about 119 = .ok (.getfield 279, 3) := by decide +kernel
theorem dX10_about_122 : decode cX10_about 122 = .ok (.ireturn, 1) := by decide +kernel
theorem dX10_about_123 : decode cX10_about 123 = .ok (.aload_n 0, 1) := by decide +kernel
theorem dX10_about_124 : decode cX10_about 124 = .ok (.getfield 30, 3) := by decide +kernel
theorem dX10_about_127 : decode cX10_about 127 = .ok (.aload_n 0, 1) := by decide +kernel
theorem dX10_about_128 : decode cX10_about 128 = .ok (.getfield 282, 3) := by decide +kernel
theorem dX10_about_131 : decode cX10_about 131 = .ok (.iaload, 1) := by decide +kernel
theorem dX10_about_132 : decode cX10_about 132 = .ok (.ireturn, 1) := by decide +kernel
theorem dX10_about_133 : decode cX10_about 133 = .ok (.aload_n 0, 1) := by decide +kernel
theorem dX10_about_134 : decode cX10_about 134 = .ok (.getfield 64, 3) := by decide +kernel
theorem dX10_about_137 : decode cX10_about 137 = .ok (.aload_n 0, 1) := by decide +kernel
theorem dX10_about_138 : decode cX10_about 138 = .ok (.getfield 282, 3) := by decide +kernel
theorem dX10_about_141 : decode cX10_about 141 = .ok (.baload, 1) := by decide +kernel
theorem dX10_about_142 : decode cX10_about 142 = .ok (.ifCond .eq 7, 3) := by decide +kernel
theorem dX10_about_145 : decode cX10_about 145 = .ok (.iconst 1, 1) := by decide +kernel
theorem dX10_about_146 : decode cX10_about 146 = .ok (.goto 4, 3) := by decide +kernel
theorem dX10_about_149 : decode cX10_about 149 = .ok (.iconst 0, 1) := by decide +kernel
theorem dX10_about_150 : decode cX10_about 150 = .ok (.ireturn, 1) := by decide +kernel
theorem dX10_about_151 : decode cX10_about 151 = .ok (.aload_n 0, 1) := by decide +kernel
theorem dX10_about_152 : decode cX10_about 152 = .ok (.getfield 297, 3) := by decide +kernel
theorem dX10_about_155 : decode cX10_about 155 = .ok (.ireturn, 1) := by decide +kernel
theorem dX10_about_156 : decode cX10_about 156 = .ok (.aload_n 0, 1) := by decide +kernel
theorem dX10_about_157 : decode cX10_about 157 = .ok (.getfield 294, 3) := by decide +kernel
theorem dX10_about_160 : decode cX10_about 160 = .ok (.ireturn, 1) := by decide +kernel
theorem dX10_about_161 : decode cX10_about 161 = .ok (.iconst (-1), 1) := by decide +kernel
theorem dX10_about_162 : decode cX10_about 162 = .ok (.ireturn, 1) := by decide +kernel
theorem dX10_feed_0 : decode cX10_feed 0 = .ok (.aload_n 0, 1) := by decide +kernel
theorem dX10_feed_1 : decode cX10_feed 1 = .ok (.getfield 279, 3) := by decide +kernel
theorem dX10_feed_4 : decode cX10_feed 4 = .ok (.bipush 20, 2) := by decide +kernel
theorem dX10_feed_6 : decode cX10_feed 6 = .ok (.iadd, 1) := by decide +kernel
theorem dX10_feed_7 : decode cX10_feed 7 = .ok (.sipush 1600, 3) := by decide +kernel
theorem dX10_feed_10 : decode cX10_feed 10 = .ok (.if_icmp .le 5, 3) := by decide +kernel
theorem dX10_feed_13 : decode cX10_feed 13 = .ok (.iconst (-1), 1) := by decide +kernel
theorem dX10_feed_14 : decode cX10_feed 14 = .ok (.ireturn, 1) := by decide +kernel
theorem dX10_feed_15 : decode cX10_feed 15 = .ok (.iconst 0, 1) := by decide +kernel
theorem dX10_feed_16 : decode cX10_feed 16 = .ok (.istore 6, 2) := by decide +kernel
theorem dX10_feed_18 : decode cX10_feed 18 = .ok (.iload 6, 2) := by decide +kernel
theorem dX10_feed_20 : decode cX10_feed 20 = .ok (.bipush 20, 2) := by decide +kernel
theorem dX10_feed_22 : decode cX10_feed 22 = .ok (.if_icmp .ge 83, 3) := by decide +kernel
theorem dX10_feed_25 : decode cX10_feed 25 = .ok (.iload 6, 2) := by decide +kernel
theorem dX10_feed_27 : decode cX10_feed 27 = .ok (.iconst 4, 1) := by decide +kernel
theorem dX10_feed_28 : decode cX10_feed 28 = .ok (.if_icmp .ge 7, 3) := by decide +kernel
theorem dX10_feed_31 : decode cX10_feed 31 = .ok (.iload_n 1, 1) := by decide +kernel
theorem dX10_feed_32 : decode cX10_feed 32 = .ok (.goto 39, 3) := by decide +kernel
theorem dX10_feed_35 : decode cX10_feed 35 = .ok (.iload 6, 2) := by decide +kernel
theorem dX10_feed_37 : decode cX10_feed 37 = .ok (.bipush 8, 2) := by decide +kernel
theorem dX10_feed_39 : decode cX10_feed 39 = .ok (.if_icmp .ge 7, 3) := by decide +kernel
theorem dX10_feed_42 : decode cX10_feed 42 = .ok (.iload_n 2, 1) := by decide +kernel
theorem dX10_feed_43 : decode cX10_feed 43 = .ok (.goto 28, 3) := by decide +kernel
theorem dX10_feed_46 : decode cX10_feed 46 = .ok (.iload 6, 2) := by decide +kernel
theorem dX10_feed_48 : decode cX10_feed 48 = .ok (.bipush 12, 2) := by decide +kernel
theorem dX10_feed_50 : decode cX10_feed 50 = .ok (.if_icmp .ge 7, 3) := by decide +kernel
theorem dX10_feed_53 : decode cX10_feed 53 = .ok (.iload_n 3, 1) := by decide +kernel
theorem dX10_feed_54 : decode cX10_feed 54 = .ok (.goto 17, 3) := by decide +kernel
theorem dX10_feed_57 : decode cX10_feed 57 = .ok (.iload 6, 2) := by decide +kernel
theorem dX10_feed_59 : decode cX10_feed 59 = .ok (.bipush 16, 2) := by decide +kernel
theorem dX10_feed_61 : decode cX10_feed 61 = .ok (.if_icmp .ge 8, 3) := by decide +kernel
theorem dX10_feed_64 : decode cX10_feed 64 = .ok (.iload 4, 2) := by decide +kernel
theorem dX10_feed_66 : decode cX10_feed 66 = .ok (.goto 5, 3) := by decide +kernel
theorem dX10_feed_69 : decode cX10_feed 69 = .ok (.iload 5, 2) := by decide +kernel
theorem dX10_feed_71 : decode cX10_feed 71 = .ok (.istore 7, 2) := by decide +kernel
theorem dX10_feed_73 : decode cX10_feed 73 = .ok (.aload_n 0, 1) := by decide +kernel
theorem dX10_feed_74 : decode cX10_feed 74 = .ok (.getfield 7, 3) := by decide +kernel
theorem dX10_feed_77 : decode cX10_feed 77 = .ok (.aload_n 0, 1) := by decide +kernel
theorem dX10_feed_78 : decode cX10_feed 78 = .ok (.getfield 279, 3) := by decide +kernel
theorem dX10_feed_81 : decode cX10_feed 81 = .ok (.iload 6, 2) := by decide +kernel
theorem dX10_feed_83 : decode cX10_feed 83 = .ok (.iadd, 1) := by decide +kernel
theorem dX10_feed_84 : decode cX10_feed 84 = .ok (.iload 7, 2) := by decide +kernel
theorem dX10_feed_86 : decode cX10_feed 86 = .ok (.bipush 24, 2) := by decide +kernel
theorem dX10_feed_88 : decode cX10_feed 88 = .ok (.bipush 8, 2) := by decide +kernel
theorem dX10_feed_90 : decode cX10_feed 90 = .ok (.iload 6, 2) := by decide +kernel
theorem dX10_feed_92 : decode cX10_feed 92 = .ok (.iconst 3, 1) := by decide +kernel
theorem dX10_feed_93 : decode cX10_feed 93 = .ok (.iand, 1) := by decide +kernel
theorem dX10_feed_94 : decode cX10_feed 94 = .ok (.imul, 1) := by decide +kernel
theorem dX10_feed_95 : decode cX10_feed 95 = .ok (.isub, 1) := by decide +kernel
theorem dX10_feed_96 : decode cX10_feed 96 = .ok (.ishr, 1) := by decide +kernel
theorem dX10_feed_97 : decode cX10_feed 97 = .ok (.i2b, 1) := by decide +kernel
theorem dX10_feed_98 : decode cX10_feed 98 = .ok (.bastore, 1) := by decide +kernel
theorem dX10_feed_99 : decode cX10_feed 99 = .ok (.iinc 6 1, 3) := by decide +kernel
theorem dX10_feed_102 : decode cX10_feed 102 = .ok (.goto (-84), 3) := by decide +kernel
theorem dX10_feed_105 : decode cX10_feed 105 = .ok (.aload_n 0, 1) := by decide +kernel
theorem dX10_feed_106 : decode cX10_feed 106 = .ok (.dup, 1) := by decide +kernel
theorem dX10_feed_107 : decode cX10_feed 107 = .ok (.getfield 279, 3) := by decide +kernel
theorem dX10_feed_110 : decode cX10_feed 110 = .ok (.bipush 20, 2) := by decide +kernel
theorem dX10_feed_112 : decode cX10_feed 112 = .ok (.iadd, 1) := by decide +kernel
theorem dX10_feed_113 : decode cX10_feed 113 = .ok (.putfield 279, 3) := by decide +kernel
theorem dX10_feed_116 : decode cX10_feed 116 = .ok (.aload_n 0, 1) := by decide +kernel
theorem dX10_feed_117 : decode cX10_feed 117 = .ok (.getfield 279, 3) := by decide +kernel
theorem dX10_feed_120 : decode cX10_feed 120 = .ok (.ireturn, 1) := by decide +kernel
set_option maxHeartbeats 4000000 in
set_option maxRecDepth 100000 in
theorem k_X10_layNow (l : Launch) (D : va_G) (cyB cyI cyJ cyZ : ClassId) (sz : Nat) (o : Nat) (fs : List Value) (rw : Nat) (nw : Nat) (frw : Nat → Int32) (fnw : Nat → Int32) (hl_fs : fs.length = 80) (h_fs_43 : fs[43]? = some (.ref rw)) (h_fs_45 : fs[45]? = some (.ref nw)) : KV l yX10_layNow cX10_layNow 2 0 0 0 D (TYS cyB cyI cyJ cyZ) [(o, .inr (10, fs)), (rw, .inl (cyI, 30, .inl frw)), (nw, .inl (cyI, 30, .inl fnw))] sz [.ref o] (fun (u : (Nat → Int32)) => True) (fun (u : (Nat → Int32)) => ([(o, .inr (10, fs)), (rw, .inl (cyI, 30, .inl u)), (nw, .inl (cyI, 30, .inl fnw))] : va_W)) := by
  refine entV (by decide) (Nat.le_of_ble_eq_true rfl) ?_
  intro p e s m below meth c ls A hC hl hP hK hD hA
  obtain ⟨hx, hb, hr, hml, hown, hts, hlk, hnm⟩ := id hC
  have hS : va_S A s.heap s.heap [] := va_S.rf
  have hl : lv_has ls 2 [(0, .ref o)] := hl
  generalize hHe : s.heap = H at hP ⊢
  rw [hHe] at hS
  have hS : va_S A s.heap H [] := by rw [hHe]; exact hS
  refine lv_iconst (v := 0) hx hb dX10_layNow_0 (by decide) ?_
  refine lv_istore_n (lv' := [(1, .int 0), (0, .ref o)]) hx hb dX10_layNow_1 rfl hl (by decide) rfl (fun ls hl => ?_)
  have lp : ∀ (n i : Nat) (g0 : Nat → Int32) (H : Heap) (locs : List Loc) (ls : Array Slot), i + n = 30 → lv_has ls 2 [(1, .int (nI i)), (0, .ref o)] → va_P D classes [(o, .inr (10, fs)), (rw, .inl (cyI, 30, .inl g0)), (nw, .inl (cyI, 30, .inl fnw))] H → va_D A [(o, .inr (10, fs)), (rw, .inl (cyI, 30, .inl g0)), (nw, .inl (cyI, 30, .inl fnw))] → va_S A s.heap H locs → W p l e (rmK 0 0 0) s m ([.ref o] : List Value).toArray below meth c H locs 0 0 (MQ below (va_Qv (fun (u : (Nat → Int32)) => True) (fun u => Aft D A ((fun (u : (Nat → Int32)) => ([(o, .inr (10, fs)), (rw, .inl (cyI, 30, .inl u)), (nw, .inl (cyI, 30, .inl fnw))] : va_W)) u)) A) ([.ref o] : List Value).toArray s 0 0 A) (F0 m 2 ls []) := by
    intro n
    induction n with
    | zero =>
      intro i g0 H locs ls hi hl hP hD hS
      obtain rfl : i = 30 := by omega
      refine lv_iload_n hx hb dX10_layNow_2 rfl (lv_at hl 0 rfl) ?_
      refine lv_bipush (v := 30) hx hb dX10_layNow_3 (by decide) ?_
      refine lv_icmp_ge (tgt := 26) hx hb dX10_layNow_5 (by decide) (fun c_1 => ?_) (fun c_1 => absurd (by decide) c_1)
      exact retV hC hP hD hS (by decide) (by decide) g0 [0, 1, 2] rfl rfl trivial dX10_layNow_26
    | succ n ih =>
      intro i g0 H locs ls hi hl hP hD hS
      have hlt : i < 30 := by omega
      refine lv_iload_n hx hb dX10_layNow_2 rfl (lv_at hl 0 rfl) ?_
      refine lv_bipush (v := 30) hx hb dX10_layNow_3 (by decide) ?_
      refine lv_icmp_ge (tgt := 26) hx hb dX10_layNow_5 (by decide) (fun c_2 => absurd c_2 (nI_ge (b := 30) hlt (by decide))) (fun c_2 => ?_)
      refine lv_aload_n hx hb dX10_layNow_8 rfl (lv_at hl 1 rfl) ?_
      refine gf hC hK hP iX10 0 rfl rfl 43 (by decide) mw_fieldLink_RX10_101_MirrorDrillModel_row_I h_fs_43 dX10_layNow_9 ?_
      refine lv_iload_n hx hb dX10_layNow_12 rfl (lv_at hl 0 rfl) ?_
      refine lv_aload_n hx hb dX10_layNow_13 rfl (lv_at hl 1 rfl) ?_
      refine gf hC hK hP iX10 0 rfl rfl 45 (by decide) mw_fieldLink_RX10_107_MirrorDrillModel_now_I h_fs_45 dX10_layNow_14 ?_
      refine lv_iload_n hx hb dX10_layNow_17 rfl (lv_at hl 0 rfl) ?_
      refine va_iald hx hb hK hP 2 1 rfl rfl (vp_in_nI (by omega) (by decide)) dX10_layNow_18 ?_
      refine lv_topi (fun x_3 ex_3 => ?_)
      refine va_iast hx hb hK hP hD hS 1 1 rfl rfl (vp_in_nI (by omega) (by decide)) dX10_layNow_19 (fun H locs hP hD hS => ?_)
      obtain ⟨f_4, ef_4⟩ : ∃ g : Nat → Int32, g = upd g0 (((nI i) : Int32).toNatClampNeg) x_3 := ⟨_, rfl⟩
      rw [← ef_4] at hP hD
      have hP : va_P D classes [(o, .inr (10, fs)), (rw, .inl (cyI, 30, .inl f_4)), (nw, .inl (cyI, 30, .inl fnw))] H := hP
      have hD : va_D A [(o, .inr (10, fs)), (rw, .inl (cyI, 30, .inl f_4)), (nw, .inl (cyI, 30, .inl fnw))] := hD
      refine lv_iinc (v := (nI (i + 1))) (lv' := [(1, .int (nI (i + 1))), (0, .ref o)]) hx hb dX10_layNow_20 hl (k := 0) rfl (nI_1 _) (by decide) rfl (fun ls hl => ?_)
      refine lv_goto (tgt := 2) hx hb dX10_layNow_23 (by decide) ?_
      exact ih (i + 1) f_4 _ _ _ (by omega) (lv_sub hl [0, 1] rfl) hP hD hS
  exact lp 30 0 frw _ _ _ (by decide) hl hP hD hS
set_option maxHeartbeats 4000000 in
set_option maxRecDepth 100000 in
theorem k_X10_keepNow (l : Launch) (D : va_G) (cyB cyI cyJ cyZ : ClassId) (sz : Nat) (o : Nat) (fs : List Value) (rw : Nat) (nw : Nat) (frw : Nat → Int32) (fnw : Nat → Int32) (hl_fs : fs.length = 80) (h_fs_43 : fs[43]? = some (.ref rw)) (h_fs_45 : fs[45]? = some (.ref nw)) : KV l yX10_keepNow cX10_keepNow 2 0 0 0 D (TYS cyB cyI cyJ cyZ) [(o, .inr (10, fs)), (rw, .inl (cyI, 30, .inl frw)), (nw, .inl (cyI, 30, .inl fnw))] sz [.ref o] (fun (u : (Nat → Int32)) => True) (fun (u : (Nat → Int32)) => ([(o, .inr (10, fs)), (rw, .inl (cyI, 30, .inl frw)), (nw, .inl (cyI, 30, .inl u))] : va_W)) := by
  refine entV (by decide) (Nat.le_of_ble_eq_true rfl) ?_
  intro p e s m below meth c ls A hC hl hP hK hD hA
  obtain ⟨hx, hb, hr, hml, hown, hts, hlk, hnm⟩ := id hC
  have hS : va_S A s.heap s.heap [] := va_S.rf
  have hl : lv_has ls 2 [(0, .ref o)] := hl
  generalize hHe : s.heap = H at hP ⊢
  rw [hHe] at hS
  have hS : va_S A s.heap H [] := by rw [hHe]; exact hS
  refine lv_iconst (v := 0) hx hb dX10_keepNow_0 (by decide) ?_
  refine lv_istore_n (lv' := [(1, .int 0), (0, .ref o)]) hx hb dX10_keepNow_1 rfl hl (by decide) rfl (fun ls hl => ?_)
  have lp : ∀ (n i : Nat) (g0 : Nat → Int32) (H : Heap) (locs : List Loc) (ls : Array Slot), i + n = 30 → lv_has ls 2 [(1, .int (nI i)), (0, .ref o)] → va_P D classes [(o, .inr (10, fs)), (rw, .inl (cyI, 30, .inl frw)), (nw, .inl (cyI, 30, .inl g0))] H → va_D A [(o, .inr (10, fs)), (rw, .inl (cyI, 30, .inl frw)), (nw, .inl (cyI, 30, .inl g0))] → va_S A s.heap H locs → W p l e (rmK 0 0 0) s m ([.ref o] : List Value).toArray below meth c H locs 0 0 (MQ below (va_Qv (fun (u : (Nat → Int32)) => True) (fun u => Aft D A ((fun (u : (Nat → Int32)) => ([(o, .inr (10, fs)), (rw, .inl (cyI, 30, .inl frw)), (nw, .inl (cyI, 30, .inl u))] : va_W)) u)) A) ([.ref o] : List Value).toArray s 0 0 A) (F0 m 2 ls []) := by
    intro n
    induction n with
    | zero =>
      intro i g0 H locs ls hi hl hP hD hS
      obtain rfl : i = 30 := by omega
      refine lv_iload_n hx hb dX10_keepNow_2 rfl (lv_at hl 0 rfl) ?_
      refine lv_bipush (v := 30) hx hb dX10_keepNow_3 (by decide) ?_
      refine lv_icmp_ge (tgt := 26) hx hb dX10_keepNow_5 (by decide) (fun c_1 => ?_) (fun c_1 => absurd (by decide) c_1)
      exact retV hC hP hD hS (by decide) (by decide) g0 [0, 1, 2] rfl rfl trivial dX10_keepNow_26
    | succ n ih =>
      intro i g0 H locs ls hi hl hP hD hS
      have hlt : i < 30 := by omega
      refine lv_iload_n hx hb dX10_keepNow_2 rfl (lv_at hl 0 rfl) ?_
      refine lv_bipush (v := 30) hx hb dX10_keepNow_3 (by decide) ?_
      refine lv_icmp_ge (tgt := 26) hx hb dX10_keepNow_5 (by decide) (fun c_2 => absurd c_2 (nI_ge (b := 30) hlt (by decide))) (fun c_2 => ?_)
      refine lv_aload_n hx hb dX10_keepNow_8 rfl (lv_at hl 1 rfl) ?_
      refine gf hC hK hP iX10 0 rfl rfl 45 (by decide) mw_fieldLink_RX10_107_MirrorDrillModel_now_I h_fs_45 dX10_keepNow_9 ?_
      refine lv_iload_n hx hb dX10_keepNow_12 rfl (lv_at hl 0 rfl) ?_
      refine lv_aload_n hx hb dX10_keepNow_13 rfl (lv_at hl 1 rfl) ?_
      refine gf hC hK hP iX10 0 rfl rfl 43 (by decide) mw_fieldLink_RX10_101_MirrorDrillModel_row_I h_fs_43 dX10_keepNow_14 ?_
      refine lv_iload_n hx hb dX10_keepNow_17 rfl (lv_at hl 0 rfl) ?_
      refine va_iald hx hb hK hP 1 1 rfl rfl (vp_in_nI (by omega) (by decide)) dX10_keepNow_18 ?_
      refine lv_topi (fun x_3 ex_3 => ?_)
      refine va_iast hx hb hK hP hD hS 2 1 rfl rfl (vp_in_nI (by omega) (by decide)) dX10_keepNow_19 (fun H locs hP hD hS => ?_)
      obtain ⟨f_4, ef_4⟩ : ∃ g : Nat → Int32, g = upd g0 (((nI i) : Int32).toNatClampNeg) x_3 := ⟨_, rfl⟩
      rw [← ef_4] at hP hD
      have hP : va_P D classes [(o, .inr (10, fs)), (rw, .inl (cyI, 30, .inl frw)), (nw, .inl (cyI, 30, .inl f_4))] H := hP
      have hD : va_D A [(o, .inr (10, fs)), (rw, .inl (cyI, 30, .inl frw)), (nw, .inl (cyI, 30, .inl f_4))] := hD
      refine lv_iinc (v := (nI (i + 1))) (lv' := [(1, .int (nI (i + 1))), (0, .ref o)]) hx hb dX10_keepNow_20 hl (k := 0) rfl (nI_1 _) (by decide) rfl (fun ls hl => ?_)
      refine lv_goto (tgt := 2) hx hb dX10_keepNow_23 (by decide) ?_
      exact ih (i + 1) f_4 _ _ _ (by omega) (lv_sub hl [0, 1] rfl) hP hD hS
  exact lp 30 0 fnw _ _ _ (by decide) hl hP hD hS
set_option maxHeartbeats 4000000 in
set_option maxRecDepth 100000 in
theorem k_X10_layFirst (l : Launch) (D : va_G) (cyB cyI cyJ cyZ : ClassId) (sz : Nat) (o : Nat) (fs : List Value) (rw : Nat) (fi : Nat) (frw : Nat → Int32) (ffi : Nat → Int32) (hl_fs : fs.length = 80) (h_fs_43 : fs[43]? = some (.ref rw)) (h_fs_20 : fs[20]? = some (.ref fi)) (h_fs_37 : fs[37]? = some (.int 0)) : KV l yX10_layFirst cX10_layFirst 2 0 0 0 D (TYS cyB cyI cyJ cyZ) [(o, .inr (10, fs)), (rw, .inl (cyI, 30, .inl frw)), (fi, .inl (cyI, 60, .inl ffi))] sz [.ref o] (fun (u : (Nat → Int32)) => True) (fun (u : (Nat → Int32)) => ([(o, .inr (10, fs)), (rw, .inl (cyI, 30, .inl u)), (fi, .inl (cyI, 60, .inl ffi))] : va_W)) := by
  refine entV (by decide) (Nat.le_of_ble_eq_true rfl) ?_
  intro p e s m below meth c ls A hC hl hP hK hD hA
  obtain ⟨hx, hb, hr, hml, hown, hts, hlk, hnm⟩ := id hC
  have hS : va_S A s.heap s.heap [] := va_S.rf
  have hl : lv_has ls 2 [(0, .ref o)] := hl
  generalize hHe : s.heap = H at hP ⊢
  rw [hHe] at hS
  have hS : va_S A s.heap H [] := by rw [hHe]; exact hS
  refine lv_iconst (v := 0) hx hb dX10_layFirst_0 (by decide) ?_
  refine lv_istore_n (lv' := [(1, .int 0), (0, .ref o)]) hx hb dX10_layFirst_1 rfl hl (by decide) rfl (fun ls hl => ?_)
  have lp : ∀ (n i : Nat) (g0 : Nat → Int32) (H : Heap) (locs : List Loc) (ls : Array Slot), i + n = 30 → lv_has ls 2 [(1, .int (nI i)), (0, .ref o)] → va_P D classes [(o, .inr (10, fs)), (rw, .inl (cyI, 30, .inl g0)), (fi, .inl (cyI, 60, .inl ffi))] H → va_D A [(o, .inr (10, fs)), (rw, .inl (cyI, 30, .inl g0)), (fi, .inl (cyI, 60, .inl ffi))] → va_S A s.heap H locs → W p l e (rmK 0 0 0) s m ([.ref o] : List Value).toArray below meth c H locs 0 0 (MQ below (va_Qv (fun (u : (Nat → Int32)) => True) (fun u => Aft D A ((fun (u : (Nat → Int32)) => ([(o, .inr (10, fs)), (rw, .inl (cyI, 30, .inl u)), (fi, .inl (cyI, 60, .inl ffi))] : va_W)) u)) A) ([.ref o] : List Value).toArray s 0 0 A) (F0 m 2 ls []) := by
    intro n
    induction n with
    | zero =>
      intro i g0 H locs ls hi hl hP hD hS
      obtain rfl : i = 30 := by omega
      refine lv_iload_n hx hb dX10_layFirst_2 rfl (lv_at hl 0 rfl) ?_
      refine lv_bipush (v := 30) hx hb dX10_layFirst_3 (by decide) ?_
      refine lv_icmp_ge (tgt := 34) hx hb dX10_layFirst_5 (by decide) (fun c_1 => ?_) (fun c_1 => absurd (by decide) c_1)
      exact retV hC hP hD hS (by decide) (by decide) g0 [0, 1, 2] rfl rfl trivial dX10_layFirst_34
    | succ n ih =>
      intro i g0 H locs ls hi hl hP hD hS
      have hlt : i < 30 := by omega
      refine lv_iload_n hx hb dX10_layFirst_2 rfl (lv_at hl 0 rfl) ?_
      refine lv_bipush (v := 30) hx hb dX10_layFirst_3 (by decide) ?_
      refine lv_icmp_ge (tgt := 34) hx hb dX10_layFirst_5 (by decide) (fun c_2 => absurd c_2 (nI_ge (b := 30) hlt (by decide))) (fun c_2 => ?_)
      refine lv_aload_n hx hb dX10_layFirst_8 rfl (lv_at hl 1 rfl) ?_
      refine gf hC hK hP iX10 0 rfl rfl 43 (by decide) mw_fieldLink_RX10_101_MirrorDrillModel_row_I h_fs_43 dX10_layFirst_9 ?_
      refine lv_iload_n hx hb dX10_layFirst_12 rfl (lv_at hl 0 rfl) ?_
      refine lv_aload_n hx hb dX10_layFirst_13 rfl (lv_at hl 1 rfl) ?_
      refine gf hC hK hP iX10 0 rfl rfl 20 (by decide) mw_fieldLink_RX10_48_MirrorDrillModel_first_I h_fs_20 dX10_layFirst_14 ?_
      refine lv_bipush (v := 30) hx hb dX10_layFirst_17 (by decide) ?_
      refine lv_aload_n hx hb dX10_layFirst_19 rfl (lv_at hl 1 rfl) ?_
      refine gf hC hK hP iX10 0 rfl rfl 37 (by decide) mw_fieldLink_RX10_282_MirrorDrillModel_bank_I h_fs_37 dX10_layFirst_20 ?_
      refine lv_imul hx hb dX10_layFirst_23 ?_
      refine lv_cst (v := 0) (by decide) ?_
      refine lv_iload_n hx hb dX10_layFirst_24 rfl (lv_at hl 0 rfl) ?_
      refine lv_iadd hx hb dX10_layFirst_25 ?_
      refine lv_cst (v := (nI i)) (Int32.zero_add _) ?_
      refine va_iald hx hb hK hP 2 1 rfl rfl (vp_in_nI (by omega) (by decide)) dX10_layFirst_26 ?_
      refine lv_topi (fun x_3 ex_3 => ?_)
      refine va_iast hx hb hK hP hD hS 1 1 rfl rfl (vp_in_nI (by omega) (by decide)) dX10_layFirst_27 (fun H locs hP hD hS => ?_)
      obtain ⟨f_4, ef_4⟩ : ∃ g : Nat → Int32, g = upd g0 (((nI i) : Int32).toNatClampNeg) x_3 := ⟨_, rfl⟩
      rw [← ef_4] at hP hD
      have hP : va_P D classes [(o, .inr (10, fs)), (rw, .inl (cyI, 30, .inl f_4)), (fi, .inl (cyI, 60, .inl ffi))] H := hP
      have hD : va_D A [(o, .inr (10, fs)), (rw, .inl (cyI, 30, .inl f_4)), (fi, .inl (cyI, 60, .inl ffi))] := hD
      refine lv_iinc (v := (nI (i + 1))) (lv' := [(1, .int (nI (i + 1))), (0, .ref o)]) hx hb dX10_layFirst_28 hl (k := 0) rfl (nI_1 _) (by decide) rfl (fun ls hl => ?_)
      refine lv_goto (tgt := 2) hx hb dX10_layFirst_31 (by decide) ?_
      exact ih (i + 1) f_4 _ _ _ (by omega) (lv_sub hl [0, 1] rfl) hP hD hS
  exact lp 30 0 frw _ _ _ (by decide) hl hP hD hS
set_option maxHeartbeats 4000000 in
set_option maxRecDepth 100000 in
theorem k_X10_layFirst1 (l : Launch) (D : va_G) (cyB cyI cyJ cyZ : ClassId) (sz : Nat) (o : Nat) (fs : List Value) (rw : Nat) (fi : Nat) (frw : Nat → Int32) (ffi : Nat → Int32) (hl_fs : fs.length = 80) (h_fs_43 : fs[43]? = some (.ref rw)) (h_fs_20 : fs[20]? = some (.ref fi)) (h_fs_37 : fs[37]? = some (.int 1)) : KV l yX10_layFirst cX10_layFirst 2 0 0 0 D (TYS cyB cyI cyJ cyZ) [(o, .inr (10, fs)), (rw, .inl (cyI, 30, .inl frw)), (fi, .inl (cyI, 60, .inl ffi))] sz [.ref o] (fun (u : (Nat → Int32)) => True) (fun (u : (Nat → Int32)) => ([(o, .inr (10, fs)), (rw, .inl (cyI, 30, .inl u)), (fi, .inl (cyI, 60, .inl ffi))] : va_W)) := by
  refine entV (by decide) (Nat.le_of_ble_eq_true rfl) ?_
  intro p e s m below meth c ls A hC hl hP hK hD hA
  obtain ⟨hx, hb, hr, hml, hown, hts, hlk, hnm⟩ := id hC
  have hS : va_S A s.heap s.heap [] := va_S.rf
  have hl : lv_has ls 2 [(0, .ref o)] := hl
  generalize hHe : s.heap = H at hP ⊢
  rw [hHe] at hS
  have hS : va_S A s.heap H [] := by rw [hHe]; exact hS
  refine lv_iconst (v := 0) hx hb dX10_layFirst_0 (by decide) ?_
  refine lv_istore_n (lv' := [(1, .int 0), (0, .ref o)]) hx hb dX10_layFirst_1 rfl hl (by decide) rfl (fun ls hl => ?_)
  have lp : ∀ (n i : Nat) (g0 : Nat → Int32) (H : Heap) (locs : List Loc) (ls : Array Slot), i + n = 30 → lv_has ls 2 [(1, .int (nI i)), (0, .ref o)] → va_P D classes [(o, .inr (10, fs)), (rw, .inl (cyI, 30, .inl g0)), (fi, .inl (cyI, 60, .inl ffi))] H → va_D A [(o, .inr (10, fs)), (rw, .inl (cyI, 30, .inl g0)), (fi, .inl (cyI, 60, .inl ffi))] → va_S A s.heap H locs → W p l e (rmK 0 0 0) s m ([.ref o] : List Value).toArray below meth c H locs 0 0 (MQ below (va_Qv (fun (u : (Nat → Int32)) => True) (fun u => Aft D A ((fun (u : (Nat → Int32)) => ([(o, .inr (10, fs)), (rw, .inl (cyI, 30, .inl u)), (fi, .inl (cyI, 60, .inl ffi))] : va_W)) u)) A) ([.ref o] : List Value).toArray s 0 0 A) (F0 m 2 ls []) := by
    intro n
    induction n with
    | zero =>
      intro i g0 H locs ls hi hl hP hD hS
      obtain rfl : i = 30 := by omega
      refine lv_iload_n hx hb dX10_layFirst_2 rfl (lv_at hl 0 rfl) ?_
      refine lv_bipush (v := 30) hx hb dX10_layFirst_3 (by decide) ?_
      refine lv_icmp_ge (tgt := 34) hx hb dX10_layFirst_5 (by decide) (fun c_1 => ?_) (fun c_1 => absurd (by decide) c_1)
      exact retV hC hP hD hS (by decide) (by decide) g0 [0, 1, 2] rfl rfl trivial dX10_layFirst_34
    | succ n ih =>
      intro i g0 H locs ls hi hl hP hD hS
      have hlt : i < 30 := by omega
      refine lv_iload_n hx hb dX10_layFirst_2 rfl (lv_at hl 0 rfl) ?_
      refine lv_bipush (v := 30) hx hb dX10_layFirst_3 (by decide) ?_
      refine lv_icmp_ge (tgt := 34) hx hb dX10_layFirst_5 (by decide) (fun c_2 => absurd c_2 (nI_ge (b := 30) hlt (by decide))) (fun c_2 => ?_)
      refine lv_aload_n hx hb dX10_layFirst_8 rfl (lv_at hl 1 rfl) ?_
      refine gf hC hK hP iX10 0 rfl rfl 43 (by decide) mw_fieldLink_RX10_101_MirrorDrillModel_row_I h_fs_43 dX10_layFirst_9 ?_
      refine lv_iload_n hx hb dX10_layFirst_12 rfl (lv_at hl 0 rfl) ?_
      refine lv_aload_n hx hb dX10_layFirst_13 rfl (lv_at hl 1 rfl) ?_
      refine gf hC hK hP iX10 0 rfl rfl 20 (by decide) mw_fieldLink_RX10_48_MirrorDrillModel_first_I h_fs_20 dX10_layFirst_14 ?_
      refine lv_bipush (v := 30) hx hb dX10_layFirst_17 (by decide) ?_
      refine lv_aload_n hx hb dX10_layFirst_19 rfl (lv_at hl 1 rfl) ?_
      refine gf hC hK hP iX10 0 rfl rfl 37 (by decide) mw_fieldLink_RX10_282_MirrorDrillModel_bank_I h_fs_37 dX10_layFirst_20 ?_
      refine lv_imul hx hb dX10_layFirst_23 ?_
      refine lv_cst (v := 30) (by decide) ?_
      refine lv_iload_n hx hb dX10_layFirst_24 rfl (lv_at hl 0 rfl) ?_
      refine lv_iadd hx hb dX10_layFirst_25 ?_
      refine lv_cst (v := (nI (30 + i))) (nI_add 30 i) ?_
      refine va_iald hx hb hK hP 2 1 rfl rfl (vp_in_nI (by omega) (by decide)) dX10_layFirst_26 ?_
      refine lv_topi (fun x_3 ex_3 => ?_)
      refine va_iast hx hb hK hP hD hS 1 1 rfl rfl (vp_in_nI (by omega) (by decide)) dX10_layFirst_27 (fun H locs hP hD hS => ?_)
      obtain ⟨f_4, ef_4⟩ : ∃ g : Nat → Int32, g = upd g0 (((nI i) : Int32).toNatClampNeg) x_3 := ⟨_, rfl⟩
      rw [← ef_4] at hP hD
      have hP : va_P D classes [(o, .inr (10, fs)), (rw, .inl (cyI, 30, .inl f_4)), (fi, .inl (cyI, 60, .inl ffi))] H := hP
      have hD : va_D A [(o, .inr (10, fs)), (rw, .inl (cyI, 30, .inl f_4)), (fi, .inl (cyI, 60, .inl ffi))] := hD
      refine lv_iinc (v := (nI (i + 1))) (lv' := [(1, .int (nI (i + 1))), (0, .ref o)]) hx hb dX10_layFirst_28 hl (k := 0) rfl (nI_1 _) (by decide) rfl (fun ls hl => ?_)
      refine lv_goto (tgt := 2) hx hb dX10_layFirst_31 (by decide) ?_
      exact ih (i + 1) f_4 _ _ _ (by omega) (lv_sub hl [0, 1] rfl) hP hD hS
  exact lp 30 0 frw _ _ _ (by decide) hl hP hD hS
set_option maxHeartbeats 4000000 in
set_option maxRecDepth 100000 in
theorem k_X10_begin (l : Launch) (D : va_G) (cyB cyI cyJ cyZ : ClassId) (sz : Nat) (o : Nat) (fs : List Value) (rw : Nat) (fi : Nat) (nw : Nat) (frw : Nat → Int32) (ffi : Nat → Int32) (fnw : Nat → Int32) (hl_fs : fs.length = 80) (h_fs_43 : fs[43]? = some (.ref rw)) (h_fs_20 : fs[20]? = some (.ref fi)) (h_fs_45 : fs[45]? = some (.ref nw)) (h_fs_37 : fs[37]? = some (.int 0)) : KV l yX10_begin cX10_begin 1 1 0 0 D (TYS cyB cyI cyJ cyZ) [(o, .inr (10, fs)), (rw, .inl (cyI, 30, .inl frw)), (fi, .inl (cyI, 60, .inl ffi)), (nw, .inl (cyI, 30, .inl fnw))] sz [.ref o] (fun (u : (Nat → Int32) × (Nat → Int32)) => True) (fun (u : (Nat → Int32) × (Nat → Int32)) => ([(o, .inr (10, (((fs.set 46 (.int 0)).set 51 (.int 0)).set 52 (.int 0)))), (rw, .inl (cyI, 30, .inl u.1)), (fi, .inl (cyI, 60, .inl ffi)), (nw, .inl (cyI, 30, .inl u.2))] : va_W)) := by
  refine entV (by decide) (Nat.le_of_ble_eq_true rfl) ?_
  intro p e s m below meth c ls A hC hl hP hK hD hA
  obtain ⟨hx, hb, hr, hml, hown, hts, hlk, hnm⟩ := id hC
  have hS : va_S A s.heap s.heap [] := va_S.rf
  have hl : lv_has ls 1 [(0, .ref o)] := hl
  generalize hHe : s.heap = H at hP ⊢
  rw [hHe] at hS
  have hS : va_S A s.heap H [] := by rw [hHe]; exact hS
  refine lv_aload_n hx hb dX10_begin_0 rfl (lv_at hl 0 rfl) ?_
  refine aftV (wr := [(nw, .inl (cyI, 30, .inl fnw))]) (runV hC hK hP hD hl.1 (k_X10_layFirst l D cyB cyI cyJ cyZ H.size o fs rw fi frw ffi hl_fs h_fs_43 h_fs_20 h_fs_37) cV_X10_layFirst mw_methodLink_RX10_382_yX10_layFirst [0, 1, 2] rfl rfl 0 rfl rfl rfl rfl rfl (Nat.le_of_ble_eq_true rfl) ⟨by decide, by decide⟩ ⟨by decide, by decide⟩ dX10_begin_1) hP hD hS hA [0, 1, 2] [3] rfl rfl rfl (by decide) (fun u_1 H locs hw_1 hP hD hS => ?_)
  obtain ⟨grw_1, rfl⟩ : ∃ z, z = u_1 := ⟨_, rfl⟩
  try dsimp only at hw_1
  have hP : va_P D classes [(nw, .inl (cyI, 30, .inl fnw)), (o, .inr (10, fs)), (rw, .inl (cyI, 30, .inl grw_1)), (fi, .inl (cyI, 60, .inl ffi))] H := hP
  have hD : va_D A [(nw, .inl (cyI, 30, .inl fnw)), (o, .inr (10, fs)), (rw, .inl (cyI, 30, .inl grw_1)), (fi, .inl (cyI, 60, .inl ffi))] := hD
  refine W.widen (k := 0) (n := 0) (by decide) (by decide) ?_
  refine lv_aload_n hx hb dX10_begin_4 rfl (lv_at hl 0 rfl) ?_
  refine aftV (wr := [(fi, .inl (cyI, 60, .inl ffi))]) (runV hC hK hP hD hl.1 (k_X10_keepNow l D cyB cyI cyJ cyZ H.size o fs rw nw grw_1 fnw hl_fs h_fs_43 h_fs_45) cV_X10_keepNow mw_methodLink_RX10_385_yX10_keepNow [1, 2, 0] rfl rfl 1 rfl rfl rfl rfl rfl (Nat.le_of_ble_eq_true rfl) ⟨by decide, by decide⟩ ⟨by decide, by decide⟩ dX10_begin_5) hP hD hS hA [1, 2, 0] [3] rfl rfl rfl (by decide) (fun u_2 H locs hw_2 hP hD hS => ?_)
  obtain ⟨gnw_2, rfl⟩ : ∃ z, z = u_2 := ⟨_, rfl⟩
  try dsimp only at hw_2
  have hP : va_P D classes [(fi, .inl (cyI, 60, .inl ffi)), (o, .inr (10, fs)), (rw, .inl (cyI, 30, .inl grw_1)), (nw, .inl (cyI, 30, .inl gnw_2))] H := hP
  have hD : va_D A [(fi, .inl (cyI, 60, .inl ffi)), (o, .inr (10, fs)), (rw, .inl (cyI, 30, .inl grw_1)), (nw, .inl (cyI, 30, .inl gnw_2))] := hD
  refine W.widen (k := 0) (n := 0) (by decide) (by decide) ?_
  refine lv_aload_n hx hb dX10_begin_8 rfl (lv_at hl 0 rfl) ?_
  refine lv_iconst (v := 0) hx hb dX10_begin_9 (by decide) ?_
  refine pf (v := .int 0) hC hK hP hD hS iX10 tyX10_ok nmX10 1 rfl rfl 46 (by decide) mw_fieldLink_RX10_388_MirrorDrillModel_beats_I rfl rfl rfl (ln_lt hl_fs (by decide)) dX10_begin_10 (fun H locs hP hD hS => ?_)
  have hP : va_P D classes [(fi, .inl (cyI, 60, .inl ffi)), (o, .inr (10, (fs.set 46 (.int 0)))), (rw, .inl (cyI, 30, .inl grw_1)), (nw, .inl (cyI, 30, .inl gnw_2))] H := hP
  have hD : va_D A [(fi, .inl (cyI, 60, .inl ffi)), (o, .inr (10, (fs.set 46 (.int 0)))), (rw, .inl (cyI, 30, .inl grw_1)), (nw, .inl (cyI, 30, .inl gnw_2))] := hD
  refine lv_aload_n hx hb dX10_begin_13 rfl (lv_at hl 0 rfl) ?_
  refine lv_iconst (v := 0) hx hb dX10_begin_14 (by decide) ?_
  refine pf (v := .int 0) hC hK hP hD hS iX10 tyX10_ok nmX10 1 rfl rfl 51 (by decide) mw_fieldLink_RX10_391_MirrorDrillModel_acts_I rfl rfl rfl (ln_lt (ln_set hl_fs) (by decide)) dX10_begin_15 (fun H locs hP hD hS => ?_)
  have hP : va_P D classes [(fi, .inl (cyI, 60, .inl ffi)), (o, .inr (10, ((fs.set 46 (.int 0)).set 51 (.int 0)))), (rw, .inl (cyI, 30, .inl grw_1)), (nw, .inl (cyI, 30, .inl gnw_2))] H := hP
  have hD : va_D A [(fi, .inl (cyI, 60, .inl ffi)), (o, .inr (10, ((fs.set 46 (.int 0)).set 51 (.int 0)))), (rw, .inl (cyI, 30, .inl grw_1)), (nw, .inl (cyI, 30, .inl gnw_2))] := hD
  refine lv_aload_n hx hb dX10_begin_18 rfl (lv_at hl 0 rfl) ?_
  refine lv_iconst (v := 0) hx hb dX10_begin_19 (by decide) ?_
  refine pf (v := .int 0) hC hK hP hD hS iX10 tyX10_ok nmX10 1 rfl rfl 52 (by decide) mw_fieldLink_RX10_394_MirrorDrillModel_undone_I rfl rfl rfl (ln_lt (ln_set (ln_set hl_fs)) (by decide)) dX10_begin_20 (fun H locs hP hD hS => ?_)
  have hP : va_P D classes [(fi, .inl (cyI, 60, .inl ffi)), (o, .inr (10, (((fs.set 46 (.int 0)).set 51 (.int 0)).set 52 (.int 0)))), (rw, .inl (cyI, 30, .inl grw_1)), (nw, .inl (cyI, 30, .inl gnw_2))] H := hP
  have hD : va_D A [(fi, .inl (cyI, 60, .inl ffi)), (o, .inr (10, (((fs.set 46 (.int 0)).set 51 (.int 0)).set 52 (.int 0)))), (rw, .inl (cyI, 30, .inl grw_1)), (nw, .inl (cyI, 30, .inl gnw_2))] := hD
  exact retV hC hP hD hS (by decide) (by decide) (grw_1, gnw_2) [1, 2, 0, 3] rfl rfl trivial dX10_begin_23
set_option maxHeartbeats 4000000 in
set_option maxRecDepth 100000 in
theorem k_X10_begin1 (l : Launch) (D : va_G) (cyB cyI cyJ cyZ : ClassId) (sz : Nat) (o : Nat) (fs : List Value) (rw : Nat) (fi : Nat) (nw : Nat) (frw : Nat → Int32) (ffi : Nat → Int32) (fnw : Nat → Int32) (hl_fs : fs.length = 80) (h_fs_43 : fs[43]? = some (.ref rw)) (h_fs_20 : fs[20]? = some (.ref fi)) (h_fs_45 : fs[45]? = some (.ref nw)) (h_fs_37 : fs[37]? = some (.int 1)) : KV l yX10_begin cX10_begin 1 1 0 0 D (TYS cyB cyI cyJ cyZ) [(o, .inr (10, fs)), (rw, .inl (cyI, 30, .inl frw)), (fi, .inl (cyI, 60, .inl ffi)), (nw, .inl (cyI, 30, .inl fnw))] sz [.ref o] (fun (u : (Nat → Int32) × (Nat → Int32)) => True) (fun (u : (Nat → Int32) × (Nat → Int32)) => ([(o, .inr (10, (((fs.set 46 (.int 0)).set 51 (.int 0)).set 52 (.int 0)))), (rw, .inl (cyI, 30, .inl u.1)), (fi, .inl (cyI, 60, .inl ffi)), (nw, .inl (cyI, 30, .inl u.2))] : va_W)) := by
  refine entV (by decide) (Nat.le_of_ble_eq_true rfl) ?_
  intro p e s m below meth c ls A hC hl hP hK hD hA
  obtain ⟨hx, hb, hr, hml, hown, hts, hlk, hnm⟩ := id hC
  have hS : va_S A s.heap s.heap [] := va_S.rf
  have hl : lv_has ls 1 [(0, .ref o)] := hl
  generalize hHe : s.heap = H at hP ⊢
  rw [hHe] at hS
  have hS : va_S A s.heap H [] := by rw [hHe]; exact hS
  refine lv_aload_n hx hb dX10_begin_0 rfl (lv_at hl 0 rfl) ?_
  refine aftV (wr := [(nw, .inl (cyI, 30, .inl fnw))]) (runV hC hK hP hD hl.1 (k_X10_layFirst1 l D cyB cyI cyJ cyZ H.size o fs rw fi frw ffi hl_fs h_fs_43 h_fs_20 h_fs_37) cV_X10_layFirst mw_methodLink_RX10_382_yX10_layFirst [0, 1, 2] rfl rfl 0 rfl rfl rfl rfl rfl (Nat.le_of_ble_eq_true rfl) ⟨by decide, by decide⟩ ⟨by decide, by decide⟩ dX10_begin_1) hP hD hS hA [0, 1, 2] [3] rfl rfl rfl (by decide) (fun u_1 H locs hw_1 hP hD hS => ?_)
  obtain ⟨grw_1, rfl⟩ : ∃ z, z = u_1 := ⟨_, rfl⟩
  try dsimp only at hw_1
  have hP : va_P D classes [(nw, .inl (cyI, 30, .inl fnw)), (o, .inr (10, fs)), (rw, .inl (cyI, 30, .inl grw_1)), (fi, .inl (cyI, 60, .inl ffi))] H := hP
  have hD : va_D A [(nw, .inl (cyI, 30, .inl fnw)), (o, .inr (10, fs)), (rw, .inl (cyI, 30, .inl grw_1)), (fi, .inl (cyI, 60, .inl ffi))] := hD
  refine W.widen (k := 0) (n := 0) (by decide) (by decide) ?_
  refine lv_aload_n hx hb dX10_begin_4 rfl (lv_at hl 0 rfl) ?_
  refine aftV (wr := [(fi, .inl (cyI, 60, .inl ffi))]) (runV hC hK hP hD hl.1 (k_X10_keepNow l D cyB cyI cyJ cyZ H.size o fs rw nw grw_1 fnw hl_fs h_fs_43 h_fs_45) cV_X10_keepNow mw_methodLink_RX10_385_yX10_keepNow [1, 2, 0] rfl rfl 1 rfl rfl rfl rfl rfl (Nat.le_of_ble_eq_true rfl) ⟨by decide, by decide⟩ ⟨by decide, by decide⟩ dX10_begin_5) hP hD hS hA [1, 2, 0] [3] rfl rfl rfl (by decide) (fun u_2 H locs hw_2 hP hD hS => ?_)
  obtain ⟨gnw_2, rfl⟩ : ∃ z, z = u_2 := ⟨_, rfl⟩
  try dsimp only at hw_2
  have hP : va_P D classes [(fi, .inl (cyI, 60, .inl ffi)), (o, .inr (10, fs)), (rw, .inl (cyI, 30, .inl grw_1)), (nw, .inl (cyI, 30, .inl gnw_2))] H := hP
  have hD : va_D A [(fi, .inl (cyI, 60, .inl ffi)), (o, .inr (10, fs)), (rw, .inl (cyI, 30, .inl grw_1)), (nw, .inl (cyI, 30, .inl gnw_2))] := hD
  refine W.widen (k := 0) (n := 0) (by decide) (by decide) ?_
  refine lv_aload_n hx hb dX10_begin_8 rfl (lv_at hl 0 rfl) ?_
  refine lv_iconst (v := 0) hx hb dX10_begin_9 (by decide) ?_
  refine pf (v := .int 0) hC hK hP hD hS iX10 tyX10_ok nmX10 1 rfl rfl 46 (by decide) mw_fieldLink_RX10_388_MirrorDrillModel_beats_I rfl rfl rfl (ln_lt hl_fs (by decide)) dX10_begin_10 (fun H locs hP hD hS => ?_)
  have hP : va_P D classes [(fi, .inl (cyI, 60, .inl ffi)), (o, .inr (10, (fs.set 46 (.int 0)))), (rw, .inl (cyI, 30, .inl grw_1)), (nw, .inl (cyI, 30, .inl gnw_2))] H := hP
  have hD : va_D A [(fi, .inl (cyI, 60, .inl ffi)), (o, .inr (10, (fs.set 46 (.int 0)))), (rw, .inl (cyI, 30, .inl grw_1)), (nw, .inl (cyI, 30, .inl gnw_2))] := hD
  refine lv_aload_n hx hb dX10_begin_13 rfl (lv_at hl 0 rfl) ?_
  refine lv_iconst (v := 0) hx hb dX10_begin_14 (by decide) ?_
  refine pf (v := .int 0) hC hK hP hD hS iX10 tyX10_ok nmX10 1 rfl rfl 51 (by decide) mw_fieldLink_RX10_391_MirrorDrillModel_acts_I rfl rfl rfl (ln_lt (ln_set hl_fs) (by decide)) dX10_begin_15 (fun H locs hP hD hS => ?_)
  have hP : va_P D classes [(fi, .inl (cyI, 60, .inl ffi)), (o, .inr (10, ((fs.set 46 (.int 0)).set 51 (.int 0)))), (rw, .inl (cyI, 30, .inl grw_1)), (nw, .inl (cyI, 30, .inl gnw_2))] H := hP
  have hD : va_D A [(fi, .inl (cyI, 60, .inl ffi)), (o, .inr (10, ((fs.set 46 (.int 0)).set 51 (.int 0)))), (rw, .inl (cyI, 30, .inl grw_1)), (nw, .inl (cyI, 30, .inl gnw_2))] := hD
  refine lv_aload_n hx hb dX10_begin_18 rfl (lv_at hl 0 rfl) ?_
  refine lv_iconst (v := 0) hx hb dX10_begin_19 (by decide) ?_
  refine pf (v := .int 0) hC hK hP hD hS iX10 tyX10_ok nmX10 1 rfl rfl 52 (by decide) mw_fieldLink_RX10_394_MirrorDrillModel_undone_I rfl rfl rfl (ln_lt (ln_set (ln_set hl_fs)) (by decide)) dX10_begin_20 (fun H locs hP hD hS => ?_)
  have hP : va_P D classes [(fi, .inl (cyI, 60, .inl ffi)), (o, .inr (10, (((fs.set 46 (.int 0)).set 51 (.int 0)).set 52 (.int 0)))), (rw, .inl (cyI, 30, .inl grw_1)), (nw, .inl (cyI, 30, .inl gnw_2))] H := hP
  have hD : va_D A [(fi, .inl (cyI, 60, .inl ffi)), (o, .inr (10, (((fs.set 46 (.int 0)).set 51 (.int 0)).set 52 (.int 0)))), (rw, .inl (cyI, 30, .inl grw_1)), (nw, .inl (cyI, 30, .inl gnw_2))] := hD
  exact retV hC hP hD hS (by decide) (by decide) (grw_1, gnw_2) [1, 2, 0, 3] rfl rfl trivial dX10_begin_23
set_option maxHeartbeats 4000000 in
set_option maxRecDepth 100000 in
theorem k_X10_keepAct (l : Launch) (D : va_G) (cyB cyI cyJ cyZ : ClassId) (sz : Nat) (o : Nat) (fs : List Value) (ws : Nat) (nw : Nat) (fws : Nat → Int32) (fnw : Nat → Int32) (hl_fs : fs.length = 80) (h_fs_50 : fs[50]? = some (.ref ws)) (h_fs_45 : fs[45]? = some (.ref nw)) (h_fs_51 : fs[51]? = some (.int 0)) (h_fs_46 : fs[46]? = some (.int 0)) : KV l yX10_keepAct cX10_keepAct 2 0 0 0 D (TYS cyB cyI cyJ cyZ) [(o, .inr (10, fs)), (ws, .inl (cyI, 1271, .inl fws)), (nw, .inl (cyI, 30, .inl fnw))] sz [.ref o] (fun (u : (Nat → Int32)) => True) (fun (u : (Nat → Int32)) => ([(o, .inr (10, ((fs.set 51 (.int 1)).set 52 (.int 0)))), (ws, .inl (cyI, 1271, .inl u)), (nw, .inl (cyI, 30, .inl fnw))] : va_W)) := by
  refine entV (by decide) (Nat.le_of_ble_eq_true rfl) ?_
  intro p e s m below meth c ls A hC hl hP hK hD hA
  obtain ⟨hx, hb, hr, hml, hown, hts, hlk, hnm⟩ := id hC
  have hS : va_S A s.heap s.heap [] := va_S.rf
  have hl : lv_has ls 2 [(0, .ref o)] := hl
  generalize hHe : s.heap = H at hP ⊢
  rw [hHe] at hS
  have hS : va_S A s.heap H [] := by rw [hHe]; exact hS
  refine lv_aload_n hx hb dX10_keepAct_0 rfl (lv_at hl 0 rfl) ?_
  refine gf hC hK hP iX10 0 rfl rfl 51 (by decide) mw_fieldLink_RX10_391_MirrorDrillModel_acts_I h_fs_51 dX10_keepAct_1 ?_
  refine lv_bipush (v := 40) hx hb dX10_keepAct_4 (by decide) ?_
  refine lv_icmp_ne (tgt := 49) hx hb dX10_keepAct_6 (by decide) (fun c_1 => ?_) (fun c_1 => absurd c_1 (by decide))
  refine lv_iconst (v := 0) hx hb dX10_keepAct_49 (by decide) ?_
  refine lv_istore_n (lv' := [(1, .int 0), (0, .ref o)]) hx hb dX10_keepAct_50 rfl hl (by decide) rfl (fun ls hl => ?_)
  have lp : ∀ (n i : Nat) (g0 : Nat → Int32) (H : Heap) (locs : List Loc) (ls : Array Slot), i + n = 30 → lv_has ls 2 [(1, .int (nI i)), (0, .ref o)] → va_P D classes [(o, .inr (10, fs)), (ws, .inl (cyI, 1271, .inl g0)), (nw, .inl (cyI, 30, .inl fnw))] H → va_D A [(o, .inr (10, fs)), (ws, .inl (cyI, 1271, .inl g0)), (nw, .inl (cyI, 30, .inl fnw))] → va_S A s.heap H locs → W p l e (rmK 0 0 0) s m ([.ref o] : List Value).toArray below meth c H locs 0 0 (MQ below (va_Qv (fun (u : (Nat → Int32)) => True) (fun u => Aft D A ((fun (u : (Nat → Int32)) => ([(o, .inr (10, ((fs.set 51 (.int 1)).set 52 (.int 0)))), (ws, .inl (cyI, 1271, .inl u)), (nw, .inl (cyI, 30, .inl fnw))] : va_W)) u)) A) ([.ref o] : List Value).toArray s 0 0 A) (F0 m 51 ls []) := by
    intro n
    induction n with
    | zero =>
      intro i g0 H locs ls hi hl hP hD hS
      obtain rfl : i = 30 := by omega
      refine lv_iload_n hx hb dX10_keepAct_51 rfl (lv_at hl 0 rfl) ?_
      refine lv_bipush (v := 30) hx hb dX10_keepAct_52 (by decide) ?_
      refine lv_icmp_ge (tgt := 83) hx hb dX10_keepAct_54 (by decide) (fun c_2 => ?_) (fun c_2 => absurd (by decide) c_2)
      refine lv_aload_n hx hb dX10_keepAct_83 rfl (lv_at hl 1 rfl) ?_
      refine gf hC hK hP iX10 0 rfl rfl 50 (by decide) mw_fieldLink_RX10_113_MirrorDrillModel_was_I h_fs_50 dX10_keepAct_84 ?_
      refine lv_bipush (v := 31) hx hb dX10_keepAct_87 (by decide) ?_
      refine lv_aload_n hx hb dX10_keepAct_89 rfl (lv_at hl 1 rfl) ?_
      refine gf hC hK hP iX10 0 rfl rfl 51 (by decide) mw_fieldLink_RX10_391_MirrorDrillModel_acts_I h_fs_51 dX10_keepAct_90 ?_
      refine lv_imul hx hb dX10_keepAct_93 ?_
      refine lv_cst (v := 0) (by decide) ?_
      refine lv_bipush (v := 30) hx hb dX10_keepAct_94 (by decide) ?_
      refine lv_iadd hx hb dX10_keepAct_96 ?_
      refine lv_cst (v := 30) (by decide) ?_
      refine lv_aload_n hx hb dX10_keepAct_97 rfl (lv_at hl 1 rfl) ?_
      refine gf hC hK hP iX10 0 rfl rfl 46 (by decide) mw_fieldLink_RX10_388_MirrorDrillModel_beats_I h_fs_46 dX10_keepAct_98 ?_
      refine va_iast hx hb hK hP hD hS 1 1 rfl rfl (vin (by decide)) dX10_keepAct_101 (fun H locs hP hD hS => ?_)
      obtain ⟨f_3, ef_3⟩ : ∃ g : Nat → Int32, g = upd g0 ((30 : Int32).toNatClampNeg) 0 := ⟨_, rfl⟩
      rw [← ef_3] at hP hD
      have hP : va_P D classes [(o, .inr (10, fs)), (ws, .inl (cyI, 1271, .inl f_3)), (nw, .inl (cyI, 30, .inl fnw))] H := hP
      have hD : va_D A [(o, .inr (10, fs)), (ws, .inl (cyI, 1271, .inl f_3)), (nw, .inl (cyI, 30, .inl fnw))] := hD
      refine lv_aload_n hx hb dX10_keepAct_102 rfl (lv_at hl 1 rfl) ?_
      refine lv_dup hx hb dX10_keepAct_103 rfl ?_
      refine gf hC hK hP iX10 0 rfl rfl 51 (by decide) mw_fieldLink_RX10_391_MirrorDrillModel_acts_I h_fs_51 dX10_keepAct_104 ?_
      refine lv_iconst (v := 1) hx hb dX10_keepAct_107 (by decide) ?_
      refine lv_iadd hx hb dX10_keepAct_108 ?_
      refine lv_cst (v := 1) (by decide) ?_
      refine pf (v := .int 1) hC hK hP hD hS iX10 tyX10_ok nmX10 0 rfl rfl 51 (by decide) mw_fieldLink_RX10_391_MirrorDrillModel_acts_I rfl rfl rfl (ln_lt hl_fs (by decide)) dX10_keepAct_109 (fun H locs hP hD hS => ?_)
      have hP : va_P D classes [(o, .inr (10, (fs.set 51 (.int 1)))), (ws, .inl (cyI, 1271, .inl f_3)), (nw, .inl (cyI, 30, .inl fnw))] H := hP
      have hD : va_D A [(o, .inr (10, (fs.set 51 (.int 1)))), (ws, .inl (cyI, 1271, .inl f_3)), (nw, .inl (cyI, 30, .inl fnw))] := hD
      refine lv_aload_n hx hb dX10_keepAct_112 rfl (lv_at hl 1 rfl) ?_
      refine lv_iconst (v := 0) hx hb dX10_keepAct_113 (by decide) ?_
      refine pf (v := .int 0) hC hK hP hD hS iX10 tyX10_ok nmX10 0 rfl rfl 52 (by decide) mw_fieldLink_RX10_394_MirrorDrillModel_undone_I rfl rfl rfl (ln_lt (ln_set hl_fs) (by decide)) dX10_keepAct_114 (fun H locs hP hD hS => ?_)
      have hP : va_P D classes [(o, .inr (10, ((fs.set 51 (.int 1)).set 52 (.int 0)))), (ws, .inl (cyI, 1271, .inl f_3)), (nw, .inl (cyI, 30, .inl fnw))] H := hP
      have hD : va_D A [(o, .inr (10, ((fs.set 51 (.int 1)).set 52 (.int 0)))), (ws, .inl (cyI, 1271, .inl f_3)), (nw, .inl (cyI, 30, .inl fnw))] := hD
      exact retV hC hP hD hS (by decide) (by decide) f_3 [0, 1, 2] rfl rfl trivial dX10_keepAct_117
    | succ n ih =>
      intro i g0 H locs ls hi hl hP hD hS
      have hlt : i < 30 := by omega
      refine lv_iload_n hx hb dX10_keepAct_51 rfl (lv_at hl 0 rfl) ?_
      refine lv_bipush (v := 30) hx hb dX10_keepAct_52 (by decide) ?_
      refine lv_icmp_ge (tgt := 83) hx hb dX10_keepAct_54 (by decide) (fun c_4 => absurd c_4 (nI_ge (b := 30) hlt (by decide))) (fun c_4 => ?_)
      refine lv_aload_n hx hb dX10_keepAct_57 rfl (lv_at hl 1 rfl) ?_
      refine gf hC hK hP iX10 0 rfl rfl 50 (by decide) mw_fieldLink_RX10_113_MirrorDrillModel_was_I h_fs_50 dX10_keepAct_58 ?_
      refine lv_bipush (v := 31) hx hb dX10_keepAct_61 (by decide) ?_
      refine lv_aload_n hx hb dX10_keepAct_63 rfl (lv_at hl 1 rfl) ?_
      refine gf hC hK hP iX10 0 rfl rfl 51 (by decide) mw_fieldLink_RX10_391_MirrorDrillModel_acts_I h_fs_51 dX10_keepAct_64 ?_
      refine lv_imul hx hb dX10_keepAct_67 ?_
      refine lv_cst (v := 0) (by decide) ?_
      refine lv_iload_n hx hb dX10_keepAct_68 rfl (lv_at hl 0 rfl) ?_
      refine lv_iadd hx hb dX10_keepAct_69 ?_
      refine lv_cst (v := (nI i)) (Int32.zero_add _) ?_
      refine lv_aload_n hx hb dX10_keepAct_70 rfl (lv_at hl 1 rfl) ?_
      refine gf hC hK hP iX10 0 rfl rfl 45 (by decide) mw_fieldLink_RX10_107_MirrorDrillModel_now_I h_fs_45 dX10_keepAct_71 ?_
      refine lv_iload_n hx hb dX10_keepAct_74 rfl (lv_at hl 0 rfl) ?_
      refine va_iald hx hb hK hP 2 1 rfl rfl (vp_in_nI (by omega) (by decide)) dX10_keepAct_75 ?_
      refine lv_topi (fun x_5 ex_5 => ?_)
      refine va_iast hx hb hK hP hD hS 1 1 rfl rfl (vp_in_nI (by omega) (by decide)) dX10_keepAct_76 (fun H locs hP hD hS => ?_)
      obtain ⟨f_6, ef_6⟩ : ∃ g : Nat → Int32, g = upd g0 (((nI i) : Int32).toNatClampNeg) x_5 := ⟨_, rfl⟩
      rw [← ef_6] at hP hD
      have hP : va_P D classes [(o, .inr (10, fs)), (ws, .inl (cyI, 1271, .inl f_6)), (nw, .inl (cyI, 30, .inl fnw))] H := hP
      have hD : va_D A [(o, .inr (10, fs)), (ws, .inl (cyI, 1271, .inl f_6)), (nw, .inl (cyI, 30, .inl fnw))] := hD
      refine lv_iinc (v := (nI (i + 1))) (lv' := [(1, .int (nI (i + 1))), (0, .ref o)]) hx hb dX10_keepAct_77 hl (k := 0) rfl (nI_1 _) (by decide) rfl (fun ls hl => ?_)
      refine lv_goto (tgt := 51) hx hb dX10_keepAct_80 (by decide) ?_
      exact ih (i + 1) f_6 _ _ _ (by omega) (lv_sub hl [0, 1] rfl) hP hD hS
  exact lp 30 0 fws _ _ _ (by decide) hl hP hD hS
set_option maxHeartbeats 4000000 in
set_option maxRecDepth 100000 in
theorem k_X10_beat (l : Launch) (D : va_G) (cyB cyI cyJ cyZ : ClassId) (sz : Nat) (o : Nat) (fs : List Value) (mn : Nat) (fm : Nat → Int32) (hl_fs : fs.length = 80) (h_fs_12 : fs[12]? = some (.ref mn)) (h_fs_37 : fs[37]? = some (.int 0)) (h_fm_0 : fm 0 = 0) : KV l yX10_beat cX10_beat 2 1 0 0 D (TYS cyB cyI cyJ cyZ) [(o, .inr (10, fs)), (mn, .inl (cyI, 2, .inl fm))] sz [.ref o] (fun (u : Unit) => True) (fun (u : Unit) => ([(o, .inr (10, fs)), (mn, .inl (cyI, 2, .inl fm))] : va_W)) := by
  refine entV (by decide) (Nat.le_of_ble_eq_true rfl) ?_
  intro p e s m below meth c ls A hC hl hP hK hD hA
  obtain ⟨hx, hb, hr, hml, hown, hts, hlk, hnm⟩ := id hC
  have hS : va_S A s.heap s.heap [] := va_S.rf
  have hl : lv_has ls 2 [(0, .ref o)] := hl
  generalize hHe : s.heap = H at hP ⊢
  rw [hHe] at hS
  have hS : va_S A s.heap H [] := by rw [hHe]; exact hS
  refine lv_iconst (v := 0) hx hb dX10_beat_0 (by decide) ?_
  refine lv_istore_n (lv' := [(1, .int 0), (0, .ref o)]) hx hb dX10_beat_1 rfl hl (by decide) rfl (fun ls hl => ?_)
  refine lv_iload_n hx hb dX10_beat_2 rfl (lv_at hl 0 rfl) ?_
  refine lv_aload_n hx hb dX10_beat_3 rfl (lv_at hl 1 rfl) ?_
  refine aftI (wr := []) (runV hC hK hP hD hl.1 (k_X10_manyOf l D cyB cyI cyJ cyZ H.size o fs mn fm hl_fs h_fs_12 h_fs_37 h_fm_0) cV_X10_manyOf mw_methodLink_RX10_375_yX10_manyOf [0, 1] rfl rfl 0 rfl rfl rfl rfl rfl (Nat.le_of_ble_eq_true rfl) ⟨by decide, by decide⟩ ⟨by decide, by decide⟩ dX10_beat_4) hP hD hS hA [0, 1] [] rfl rfl rfl (by decide) (fun r_1 u_1 H locs hw_1 hP hD hS => ?_)
  have hr_1 := hw_1
  refine lv_cst (v := 0) hr_1 ?_
  have hP : va_P D classes [(o, .inr (10, fs)), (mn, .inl (cyI, 2, .inl fm))] H := hP
  have hD : va_D A [(o, .inr (10, fs)), (mn, .inl (cyI, 2, .inl fm))] := hD
  refine W.widen (k := 0) (n := 0) (by decide) (by decide) ?_
  refine lv_icmp_ge (tgt := 43) hx hb dX10_beat_7 (by decide) (fun c_2 => ?_) (fun c_2 => absurd (by decide) c_2)
  refine lv_iconst (v := 0) hx hb dX10_beat_43 (by decide) ?_
  refine lv_istore_n (lv' := [(1, .int 0), (0, .ref o)]) hx hb dX10_beat_44 rfl hl (by decide) rfl (fun ls hl => ?_)
  refine lv_iload_n hx hb dX10_beat_45 rfl (lv_at hl 0 rfl) ?_
  refine lv_aload_n hx hb dX10_beat_46 rfl (lv_at hl 1 rfl) ?_
  refine aftI (wr := []) (runV hC hK hP hD hl.1 (k_X10_manyOf l D cyB cyI cyJ cyZ H.size o fs mn fm hl_fs h_fs_12 h_fs_37 h_fm_0) cV_X10_manyOf mw_methodLink_RX10_375_yX10_manyOf [0, 1] rfl rfl 0 rfl rfl rfl rfl rfl (Nat.le_of_ble_eq_true rfl) ⟨by decide, by decide⟩ ⟨by decide, by decide⟩ dX10_beat_47) hP hD hS hA [0, 1] [] rfl rfl rfl (by decide) (fun r_3 u_3 H locs hw_3 hP hD hS => ?_)
  have hr_3 := hw_3
  refine lv_cst (v := 0) hr_3 ?_
  have hP : va_P D classes [(o, .inr (10, fs)), (mn, .inl (cyI, 2, .inl fm))] H := hP
  have hD : va_D A [(o, .inr (10, fs)), (mn, .inl (cyI, 2, .inl fm))] := hD
  refine W.widen (k := 0) (n := 0) (by decide) (by decide) ?_
  refine lv_icmp_ge (tgt := 71) hx hb dX10_beat_50 (by decide) (fun c_4 => ?_) (fun c_4 => absurd (by decide) c_4)
  exact retV hC hP hD hS (by decide) (by decide) () [0, 1] rfl rfl trivial dX10_beat_71
set_option maxHeartbeats 4000000 in
set_option maxRecDepth 100000 in
theorem k_X10_beatTimes (l : Launch) (D : va_G) (cyB cyI cyJ cyZ : ClassId) (sz : Nat) (o : Nat) (p0 : Int32) (fs : List Value) (mn : Nat) (fm : Nat → Int32) (k : Nat) (hl_fs : fs.length = 80) (h_fs_12 : fs[12]? = some (.ref mn)) (h_fs_37 : fs[37]? = some (.int 0)) (h_fm_0 : fm 0 = 0) (hk : k ≤ 500) (ek : p0 = nI k) : KV l yX10_beatTimes cX10_beatTimes 3 2 0 0 D (TYS cyB cyI cyJ cyZ) [(o, .inr (10, fs)), (mn, .inl (cyI, 2, .inl fm))] sz [.ref o, .int p0] (fun (u : Unit) => True) (fun (u : Unit) => ([(o, .inr (10, fs)), (mn, .inl (cyI, 2, .inl fm))] : va_W)) := by
  refine entV (by decide) (Nat.le_of_ble_eq_true rfl) ?_
  intro p e s m below meth c ls A hC hl hP hK hD hA
  obtain ⟨hx, hb, hr, hml, hown, hts, hlk, hnm⟩ := id hC
  have hS : va_S A s.heap s.heap [] := va_S.rf
  have hl : lv_has ls 3 [(0, .ref o), (1, .int p0)] := hl
  generalize hHe : s.heap = H at hP ⊢
  rw [hHe] at hS
  have hS : va_S A s.heap H [] := by rw [hHe]; exact hS
  refine lv_iconst (v := 0) hx hb dX10_beatTimes_0 (by decide) ?_
  refine lv_istore_n (lv' := [(2, .int 0), (0, .ref o), (1, .int p0)]) hx hb dX10_beatTimes_1 rfl hl (by decide) rfl (fun ls hl => ?_)
  have lp : ∀ (n i : Nat)  (H : Heap) (locs : List Loc) (ls : Array Slot), i + n = k → lv_has ls 3 [(2, .int (nI i)), (0, .ref o), (1, .int p0)] → va_P D classes [(o, .inr (10, fs)), (mn, .inl (cyI, 2, .inl fm))] H → va_D A [(o, .inr (10, fs)), (mn, .inl (cyI, 2, .inl fm))] → va_S A s.heap H locs → W p l e (rmK 2 0 0) s m ([.ref o, .int p0] : List Value).toArray below meth c H locs 0 0 (MQ below (va_Qv (fun (u : Unit) => True) (fun u => Aft D A ((fun (u : Unit) => ([(o, .inr (10, fs)), (mn, .inl (cyI, 2, .inl fm))] : va_W)) u)) A) ([.ref o, .int p0] : List Value).toArray s 0 0 A) (F0 m 2 ls []) := by
    intro n
    induction n with
    | zero =>
      intro i  H locs ls hi hl hP hD hS
      have hie : i = k := by omega
      refine lv_iload_n hx hb dX10_beatTimes_2 rfl (lv_at hl 0 rfl) ?_
      refine lv_iload_n hx hb dX10_beatTimes_3 rfl (lv_at hl 2 rfl) ?_
      refine lv_icmp_ge (tgt := 17) hx hb dX10_beatTimes_4 (by decide) (fun c_1 => ?_) (fun c_1 => absurd (by rw [ek, hie]; exact Int32.le_refl _) c_1)
      exact retV hC hP hD hS (by decide) (by decide) () [0, 1] rfl rfl trivial dX10_beatTimes_17
    | succ n ih =>
      intro i  H locs ls hi hl hP hD hS
      have hlt : i < k := by omega
      refine lv_iload_n hx hb dX10_beatTimes_2 rfl (lv_at hl 0 rfl) ?_
      refine lv_iload_n hx hb dX10_beatTimes_3 rfl (lv_at hl 2 rfl) ?_
      refine lv_icmp_ge (tgt := 17) hx hb dX10_beatTimes_4 (by decide) (fun c_2 => absurd c_2 (by rw [ek]; exact nI_ge hlt (by omega))) (fun c_2 => ?_)
      refine lv_aload_n hx hb dX10_beatTimes_7 rfl (lv_at hl 1 rfl) ?_
      refine aftV (wr := []) (runV hC hK hP hD hl.1 (k_X10_beat l D cyB cyI cyJ cyZ H.size o fs mn fm hl_fs h_fs_12 h_fs_37 h_fm_0) cV_X10_beat mw_methodLink_RX10_421_yX10_beat [0, 1] rfl rfl 0 rfl rfl rfl rfl rfl (Nat.le_of_ble_eq_true rfl) ⟨by decide, by decide⟩ ⟨by decide, by decide⟩ dX10_beatTimes_8) hP hD hS hA [0, 1] [] rfl rfl rfl (by decide) (fun u_3 H locs hw_3 hP hD hS => ?_)
      have hP : va_P D classes [(o, .inr (10, fs)), (mn, .inl (cyI, 2, .inl fm))] H := hP
      have hD : va_D A [(o, .inr (10, fs)), (mn, .inl (cyI, 2, .inl fm))] := hD
      refine W.widen (k := 0) (n := 0) (by decide) (by decide) ?_
      refine lv_iinc (v := (nI (i + 1))) (lv' := [(2, .int (nI (i + 1))), (0, .ref o), (1, .int p0)]) hx hb dX10_beatTimes_11 hl (k := 0) rfl (nI_1 _) (by decide) rfl (fun ls hl => ?_)
      refine lv_goto (tgt := 2) hx hb dX10_beatTimes_14 (by decide) ?_
      exact ih (i + 1)  _ _ _ (by omega) (lv_sub hl [0, 1, 2] rfl) hP hD hS
  exact lp k 0  _ _ _ (by omega) hl hP hD hS
set_option maxHeartbeats 4000000 in
set_option maxRecDepth 100000 in
theorem k_X10_run (l : Launch) (D : va_G) (cyB cyI cyJ cyZ : ClassId) (sz : Nat) (o : Nat) (p0 : Int32) (fs : List Value) (ws : Nat) (nw : Nat) (rw : Nat) (mn : Nat) (fws : Nat → Int32) (fnw : Nat → Int32) (frw : Nat → Int32) (fm : Nat → Int32) (hl_fs : fs.length = 80) (h_fs_50 : fs[50]? = some (.ref ws)) (h_fs_45 : fs[45]? = some (.ref nw)) (h_fs_43 : fs[43]? = some (.ref rw)) (h_fs_12 : fs[12]? = some (.ref mn)) (h_fs_51 : fs[51]? = some (.int 0)) (h_fs_46 : fs[46]? = some (.int 0)) (h_fs_37 : fs[37]? = some (.int 0)) (h_fm_0 : fm 0 = 0) : KI l yX10_run cX10_run 2 .int 3 0 0 D (TYS cyB cyI cyJ cyZ) [(o, .inr (10, fs)), (ws, .inl (cyI, 1271, .inl fws)), (nw, .inl (cyI, 30, .inl fnw)), (rw, .inl (cyI, 30, .inl frw)), (mn, .inl (cyI, 2, .inl fm))] sz [.ref o, .int p0] (fun (r : Int32) (u : Unit) => r = sp_run p0) (fun (u : Unit) => ([] : va_W)) := by
  refine entI (by decide) (Nat.le_of_ble_eq_true rfl) ?_
  intro p e s m below meth c ls A hC hl hP hK hD hA
  obtain ⟨hx, hb, hr, hml, hown, hts, hlk, hnm⟩ := id hC
  have hS : va_S A s.heap s.heap [] := va_S.rf
  have hl : lv_has ls 2 [(0, .ref o), (1, .int p0)] := hl
  generalize hHe : s.heap = H at hP ⊢
  rw [hHe] at hS
  have hS : va_S A s.heap H [] := by rw [hHe]; exact hS
  refine lv_iload_n hx hb dX10_run_0 rfl (lv_at hl 1 rfl) ?_
  refine lv_iconst (v := 0) hx hb dX10_run_1 (by decide) ?_
  refine lv_sipush (v := 500) hx hb dX10_run_2 (by decide) ?_
  refine aftI (wr := [(o, .inr (10, fs)), (ws, .inl (cyI, 1271, .inl fws)), (nw, .inl (cyI, 30, .inl fnw)), (rw, .inl (cyI, 30, .inl frw)), (mn, .inl (cyI, 2, .inl fm))]) (runS hC hK hP hD hl.1 (k_X10_isIn l D cyB cyI cyJ cyZ H.size p0 0 500 ) cS_X10_isIn mw_methodLink_RX10_378_yX10_isIn [] rfl rfl rfl rfl (Nat.le_of_ble_eq_true rfl) ⟨by decide, by decide⟩ ⟨by decide, by decide⟩ dX10_run_5) hP hD hS hA [] [0, 1, 2, 3, 4] rfl rfl rfl (by decide) (fun r_1 u_1 H locs hw_1 hP hD hS => ?_)
  have hr_1 := hw_1
  have hP : va_P D classes [(o, .inr (10, fs)), (ws, .inl (cyI, 1271, .inl fws)), (nw, .inl (cyI, 30, .inl fnw)), (rw, .inl (cyI, 30, .inl frw)), (mn, .inl (cyI, 2, .inl fm))] H := hP
  have hD : va_D A [(o, .inr (10, fs)), (ws, .inl (cyI, 1271, .inl fws)), (nw, .inl (cyI, 30, .inl fnw)), (rw, .inl (cyI, 30, .inl frw)), (mn, .inl (cyI, 2, .inl fm))] := hD
  refine W.widen (k := 0) (n := 0) (by decide) (by decide) ?_
  rcases hr_1 with ⟨e_1, p_1⟩ | ⟨e_1, p_1⟩
  · refine lv_cst (v := 1) e_1 ?_
    refine lv_if_eq (tgt := 23) hx hb dX10_run_8 (by decide) (fun c_2 => absurd c_2 (by decide)) (fun c_2 => ?_)
    refine lv_aload_n hx hb dX10_run_11 rfl (lv_at hl 0 rfl) ?_
    refine gf hC hK hP iX10 0 rfl rfl 46 (by decide) mw_fieldLink_RX10_388_MirrorDrillModel_beats_I h_fs_46 dX10_run_12 ?_
    refine lv_iload_n hx hb dX10_run_15 rfl (lv_at hl 1 rfl) ?_
    refine lv_iadd hx hb dX10_run_16 ?_
    refine lv_cst (v := p0) (Int32.zero_add _) ?_
    refine lv_ldcw (v := 100000) hx hb hown (hts _ mw_constant_RX10_433_100000) dX10_run_17 ?_
    refine lv_icmp_le (tgt := 25) hx hb dX10_run_20 (by decide) (fun c_3 => ?_) (fun c_3 => absurd (Int32.not_lt.mp (fun h => by have z0 := p_1; have y0 : ((-1) : Int32).toInt = (-1) := (by decide); have y1 : (0 : Int32).toInt = 0 := (by decide); have y2 : (500 : Int32).toInt = 500 := (by decide); have y3 : (100000 : Int32).toInt = 100000 := (by decide); have zz := zt_lt h; (try rw [Int32.zero_add] at zz); omega)) c_3)
    refine lv_aload_n hx hb dX10_run_25 rfl (lv_at hl 0 rfl) ?_
    refine aftV (wr := [(rw, .inl (cyI, 30, .inl frw)), (mn, .inl (cyI, 2, .inl fm))]) (runV hC hK hP hD hl.1 (k_X10_keepAct l D cyB cyI cyJ cyZ H.size o fs ws nw fws fnw hl_fs h_fs_50 h_fs_45 h_fs_51 h_fs_46) cV_X10_keepAct mw_methodLink_RX10_434_yX10_keepAct [0, 1, 2] rfl rfl 0 rfl rfl rfl rfl rfl (Nat.le_of_ble_eq_true rfl) ⟨by decide, by decide⟩ ⟨by decide, by decide⟩ dX10_run_26) hP hD hS hA [0, 1, 2] [3, 4] rfl rfl rfl (by decide) (fun u_4 H locs hw_4 hP hD hS => ?_)
    obtain ⟨gws_4, rfl⟩ : ∃ z, z = u_4 := ⟨_, rfl⟩
    try dsimp only at hw_4
    have hP : va_P D classes [(rw, .inl (cyI, 30, .inl frw)), (mn, .inl (cyI, 2, .inl fm)), (o, .inr (10, ((fs.set 51 (.int 1)).set 52 (.int 0)))), (ws, .inl (cyI, 1271, .inl gws_4)), (nw, .inl (cyI, 30, .inl fnw))] H := hP
    have hD : va_D A [(rw, .inl (cyI, 30, .inl frw)), (mn, .inl (cyI, 2, .inl fm)), (o, .inr (10, ((fs.set 51 (.int 1)).set 52 (.int 0)))), (ws, .inl (cyI, 1271, .inl gws_4)), (nw, .inl (cyI, 30, .inl fnw))] := hD
    refine W.widen (k := 0) (n := 0) (by decide) (by decide) ?_
    refine lv_aload_n hx hb dX10_run_29 rfl (lv_at hl 0 rfl) ?_
    refine aftV (wr := [(mn, .inl (cyI, 2, .inl fm)), (ws, .inl (cyI, 1271, .inl gws_4))]) (runV hC hK hP hD hl.1 (k_X10_layNow l D cyB cyI cyJ cyZ H.size o ((fs.set 51 (.int 1)).set 52 (.int 0)) rw nw frw fnw (ln_set (ln_set hl_fs)) (gs_ne (by decide) (gs_ne (by decide) h_fs_43)) (gs_ne (by decide) (gs_ne (by decide) h_fs_45))) cV_X10_layNow mw_methodLink_RX10_437_yX10_layNow [2, 0, 4] rfl rfl 2 rfl rfl rfl rfl rfl (Nat.le_of_ble_eq_true rfl) ⟨by decide, by decide⟩ ⟨by decide, by decide⟩ dX10_run_30) hP hD hS hA [2, 0, 4] [1, 3] rfl rfl rfl (by decide) (fun u_5 H locs hw_5 hP hD hS => ?_)
    obtain ⟨grw_5, rfl⟩ : ∃ z, z = u_5 := ⟨_, rfl⟩
    try dsimp only at hw_5
    have hP : va_P D classes [(mn, .inl (cyI, 2, .inl fm)), (ws, .inl (cyI, 1271, .inl gws_4)), (o, .inr (10, ((fs.set 51 (.int 1)).set 52 (.int 0)))), (rw, .inl (cyI, 30, .inl grw_5)), (nw, .inl (cyI, 30, .inl fnw))] H := hP
    have hD : va_D A [(mn, .inl (cyI, 2, .inl fm)), (ws, .inl (cyI, 1271, .inl gws_4)), (o, .inr (10, ((fs.set 51 (.int 1)).set 52 (.int 0)))), (rw, .inl (cyI, 30, .inl grw_5)), (nw, .inl (cyI, 30, .inl fnw))] := hD
    refine W.widen (k := 0) (n := 0) (by decide) (by decide) ?_
    refine lv_aload_n hx hb dX10_run_33 rfl (lv_at hl 0 rfl) ?_
    refine lv_iload_n hx hb dX10_run_34 rfl (lv_at hl 1 rfl) ?_
    obtain ⟨k, hk, ek⟩ := nI_of2 (M := 500) (n := 500) (by decide) (fun h => by have z0 := p_1; have y0 : ((-1) : Int32).toInt = (-1) := (by decide); have y1 : (0 : Int32).toInt = 0 := (by decide); have y2 : (500 : Int32).toInt = 500 := (by decide); have zz := zt_lt h; omega : ¬ p0 < 0) (zu_le (by have z0 := p_1; have y0 : ((-1) : Int32).toInt = (-1) := (by decide); have y1 : (0 : Int32).toInt = 0 := (by decide); have y2 : (500 : Int32).toInt = 500 := (by decide); omega))
    refine aftV (wr := [(ws, .inl (cyI, 1271, .inl gws_4)), (rw, .inl (cyI, 30, .inl grw_5)), (nw, .inl (cyI, 30, .inl fnw))]) (runV hC hK hP hD hl.1 (k_X10_beatTimes l D cyB cyI cyJ cyZ H.size o p0 ((fs.set 51 (.int 1)).set 52 (.int 0)) mn fm k (ln_set (ln_set hl_fs)) (gs_ne (by decide) (gs_ne (by decide) h_fs_12)) (gs_ne (by decide) (gs_ne (by decide) h_fs_37)) h_fm_0 hk ek) cV_X10_beatTimes mw_methodLink_RX10_440_yX10_beatTimes [2, 0] rfl rfl 2 rfl rfl rfl rfl rfl (Nat.le_of_ble_eq_true rfl) ⟨by decide, by decide⟩ ⟨by decide, by decide⟩ dX10_run_35) hP hD hS hA [2, 0] [1, 3, 4] rfl rfl rfl (by decide) (fun u_6 H locs hw_6 hP hD hS => ?_)
    have hP : va_P D classes [(ws, .inl (cyI, 1271, .inl gws_4)), (rw, .inl (cyI, 30, .inl grw_5)), (nw, .inl (cyI, 30, .inl fnw)), (o, .inr (10, ((fs.set 51 (.int 1)).set 52 (.int 0)))), (mn, .inl (cyI, 2, .inl fm))] H := hP
    have hD : va_D A [(ws, .inl (cyI, 1271, .inl gws_4)), (rw, .inl (cyI, 30, .inl grw_5)), (nw, .inl (cyI, 30, .inl fnw)), (o, .inr (10, ((fs.set 51 (.int 1)).set 52 (.int 0)))), (mn, .inl (cyI, 2, .inl fm))] := hD
    refine W.widen (k := 0) (n := 0) (by decide) (by decide) ?_
    refine lv_aload_n hx hb dX10_run_38 rfl (lv_at hl 0 rfl) ?_
    refine aftV (wr := [(ws, .inl (cyI, 1271, .inl gws_4)), (mn, .inl (cyI, 2, .inl fm))]) (runV hC hK hP hD hl.1 (k_X10_keepNow l D cyB cyI cyJ cyZ H.size o ((fs.set 51 (.int 1)).set 52 (.int 0)) rw nw grw_5 fnw (ln_set (ln_set hl_fs)) (gs_ne (by decide) (gs_ne (by decide) h_fs_43)) (gs_ne (by decide) (gs_ne (by decide) h_fs_45))) cV_X10_keepNow mw_methodLink_RX10_385_yX10_keepNow [3, 1, 2] rfl rfl 3 rfl rfl rfl rfl rfl (Nat.le_of_ble_eq_true rfl) ⟨by decide, by decide⟩ ⟨by decide, by decide⟩ dX10_run_39) hP hD hS hA [3, 1, 2] [0, 4] rfl rfl rfl (by decide) (fun u_7 H locs hw_7 hP hD hS => ?_)
    obtain ⟨gnw_7, rfl⟩ : ∃ z, z = u_7 := ⟨_, rfl⟩
    try dsimp only at hw_7
    have hP : va_P D classes [(ws, .inl (cyI, 1271, .inl gws_4)), (mn, .inl (cyI, 2, .inl fm)), (o, .inr (10, ((fs.set 51 (.int 1)).set 52 (.int 0)))), (rw, .inl (cyI, 30, .inl grw_5)), (nw, .inl (cyI, 30, .inl gnw_7))] H := hP
    have hD : va_D A [(ws, .inl (cyI, 1271, .inl gws_4)), (mn, .inl (cyI, 2, .inl fm)), (o, .inr (10, ((fs.set 51 (.int 1)).set 52 (.int 0)))), (rw, .inl (cyI, 30, .inl grw_5)), (nw, .inl (cyI, 30, .inl gnw_7))] := hD
    refine W.widen (k := 0) (n := 0) (by decide) (by decide) ?_
    refine lv_aload_n hx hb dX10_run_42 rfl (lv_at hl 0 rfl) ?_
    refine lv_dup hx hb dX10_run_43 rfl ?_
    refine gf hC hK hP iX10 2 rfl rfl 46 (by decide) mw_fieldLink_RX10_388_MirrorDrillModel_beats_I (gs_ne (by decide) (gs_ne (by decide) h_fs_46)) dX10_run_44 ?_
    refine lv_iload_n hx hb dX10_run_47 rfl (lv_at hl 1 rfl) ?_
    refine lv_iadd hx hb dX10_run_48 ?_
    refine lv_cst (v := p0) (Int32.zero_add _) ?_
    refine pf (v := .int p0) hC hK hP hD hS iX10 tyX10_ok nmX10 2 rfl rfl 46 (by decide) mw_fieldLink_RX10_388_MirrorDrillModel_beats_I rfl rfl rfl (ln_lt (ln_set (ln_set hl_fs)) (by decide)) dX10_run_49 (fun H locs hP hD hS => ?_)
    have hP : va_P D classes [(ws, .inl (cyI, 1271, .inl gws_4)), (mn, .inl (cyI, 2, .inl fm)), (o, .inr (10, (((fs.set 51 (.int 1)).set 52 (.int 0)).set 46 (.int p0)))), (rw, .inl (cyI, 30, .inl grw_5)), (nw, .inl (cyI, 30, .inl gnw_7))] H := hP
    have hD : va_D A [(ws, .inl (cyI, 1271, .inl gws_4)), (mn, .inl (cyI, 2, .inl fm)), (o, .inr (10, (((fs.set 51 (.int 1)).set 52 (.int 0)).set 46 (.int p0)))), (rw, .inl (cyI, 30, .inl grw_5)), (nw, .inl (cyI, 30, .inl gnw_7))] := hD
    refine lv_aload_n hx hb dX10_run_52 rfl (lv_at hl 0 rfl) ?_
    refine gf hC hK hP iX10 2 rfl rfl 46 (by decide) mw_fieldLink_RX10_388_MirrorDrillModel_beats_I (gs_eq (ln_lt (ln_set (ln_set hl_fs)) (by decide))) dX10_run_53 ?_
    exact retI hC hP hD hS (by decide) (by decide) () [] rfl rfl (by have z0 := p_1; have y0 : ((-1) : Int32).toInt = (-1) := (by decide); have y1 : (0 : Int32).toInt = 0 := (by decide); have y2 : (500 : Int32).toInt = 500 := (by decide); unfold sp_run; (repeat' split) <;> first | rfl | (exact Int32.zero_add _) | (exfalso; omega)) dX10_run_56
  · refine lv_cst (v := 0) e_1 ?_
    refine lv_if_eq (tgt := 23) hx hb dX10_run_8 (by decide) (fun c_8 => ?_) (fun c_8 => absurd (by decide) c_8)
    refine lv_iconst (v := (-1)) hx hb dX10_run_23 (by decide) ?_
    exact retI hC hP hD hS (by decide) (by decide) () [] rfl rfl (by have z0 := p_1; have y0 : ((-1) : Int32).toInt = (-1) := (by decide); have y1 : (0 : Int32).toInt = 0 := (by decide); have y2 : (500 : Int32).toInt = 500 := (by decide); unfold sp_run; (repeat' split) <;> first | rfl | (exact Int32.zero_add _) | (exfalso; omega)) dX10_run_24
set_option maxHeartbeats 4000000 in
set_option maxRecDepth 100000 in
theorem k_X10_rowNumber (l : Launch) (D : va_G) (cyB cyI cyJ cyZ : ClassId) (sz : Nat) (o : Nat) (fs : List Value) (mn : Nat) (fm : Nat → Int32) (hl_fs : fs.length = 80) (h_fs_12 : fs[12]? = some (.ref mn)) (h_fs_37 : fs[37]? = some (.int 0)) (h_fm_0 : fm 0 = 0) : KL l yX10_rowNumber cX10_rowNumber 4 1 0 0 D (TYS cyB cyI cyJ cyZ) [(o, .inr (10, fs)), (mn, .inl (cyI, 2, .inl fm))] sz [.ref o] (fun (r : Int64) (u : Unit) => r = 0) (fun (u : Unit) => ([(o, .inr (10, fs)), (mn, .inl (cyI, 2, .inl fm))] : va_W)) := by
  refine entL (by decide) (Nat.le_of_ble_eq_true rfl) ?_
  intro p e s m below meth c ls A hC hl hP hK hD hA
  obtain ⟨hx, hb, hr, hml, hown, hts, hlk, hnm⟩ := id hC
  have hS : va_S A s.heap s.heap [] := va_S.rf
  have hl : lv_has ls 4 [(0, .ref o)] := hl
  generalize hHe : s.heap = H at hP ⊢
  rw [hHe] at hS
  have hS : va_S A s.heap H [] := by rw [hHe]; exact hS
  refine lv_lconst (v := 0) hx hb dX10_rowNumber_0 (by decide) ?_
  refine lv_lstore_n (lv' := [(1, .long 0), (0, .ref o)]) hx hb dX10_rowNumber_1 rfl hl (by decide) rfl (fun ls hl => ?_)
  refine lv_iconst (v := 0) hx hb dX10_rowNumber_2 (by decide) ?_
  refine lv_istore_n (lv' := [(3, .int 0), (1, .long 0), (0, .ref o)]) hx hb dX10_rowNumber_3 rfl hl (by decide) rfl (fun ls hl => ?_)
  refine lv_iload_n hx hb dX10_rowNumber_4 rfl (lv_at hl 0 rfl) ?_
  refine lv_aload_n hx hb dX10_rowNumber_5 rfl (lv_at hl 2 rfl) ?_
  refine aftI (wr := []) (runV hC hK hP hD hl.1 (k_X10_manyOf l D cyB cyI cyJ cyZ H.size o fs mn fm hl_fs h_fs_12 h_fs_37 h_fm_0) cV_X10_manyOf mw_methodLink_RX10_375_yX10_manyOf [0, 1] rfl rfl 0 rfl rfl rfl rfl rfl (Nat.le_of_ble_eq_true rfl) ⟨by decide, by decide⟩ ⟨by decide, by decide⟩ dX10_rowNumber_6) hP hD hS hA [0, 1] [] rfl rfl rfl (by decide) (fun r_1 u_1 H locs hw_1 hP hD hS => ?_)
  have hr_1 := hw_1
  refine lv_cst (v := 0) hr_1 ?_
  have hP : va_P D classes [(o, .inr (10, fs)), (mn, .inl (cyI, 2, .inl fm))] H := hP
  have hD : va_D A [(o, .inr (10, fs)), (mn, .inl (cyI, 2, .inl fm))] := hD
  refine W.widen (k := 0) (n := 0) (by decide) (by decide) ?_
  refine lv_icmp_ge (tgt := 30) hx hb dX10_rowNumber_9 (by decide) (fun c_2 => ?_) (fun c_2 => absurd (by decide) c_2)
  refine lv_lload_n hx hb dX10_rowNumber_30 rfl (lv_at hl 1 rfl) ?_
  exact retL hC hP hD hS (by decide) (by decide) () [0, 1] rfl rfl rfl dX10_rowNumber_31
set_option maxHeartbeats 4000000 in
set_option maxRecDepth 100000 in
theorem k_X10_layRound (l : Launch) (D : va_G) (cyB cyI cyJ cyZ : ClassId) (sz : Nat) (o : Nat) (fs : List Value) (rw : Nat) (nw : Nat) (sn : Nat) (mn : Nat) (frw : Nat → Int32) (fnw : Nat → Int32) (fsn : Nat → Int64) (fm : Nat → Int32) (hl_fs : fs.length = 80) (h_fs_43 : fs[43]? = some (.ref rw)) (h_fs_45 : fs[45]? = some (.ref nw)) (h_fs_53 : fs[53]? = some (.ref sn)) (h_fs_12 : fs[12]? = some (.ref mn)) (h_fs_37 : fs[37]? = some (.int 0)) (h_fm_0 : fm 0 = 0) : KI l yX10_layRound cX10_layRound 3 .boolean 2 0 0 D (TYS cyB cyI cyJ cyZ) [(o, .inr (10, fs)), (rw, .inl (cyI, 30, .inl frw)), (nw, .inl (cyI, 30, .inl fnw)), (sn, .inl (cyJ, 3001, .inr (.inl fsn))), (mn, .inl (cyI, 2, .inl fm))] sz [.ref o] (fun (r : Int32) (u : Unit) => r = 1) (fun (u : Unit) => ([(o, .inr (10, ((fs.set 54 (.int 0)).set 55 (.int 1))))] : va_W)) := by
  refine entI (by decide) (Nat.le_of_ble_eq_true rfl) ?_
  intro p e s m below meth c ls A hC hl hP hK hD hA
  obtain ⟨hx, hb, hr, hml, hown, hts, hlk, hnm⟩ := id hC
  have hS : va_S A s.heap s.heap [] := va_S.rf
  have hl : lv_has ls 3 [(0, .ref o)] := hl
  generalize hHe : s.heap = H at hP ⊢
  rw [hHe] at hS
  have hS : va_S A s.heap H [] := by rw [hHe]; exact hS
  refine lv_aload_n hx hb dX10_layRound_0 rfl (lv_at hl 0 rfl) ?_
  refine aftV (wr := [(sn, .inl (cyJ, 3001, .inr (.inl fsn))), (mn, .inl (cyI, 2, .inl fm))]) (runV hC hK hP hD hl.1 (k_X10_layNow l D cyB cyI cyJ cyZ H.size o fs rw nw frw fnw hl_fs h_fs_43 h_fs_45) cV_X10_layNow mw_methodLink_RX10_437_yX10_layNow [0, 1, 2] rfl rfl 0 rfl rfl rfl rfl rfl (Nat.le_of_ble_eq_true rfl) ⟨by decide, by decide⟩ ⟨by decide, by decide⟩ dX10_layRound_1) hP hD hS hA [0, 1, 2] [3, 4] rfl rfl rfl (by decide) (fun u_1 H locs hw_1 hP hD hS => ?_)
  obtain ⟨grw_1, rfl⟩ : ∃ z, z = u_1 := ⟨_, rfl⟩
  try dsimp only at hw_1
  have hP : va_P D classes [(sn, .inl (cyJ, 3001, .inr (.inl fsn))), (mn, .inl (cyI, 2, .inl fm)), (o, .inr (10, fs)), (rw, .inl (cyI, 30, .inl grw_1)), (nw, .inl (cyI, 30, .inl fnw))] H := hP
  have hD : va_D A [(sn, .inl (cyJ, 3001, .inr (.inl fsn))), (mn, .inl (cyI, 2, .inl fm)), (o, .inr (10, fs)), (rw, .inl (cyI, 30, .inl grw_1)), (nw, .inl (cyI, 30, .inl fnw))] := hD
  refine W.widen (k := 0) (n := 0) (by decide) (by decide) ?_
  refine lv_iconst (v := 0) hx hb dX10_layRound_4 (by decide) ?_
  refine lv_istore_n (lv' := [(1, .int 0), (0, .ref o)]) hx hb dX10_layRound_5 rfl hl (by decide) rfl (fun ls hl => ?_)
  refine lv_iload_n hx hb dX10_layRound_6 rfl (lv_at hl 0 rfl) ?_
  refine lv_sipush (v := 3000) hx hb dX10_layRound_7 (by decide) ?_
  refine lv_icmp_gt (tgt := 79) hx hb dX10_layRound_10 (by decide) (fun c_2 => absurd c_2 (by decide)) (fun c_2 => ?_)
  refine lv_aload_n hx hb dX10_layRound_13 rfl (lv_at hl 1 rfl) ?_
  refine gf hC hK hP iX10 2 rfl rfl 53 (by decide) mw_fieldLink_RX10_116_MirrorDrillModel_seen_J h_fs_53 dX10_layRound_14 ?_
  refine lv_iload_n hx hb dX10_layRound_17 rfl (lv_at hl 0 rfl) ?_
  refine lv_aload_n hx hb dX10_layRound_18 rfl (lv_at hl 1 rfl) ?_
  refine aftL (wr := [(sn, .inl (cyJ, 3001, .inr (.inl fsn))), (rw, .inl (cyI, 30, .inl grw_1)), (nw, .inl (cyI, 30, .inl fnw))]) (runV hC hK hP hD hl.1 (k_X10_rowNumber l D cyB cyI cyJ cyZ H.size o fs mn fm hl_fs h_fs_12 h_fs_37 h_fm_0) cV_X10_rowNumber mw_methodLink_RX10_446_yX10_rowNumber [2, 1] rfl rfl 2 rfl rfl rfl rfl rfl (Nat.le_of_ble_eq_true rfl) ⟨by decide, by decide⟩ ⟨by decide, by decide⟩ dX10_layRound_19) hP hD hS hA [2, 1] [0, 3, 4] rfl rfl rfl (by decide) (fun r_3 u_3 H locs hw_3 hP hD hS => ?_)
  have hr_3 := hw_3
  refine lv_cstL (v := 0) hr_3 ?_
  have hP : va_P D classes [(sn, .inl (cyJ, 3001, .inr (.inl fsn))), (rw, .inl (cyI, 30, .inl grw_1)), (nw, .inl (cyI, 30, .inl fnw)), (o, .inr (10, fs)), (mn, .inl (cyI, 2, .inl fm))] H := hP
  have hD : va_D A [(sn, .inl (cyJ, 3001, .inr (.inl fsn))), (rw, .inl (cyI, 30, .inl grw_1)), (nw, .inl (cyI, 30, .inl fnw)), (o, .inr (10, fs)), (mn, .inl (cyI, 2, .inl fm))] := hD
  refine W.widen (k := 0) (n := 0) (by decide) (by decide) ?_
  refine va_last hx hb hK hP hD hS 0 2 rfl rfl (vin (by decide)) dX10_layRound_22 (fun H locs hP hD hS => ?_)
  obtain ⟨f_4, ef_4⟩ : ∃ g : Nat → Int64, g = vp_updL fsn ((0 : Int32).toNatClampNeg) 0 := ⟨_, rfl⟩
  rw [← ef_4] at hP hD
  have hP : va_P D classes [(sn, .inl (cyJ, 3001, .inr (.inl f_4))), (rw, .inl (cyI, 30, .inl grw_1)), (nw, .inl (cyI, 30, .inl fnw)), (o, .inr (10, fs)), (mn, .inl (cyI, 2, .inl fm))] H := hP
  have hD : va_D A [(sn, .inl (cyJ, 3001, .inr (.inl f_4))), (rw, .inl (cyI, 30, .inl grw_1)), (nw, .inl (cyI, 30, .inl fnw)), (o, .inr (10, fs)), (mn, .inl (cyI, 2, .inl fm))] := hD
  refine lv_iconst (v := 0) hx hb dX10_layRound_23 (by decide) ?_
  refine lv_istore_n (lv' := [(2, .int 0), (1, .int 0), (0, .ref o)]) hx hb dX10_layRound_24 rfl hl (by decide) rfl (fun ls hl => ?_)
  refine lv_iload_n hx hb dX10_layRound_25 rfl (lv_at hl 0 rfl) ?_
  refine lv_iload_n hx hb dX10_layRound_26 rfl (lv_at hl 1 rfl) ?_
  refine lv_icmp_ge (tgt := 69) hx hb dX10_layRound_27 (by decide) (fun c_5 => ?_) (fun c_5 => absurd (by decide) c_5)
  refine lv_aload_n hx hb dX10_layRound_69 rfl (lv_at hl 2 rfl) ?_
  refine aftV (wr := [(sn, .inl (cyJ, 3001, .inr (.inl f_4))), (rw, .inl (cyI, 30, .inl grw_1)), (nw, .inl (cyI, 30, .inl fnw))]) (runV hC hK hP hD hl.1 (k_X10_beat l D cyB cyI cyJ cyZ H.size o fs mn fm hl_fs h_fs_12 h_fs_37 h_fm_0) cV_X10_beat mw_methodLink_RX10_421_yX10_beat [3, 4] rfl rfl 3 rfl rfl rfl rfl rfl (Nat.le_of_ble_eq_true rfl) ⟨by decide, by decide⟩ ⟨by decide, by decide⟩ dX10_layRound_70) hP hD hS hA [3, 4] [0, 1, 2] rfl rfl rfl (by decide) (fun u_6 H locs hw_6 hP hD hS => ?_)
  have hP : va_P D classes [(sn, .inl (cyJ, 3001, .inr (.inl f_4))), (rw, .inl (cyI, 30, .inl grw_1)), (nw, .inl (cyI, 30, .inl fnw)), (o, .inr (10, fs)), (mn, .inl (cyI, 2, .inl fm))] H := hP
  have hD : va_D A [(sn, .inl (cyJ, 3001, .inr (.inl f_4))), (rw, .inl (cyI, 30, .inl grw_1)), (nw, .inl (cyI, 30, .inl fnw)), (o, .inr (10, fs)), (mn, .inl (cyI, 2, .inl fm))] := hD
  refine W.widen (k := 0) (n := 0) (by decide) (by decide) ?_
  refine lv_iinc (v := 1) (lv' := [(1, .int 1), (2, .int 0), (0, .ref o)]) hx hb dX10_layRound_73 hl (k := 1) rfl (by decide) (by decide) rfl (fun ls hl => ?_)
  refine lv_goto (tgt := 6) hx hb dX10_layRound_76 (by decide) ?_
  refine lv_iload_n hx hb dX10_layRound_6 rfl (lv_at hl 0 rfl) ?_
  refine lv_sipush (v := 3000) hx hb dX10_layRound_7 (by decide) ?_
  refine lv_icmp_gt (tgt := 79) hx hb dX10_layRound_10 (by decide) (fun c_7 => absurd c_7 (by decide)) (fun c_7 => ?_)
  refine lv_aload_n hx hb dX10_layRound_13 rfl (lv_at hl 2 rfl) ?_
  refine gf hC hK hP iX10 3 rfl rfl 53 (by decide) mw_fieldLink_RX10_116_MirrorDrillModel_seen_J h_fs_53 dX10_layRound_14 ?_
  refine lv_iload_n hx hb dX10_layRound_17 rfl (lv_at hl 0 rfl) ?_
  refine lv_aload_n hx hb dX10_layRound_18 rfl (lv_at hl 2 rfl) ?_
  refine aftL (wr := [(sn, .inl (cyJ, 3001, .inr (.inl f_4))), (rw, .inl (cyI, 30, .inl grw_1)), (nw, .inl (cyI, 30, .inl fnw))]) (runV hC hK hP hD hl.1 (k_X10_rowNumber l D cyB cyI cyJ cyZ H.size o fs mn fm hl_fs h_fs_12 h_fs_37 h_fm_0) cV_X10_rowNumber mw_methodLink_RX10_446_yX10_rowNumber [3, 4] rfl rfl 3 rfl rfl rfl rfl rfl (Nat.le_of_ble_eq_true rfl) ⟨by decide, by decide⟩ ⟨by decide, by decide⟩ dX10_layRound_19) hP hD hS hA [3, 4] [0, 1, 2] rfl rfl rfl (by decide) (fun r_8 u_8 H locs hw_8 hP hD hS => ?_)
  have hr_8 := hw_8
  refine lv_cstL (v := 0) hr_8 ?_
  have hP : va_P D classes [(sn, .inl (cyJ, 3001, .inr (.inl f_4))), (rw, .inl (cyI, 30, .inl grw_1)), (nw, .inl (cyI, 30, .inl fnw)), (o, .inr (10, fs)), (mn, .inl (cyI, 2, .inl fm))] H := hP
  have hD : va_D A [(sn, .inl (cyJ, 3001, .inr (.inl f_4))), (rw, .inl (cyI, 30, .inl grw_1)), (nw, .inl (cyI, 30, .inl fnw)), (o, .inr (10, fs)), (mn, .inl (cyI, 2, .inl fm))] := hD
  refine W.widen (k := 0) (n := 0) (by decide) (by decide) ?_
  refine va_last hx hb hK hP hD hS 0 2 rfl rfl (vin (by decide)) dX10_layRound_22 (fun H locs hP hD hS => ?_)
  obtain ⟨f_9, ef_9⟩ : ∃ g : Nat → Int64, g = vp_updL f_4 ((1 : Int32).toNatClampNeg) 0 := ⟨_, rfl⟩
  rw [← ef_9] at hP hD
  have hP : va_P D classes [(sn, .inl (cyJ, 3001, .inr (.inl f_9))), (rw, .inl (cyI, 30, .inl grw_1)), (nw, .inl (cyI, 30, .inl fnw)), (o, .inr (10, fs)), (mn, .inl (cyI, 2, .inl fm))] H := hP
  have hD : va_D A [(sn, .inl (cyJ, 3001, .inr (.inl f_9))), (rw, .inl (cyI, 30, .inl grw_1)), (nw, .inl (cyI, 30, .inl fnw)), (o, .inr (10, fs)), (mn, .inl (cyI, 2, .inl fm))] := hD
  refine lv_iconst (v := 0) hx hb dX10_layRound_23 (by decide) ?_
  refine lv_istore_n (lv' := [(2, .int 0), (1, .int 1), (0, .ref o)]) hx hb dX10_layRound_24 rfl hl (by decide) rfl (fun ls hl => ?_)
  refine lv_iload_n hx hb dX10_layRound_25 rfl (lv_at hl 0 rfl) ?_
  refine lv_iload_n hx hb dX10_layRound_26 rfl (lv_at hl 1 rfl) ?_
  refine lv_icmp_ge (tgt := 69) hx hb dX10_layRound_27 (by decide) (fun c_10 => absurd c_10 (by decide)) (fun c_10 => ?_)
  refine lv_aload_n hx hb dX10_layRound_30 rfl (lv_at hl 2 rfl) ?_
  refine gf hC hK hP iX10 3 rfl rfl 53 (by decide) mw_fieldLink_RX10_116_MirrorDrillModel_seen_J h_fs_53 dX10_layRound_31 ?_
  refine lv_iload_n hx hb dX10_layRound_34 rfl (lv_at hl 0 rfl) ?_
  refine va_lald hx hb hK hP 0 2 rfl rfl (vin (by decide)) dX10_layRound_35 ?_
  refine lv_cstL (v := 0) (by rw [ef_9]; exact (unL_at (by decide)).trans (by rw [ef_4]; exact usL_at (by decide))) ?_
  refine lv_aload_n hx hb dX10_layRound_36 rfl (lv_at hl 2 rfl) ?_
  refine gf hC hK hP iX10 3 rfl rfl 53 (by decide) mw_fieldLink_RX10_116_MirrorDrillModel_seen_J h_fs_53 dX10_layRound_37 ?_
  refine lv_iload_n hx hb dX10_layRound_40 rfl (lv_at hl 1 rfl) ?_
  refine va_lald hx hb hK hP 0 2 rfl rfl (vin (by decide)) dX10_layRound_41 ?_
  refine lv_cstL (v := 0) (by rw [ef_9]; exact usL_at (by decide)) ?_
  refine W.lcmp hx hb dX10_layRound_42 ?_
  refine lv_cst (v := 0) (by decide) ?_
  refine lv_if_eq (tgt := 49) hx hb dX10_layRound_43 (by decide) (fun c_11 => ?_) (fun c_11 => absurd (by decide) c_11)
  refine lv_aload_n hx hb dX10_layRound_49 rfl (lv_at hl 2 rfl) ?_
  refine lv_iload_n hx hb dX10_layRound_50 rfl (lv_at hl 0 rfl) ?_
  refine pf (v := .int 0) hC hK hP hD hS iX10 tyX10_ok nmX10 3 rfl rfl 54 (by decide) mw_fieldLink_RX10_450_MirrorDrillModel_tail_I rfl rfl rfl (ln_lt hl_fs (by decide)) dX10_layRound_51 (fun H locs hP hD hS => ?_)
  have hP : va_P D classes [(sn, .inl (cyJ, 3001, .inr (.inl f_9))), (rw, .inl (cyI, 30, .inl grw_1)), (nw, .inl (cyI, 30, .inl fnw)), (o, .inr (10, (fs.set 54 (.int 0)))), (mn, .inl (cyI, 2, .inl fm))] H := hP
  have hD : va_D A [(sn, .inl (cyJ, 3001, .inr (.inl f_9))), (rw, .inl (cyI, 30, .inl grw_1)), (nw, .inl (cyI, 30, .inl fnw)), (o, .inr (10, (fs.set 54 (.int 0)))), (mn, .inl (cyI, 2, .inl fm))] := hD
  refine lv_aload_n hx hb dX10_layRound_54 rfl (lv_at hl 2 rfl) ?_
  refine lv_iload_n hx hb dX10_layRound_55 rfl (lv_at hl 1 rfl) ?_
  refine lv_iload_n hx hb dX10_layRound_56 rfl (lv_at hl 0 rfl) ?_
  refine lv_isub hx hb dX10_layRound_57 ?_
  refine lv_cst (v := 1) (by decide) ?_
  refine pf (v := .int 1) hC hK hP hD hS iX10 tyX10_ok nmX10 3 rfl rfl 55 (by decide) mw_fieldLink_RX10_453_MirrorDrillModel_loop_I rfl rfl rfl (ln_lt (ln_set hl_fs) (by decide)) dX10_layRound_58 (fun H locs hP hD hS => ?_)
  have hP : va_P D classes [(sn, .inl (cyJ, 3001, .inr (.inl f_9))), (rw, .inl (cyI, 30, .inl grw_1)), (nw, .inl (cyI, 30, .inl fnw)), (o, .inr (10, ((fs.set 54 (.int 0)).set 55 (.int 1)))), (mn, .inl (cyI, 2, .inl fm))] H := hP
  have hD : va_D A [(sn, .inl (cyJ, 3001, .inr (.inl f_9))), (rw, .inl (cyI, 30, .inl grw_1)), (nw, .inl (cyI, 30, .inl fnw)), (o, .inr (10, ((fs.set 54 (.int 0)).set 55 (.int 1)))), (mn, .inl (cyI, 2, .inl fm))] := hD
  refine lv_iconst (v := 1) hx hb dX10_layRound_61 (by decide) ?_
  exact retZ hC hP hD hS (by decide) (by decide) () [3] rfl rfl rfl rfl dX10_layRound_62
set_option maxHeartbeats 4000000 in
set_option maxRecDepth 100000 in
theorem k_X10_round (l : Launch) (D : va_G) (cyB cyI cyJ cyZ : ClassId) (sz : Nat) (o : Nat) (p0 : Int32) (fs : List Value) (rw : Nat) (nw : Nat) (sn : Nat) (mn : Nat) (frw : Nat → Int32) (fnw : Nat → Int32) (fsn : Nat → Int64) (fm : Nat → Int32) (hl_fs : fs.length = 80) (h_fs_43 : fs[43]? = some (.ref rw)) (h_fs_45 : fs[45]? = some (.ref nw)) (h_fs_53 : fs[53]? = some (.ref sn)) (h_fs_12 : fs[12]? = some (.ref mn)) (h_fs_37 : fs[37]? = some (.int 0)) (h_fm_0 : fm 0 = 0) : KI l yX10_round cX10_round 2 .int 3 0 0 D (TYS cyB cyI cyJ cyZ) [(o, .inr (10, fs)), (rw, .inl (cyI, 30, .inl frw)), (nw, .inl (cyI, 30, .inl fnw)), (sn, .inl (cyJ, 3001, .inr (.inl fsn))), (mn, .inl (cyI, 2, .inl fm))] sz [.ref o, .int p0] (fun (r : Int32) (u : Unit) => r = sp_round p0) (fun (u : Unit) => ([] : va_W)) := by
  refine entI (by decide) (Nat.le_of_ble_eq_true rfl) ?_
  intro p e s m below meth c ls A hC hl hP hK hD hA
  obtain ⟨hx, hb, hr, hml, hown, hts, hlk, hnm⟩ := id hC
  have hS : va_S A s.heap s.heap [] := va_S.rf
  have hl : lv_has ls 2 [(0, .ref o), (1, .int p0)] := hl
  generalize hHe : s.heap = H at hP ⊢
  rw [hHe] at hS
  have hS : va_S A s.heap H [] := by rw [hHe]; exact hS
  refine lv_iload_n hx hb dX10_round_0 rfl (lv_at hl 1 rfl) ?_
  refine lv_iconst (v := 0) hx hb dX10_round_1 (by decide) ?_
  refine lv_iconst (v := 1) hx hb dX10_round_2 (by decide) ?_
  refine aftI (wr := [(o, .inr (10, fs)), (rw, .inl (cyI, 30, .inl frw)), (nw, .inl (cyI, 30, .inl fnw)), (sn, .inl (cyJ, 3001, .inr (.inl fsn))), (mn, .inl (cyI, 2, .inl fm))]) (runS hC hK hP hD hl.1 (k_X10_isIn l D cyB cyI cyJ cyZ H.size p0 0 1 ) cS_X10_isIn mw_methodLink_RX10_378_yX10_isIn [] rfl rfl rfl rfl (Nat.le_of_ble_eq_true rfl) ⟨by decide, by decide⟩ ⟨by decide, by decide⟩ dX10_round_3) hP hD hS hA [] [0, 1, 2, 3, 4] rfl rfl rfl (by decide) (fun r_1 u_1 H locs hw_1 hP hD hS => ?_)
  have hr_1 := hw_1
  have hP : va_P D classes [(o, .inr (10, fs)), (rw, .inl (cyI, 30, .inl frw)), (nw, .inl (cyI, 30, .inl fnw)), (sn, .inl (cyJ, 3001, .inr (.inl fsn))), (mn, .inl (cyI, 2, .inl fm))] H := hP
  have hD : va_D A [(o, .inr (10, fs)), (rw, .inl (cyI, 30, .inl frw)), (nw, .inl (cyI, 30, .inl fnw)), (sn, .inl (cyJ, 3001, .inr (.inl fsn))), (mn, .inl (cyI, 2, .inl fm))] := hD
  refine W.widen (k := 0) (n := 0) (by decide) (by decide) ?_
  rcases hr_1 with ⟨e_1, p_1⟩ | ⟨e_1, p_1⟩
  · refine lv_cst (v := 1) e_1 ?_
    refine lv_if_ne (tgt := 11) hx hb dX10_round_6 (by decide) (fun c_2 => ?_) (fun c_2 => absurd c_2 (by decide))
    refine lv_aload_n hx hb dX10_round_11 rfl (lv_at hl 0 rfl) ?_
    refine aftI (wr := []) (runV hC hK hP hD hl.1 (k_X10_layRound l D cyB cyI cyJ cyZ H.size o fs rw nw sn mn frw fnw fsn fm hl_fs h_fs_43 h_fs_45 h_fs_53 h_fs_12 h_fs_37 h_fm_0) cV_X10_layRound mw_methodLink_RX10_456_yX10_layRound [0, 1, 2, 3, 4] rfl rfl 0 rfl rfl rfl rfl rfl (Nat.le_of_ble_eq_true rfl) ⟨by decide, by decide⟩ ⟨by decide, by decide⟩ dX10_round_12) hP hD hS hA [0, 1, 2, 3, 4] [] rfl rfl rfl (by decide) (fun r_3 u_3 H locs hw_3 hP hD hS => ?_)
    have hr_3 := hw_3
    refine lv_cst (v := 1) hr_3 ?_
    have hP : va_P D classes [(o, .inr (10, ((fs.set 54 (.int 0)).set 55 (.int 1))))] H := hP
    have hD : va_D A [(o, .inr (10, ((fs.set 54 (.int 0)).set 55 (.int 1))))] := hD
    refine W.widen (k := 0) (n := 0) (by decide) (by decide) ?_
    refine lv_if_ne (tgt := 21) hx hb dX10_round_15 (by decide) (fun c_4 => ?_) (fun c_4 => absurd c_4 (by decide))
    refine lv_iload_n hx hb dX10_round_21 rfl (lv_at hl 1 rfl) ?_
    refine lv_if_ne (tgt := 32) hx hb dX10_round_22 (by decide) (fun c_5 => ?_) (fun c_5 => ?_)
    · refine lv_aload_n hx hb dX10_round_32 rfl (lv_at hl 0 rfl) ?_
      refine gf hC hK hP iX10 0 rfl rfl 55 (by decide) mw_fieldLink_RX10_453_MirrorDrillModel_loop_I (gs_eq (ln_lt (ln_set hl_fs) (by decide))) dX10_round_33 ?_
      exact retI hC hP hD hS (by decide) (by decide) () [] rfl rfl (by have z0 := p_1; have z1 := zt_ne c_5; have y0 : ((-1) : Int32).toInt = (-1) := (by decide); have y1 : (0 : Int32).toInt = 0 := (by decide); have y2 : (1 : Int32).toInt = 1 := (by decide); unfold sp_round; (repeat' split) <;> first | rfl | (exact Int32.zero_add _) | (exfalso; omega)) dX10_round_36
    · refine lv_aload_n hx hb dX10_round_25 rfl (lv_at hl 0 rfl) ?_
      refine gf hC hK hP iX10 0 rfl rfl 54 (by decide) mw_fieldLink_RX10_450_MirrorDrillModel_tail_I (gs_ne (by decide) (gs_eq (ln_lt hl_fs (by decide)))) dX10_round_26 ?_
      refine lv_goto (tgt := 36) hx hb dX10_round_29 (by decide) ?_
      exact retI hC hP hD hS (by decide) (by decide) () [] rfl rfl (by have z0 := p_1; have z1 := zt_eq c_5; have y0 : ((-1) : Int32).toInt = (-1) := (by decide); have y1 : (0 : Int32).toInt = 0 := (by decide); have y2 : (1 : Int32).toInt = 1 := (by decide); unfold sp_round; (repeat' split) <;> first | rfl | (exact Int32.zero_add _) | (exfalso; omega)) dX10_round_36
  · refine lv_cst (v := 0) e_1 ?_
    refine lv_if_ne (tgt := 11) hx hb dX10_round_6 (by decide) (fun c_6 => absurd (by decide) c_6) (fun c_6 => ?_)
    refine lv_iconst (v := (-1)) hx hb dX10_round_9 (by decide) ?_
    exact retI hC hP hD hS (by decide) (by decide) () [] rfl rfl (by have z0 := p_1; have y0 : ((-1) : Int32).toInt = (-1) := (by decide); have y1 : (0 : Int32).toInt = 0 := (by decide); have y2 : (1 : Int32).toInt = 1 := (by decide); unfold sp_round; (repeat' split) <;> first | rfl | (exact Int32.zero_add _) | (exfalso; omega)) dX10_round_10
set_option maxHeartbeats 4000000 in
set_option maxRecDepth 100000 in
theorem k_X10_countAhead (l : Launch) (D : va_G) (cyB cyI cyJ cyZ : ClassId) (sz : Nat) (o : Nat) (fs : List Value) (mn : Nat) (fm : Nat → Int32) (hl_fs : fs.length = 80) (h_fs_12 : fs[12]? = some (.ref mn)) (h_fs_37 : fs[37]? = some (.int 0)) (h_fm_0 : fm 0 = 0) : KL l yX10_countAhead cX10_countAhead 6 1 0 0 D (TYS cyB cyI cyJ cyZ) [(o, .inr (10, fs)), (mn, .inl (cyI, 2, .inl fm))] sz [.ref o] (fun (r : Int64) (u : Unit) => r = 1) (fun (u : Unit) => ([(o, .inr (10, fs)), (mn, .inl (cyI, 2, .inl fm))] : va_W)) := by
  refine entL (by decide) (Nat.le_of_ble_eq_true rfl) ?_
  intro p e s m below meth c ls A hC hl hP hK hD hA
  obtain ⟨hx, hb, hr, hml, hown, hts, hlk, hnm⟩ := id hC
  have hS : va_S A s.heap s.heap [] := va_S.rf
  have hl : lv_has ls 6 [(0, .ref o)] := hl
  generalize hHe : s.heap = H at hP ⊢
  rw [hHe] at hS
  have hS : va_S A s.heap H [] := by rw [hHe]; exact hS
  refine lv_aload_n hx hb dX10_countAhead_0 rfl (lv_at hl 0 rfl) ?_
  refine aftI (wr := []) (runV hC hK hP hD hl.1 (k_X10_manyOf l D cyB cyI cyJ cyZ H.size o fs mn fm hl_fs h_fs_12 h_fs_37 h_fm_0) cV_X10_manyOf mw_methodLink_RX10_375_yX10_manyOf [0, 1] rfl rfl 0 rfl rfl rfl rfl rfl (Nat.le_of_ble_eq_true rfl) ⟨by decide, by decide⟩ ⟨by decide, by decide⟩ dX10_countAhead_1) hP hD hS hA [0, 1] [] rfl rfl rfl (by decide) (fun r_1 u_1 H locs hw_1 hP hD hS => ?_)
  have hr_1 := hw_1
  refine lv_cst (v := 0) hr_1 ?_
  have hP : va_P D classes [(o, .inr (10, fs)), (mn, .inl (cyI, 2, .inl fm))] H := hP
  have hD : va_D A [(o, .inr (10, fs)), (mn, .inl (cyI, 2, .inl fm))] := hD
  refine W.widen (k := 0) (n := 0) (by decide) (by decide) ?_
  refine lv_istore_n (lv' := [(1, .int 0), (0, .ref o)]) hx hb dX10_countAhead_4 rfl hl (by decide) rfl (fun ls hl => ?_)
  refine lv_iload_n hx hb dX10_countAhead_5 rfl (lv_at hl 0 rfl) ?_
  refine lv_if_ne (tgt := 11) hx hb dX10_countAhead_6 (by decide) (fun c_2 => absurd (by decide) c_2) (fun c_2 => ?_)
  refine lv_lconst (v := 1) hx hb dX10_countAhead_9 (by decide) ?_
  exact retL hC hP hD hS (by decide) (by decide) () [0, 1] rfl rfl rfl dX10_countAhead_10
set_option maxHeartbeats 4000000 in
set_option maxRecDepth 100000 in
theorem k_X10_before (l : Launch) (D : va_G) (cyB cyI cyJ cyZ : ClassId) (sz : Nat) (o : Nat) (fs : List Value) (gv : Nat) (mn : Nat) (fgv : Nat → Int32) (fm : Nat → Int32) (hl_fs : fs.length = 80) (h_fs_56 : fs[56]? = some (.ref gv)) (h_fs_12 : fs[12]? = some (.ref mn)) (h_fs_37 : fs[37]? = some (.int 0)) (h_fm_0 : fm 0 = 0) : KL l yX10_before cX10_before 4 2 0 0 D (TYS cyB cyI cyJ cyZ) [(o, .inr (10, fs)), (gv, .inl (cyI, 30, .inl fgv)), (mn, .inl (cyI, 2, .inl fm))] sz [.ref o] (fun (r : Int64) (u : Unit) => r = 1) (fun (u : Unit) => ([] : va_W)) := by
  refine entL (by decide) (Nat.le_of_ble_eq_true rfl) ?_
  intro p e s m below meth c ls A hC hl hP hK hD hA
  obtain ⟨hx, hb, hr, hml, hown, hts, hlk, hnm⟩ := id hC
  have hS : va_S A s.heap s.heap [] := va_S.rf
  have hl : lv_has ls 4 [(0, .ref o)] := hl
  generalize hHe : s.heap = H at hP ⊢
  rw [hHe] at hS
  have hS : va_S A s.heap H [] := by rw [hHe]; exact hS
  refine lv_aload_n hx hb dX10_before_0 rfl (lv_at hl 0 rfl) ?_
  refine lv_iconst (v := 0) hx hb dX10_before_1 (by decide) ?_
  refine pf (v := .int 0) hC hK hP hD hS iX10 tyX10_ok nmX10 0 rfl rfl 60 (by decide) mw_fieldLink_RX10_297_MirrorDrillModel_laid_I rfl rfl rfl (ln_lt hl_fs (by decide)) dX10_before_2 (fun H locs hP hD hS => ?_)
  have hP : va_P D classes [(o, .inr (10, (fs.set 60 (.int 0)))), (gv, .inl (cyI, 30, .inl fgv)), (mn, .inl (cyI, 2, .inl fm))] H := hP
  have hD : va_D A [(o, .inr (10, (fs.set 60 (.int 0)))), (gv, .inl (cyI, 30, .inl fgv)), (mn, .inl (cyI, 2, .inl fm))] := hD
  refine lv_iconst (v := 0) hx hb dX10_before_5 (by decide) ?_
  refine lv_istore_n (lv' := [(1, .int 0), (0, .ref o)]) hx hb dX10_before_6 rfl hl (by decide) rfl (fun ls hl => ?_)
  have lp : ∀ (n i : Nat) (g0 : Nat → Int32) (H : Heap) (locs : List Loc) (ls : Array Slot), i + n = 30 → lv_has ls 4 [(1, .int (nI i)), (0, .ref o)] → va_P D classes [(o, .inr (10, (fs.set 60 (.int 0)))), (gv, .inl (cyI, 30, .inl g0)), (mn, .inl (cyI, 2, .inl fm))] H → va_D A [(o, .inr (10, (fs.set 60 (.int 0)))), (gv, .inl (cyI, 30, .inl g0)), (mn, .inl (cyI, 2, .inl fm))] → va_S A s.heap H locs → W p l e (rmK 2 0 0) s m ([.ref o] : List Value).toArray below meth c H locs 0 0 (MQ below (va_Ql (fun (r : Int64) (u : Unit) => r = 1) (fun u => Aft D A ((fun (u : Unit) => ([] : va_W)) u)) A) ([.ref o] : List Value).toArray s 0 0 A) (F0 m 7 ls []) := by
    intro n
    induction n with
    | zero =>
      intro i g0 H locs ls hi hl hP hD hS
      obtain rfl : i = 30 := by omega
      refine lv_iload_n hx hb dX10_before_7 rfl (lv_at hl 0 rfl) ?_
      refine lv_bipush (v := 30) hx hb dX10_before_8 (by decide) ?_
      refine lv_icmp_ge (tgt := 26) hx hb dX10_before_10 (by decide) (fun c_1 => ?_) (fun c_1 => absurd (by decide) c_1)
      refine lv_aload_n hx hb dX10_before_26 rfl (lv_at hl 1 rfl) ?_
      refine aftL (wr := [(gv, .inl (cyI, 30, .inl g0))]) (runV hC hK hP hD hl.1 (k_X10_countAhead l D cyB cyI cyJ cyZ H.size o (fs.set 60 (.int 0)) mn fm (ln_set hl_fs) (gs_ne (by decide) h_fs_12) (gs_ne (by decide) h_fs_37) h_fm_0) cV_X10_countAhead mw_methodLink_RX10_473_yX10_countAhead [0, 2] rfl rfl 0 rfl rfl rfl rfl rfl (Nat.le_of_ble_eq_true rfl) ⟨by decide, by decide⟩ ⟨by decide, by decide⟩ dX10_before_27) hP hD hS hA [0, 2] [1] rfl rfl rfl (by decide) (fun r_2 u_2 H locs hw_2 hP hD hS => ?_)
      have hr_2 := hw_2
      refine lv_cstL (v := 1) hr_2 ?_
      have hP : va_P D classes [(gv, .inl (cyI, 30, .inl g0)), (o, .inr (10, (fs.set 60 (.int 0)))), (mn, .inl (cyI, 2, .inl fm))] H := hP
      have hD : va_D A [(gv, .inl (cyI, 30, .inl g0)), (o, .inr (10, (fs.set 60 (.int 0)))), (mn, .inl (cyI, 2, .inl fm))] := hD
      refine W.widen (k := 0) (n := 0) (by decide) (by decide) ?_
      refine lv_lstore_n (lv' := [(1, .long 1), (0, .ref o)]) hx hb dX10_before_30 rfl hl (by decide) rfl (fun ls hl => ?_)
      refine lv_lload_n hx hb dX10_before_31 rfl (lv_at hl 0 rfl) ?_
      refine lv_lconst (v := 0) hx hb dX10_before_32 (by decide) ?_
      refine W.lcmp hx hb dX10_before_33 ?_
      refine lv_cst (v := 1) (by decide) ?_
      refine lv_if_ne (tgt := 39) hx hb dX10_before_34 (by decide) (fun c_3 => ?_) (fun c_3 => absurd c_3 (by decide))
      refine lv_iconst (v := 0) hx hb dX10_before_39 (by decide) ?_
      refine lv_istore_n (lv' := [(3, .int 0), (1, .long 1), (0, .ref o)]) hx hb dX10_before_40 rfl hl (by decide) rfl (fun ls hl => ?_)
      refine lv_iload_n hx hb dX10_before_41 rfl (lv_at hl 0 rfl) ?_
      refine lv_aload_n hx hb dX10_before_42 rfl (lv_at hl 2 rfl) ?_
      refine aftI (wr := [(gv, .inl (cyI, 30, .inl g0))]) (runV hC hK hP hD hl.1 (k_X10_manyOf l D cyB cyI cyJ cyZ H.size o (fs.set 60 (.int 0)) mn fm (ln_set hl_fs) (gs_ne (by decide) h_fs_12) (gs_ne (by decide) h_fs_37) h_fm_0) cV_X10_manyOf mw_methodLink_RX10_375_yX10_manyOf [1, 2] rfl rfl 1 rfl rfl rfl rfl rfl (Nat.le_of_ble_eq_true rfl) ⟨by decide, by decide⟩ ⟨by decide, by decide⟩ dX10_before_43) hP hD hS hA [1, 2] [0] rfl rfl rfl (by decide) (fun r_4 u_4 H locs hw_4 hP hD hS => ?_)
      have hr_4 := hw_4
      refine lv_cst (v := 0) hr_4 ?_
      have hP : va_P D classes [(gv, .inl (cyI, 30, .inl g0)), (o, .inr (10, (fs.set 60 (.int 0)))), (mn, .inl (cyI, 2, .inl fm))] H := hP
      have hD : va_D A [(gv, .inl (cyI, 30, .inl g0)), (o, .inr (10, (fs.set 60 (.int 0)))), (mn, .inl (cyI, 2, .inl fm))] := hD
      refine W.widen (k := 0) (n := 0) (by decide) (by decide) ?_
      refine lv_icmp_ge (tgt := 96) hx hb dX10_before_46 (by decide) (fun c_5 => ?_) (fun c_5 => absurd (by decide) c_5)
      refine lv_aload_n hx hb dX10_before_96 rfl (lv_at hl 2 rfl) ?_
      refine lv_aload_n hx hb dX10_before_97 rfl (lv_at hl 2 rfl) ?_
      refine aftI (wr := [(gv, .inl (cyI, 30, .inl g0))]) (runV hC hK hP hD hl.1 (k_X10_manyOf l D cyB cyI cyJ cyZ H.size o (fs.set 60 (.int 0)) mn fm (ln_set hl_fs) (gs_ne (by decide) h_fs_12) (gs_ne (by decide) h_fs_37) h_fm_0) cV_X10_manyOf mw_methodLink_RX10_375_yX10_manyOf [1, 2] rfl rfl 1 rfl rfl rfl rfl rfl (Nat.le_of_ble_eq_true rfl) ⟨by decide, by decide⟩ ⟨by decide, by decide⟩ dX10_before_98) hP hD hS hA [1, 2] [0] rfl rfl rfl (by decide) (fun r_6 u_6 H locs hw_6 hP hD hS => ?_)
      have hr_6 := hw_6
      refine lv_cst (v := 0) hr_6 ?_
      have hP : va_P D classes [(gv, .inl (cyI, 30, .inl g0)), (o, .inr (10, (fs.set 60 (.int 0)))), (mn, .inl (cyI, 2, .inl fm))] H := hP
      have hD : va_D A [(gv, .inl (cyI, 30, .inl g0)), (o, .inr (10, (fs.set 60 (.int 0)))), (mn, .inl (cyI, 2, .inl fm))] := hD
      refine W.widen (k := 0) (n := 0) (by decide) (by decide) ?_
      refine pf (v := .int 0) hC hK hP hD hS iX10 tyX10_ok nmX10 1 rfl rfl 60 (by decide) mw_fieldLink_RX10_297_MirrorDrillModel_laid_I rfl rfl rfl (ln_lt (ln_set hl_fs) (by decide)) dX10_before_101 (fun H locs hP hD hS => ?_)
      have hP : va_P D classes [(gv, .inl (cyI, 30, .inl g0)), (o, .inr (10, ((fs.set 60 (.int 0)).set 60 (.int 0)))), (mn, .inl (cyI, 2, .inl fm))] H := hP
      have hD : va_D A [(gv, .inl (cyI, 30, .inl g0)), (o, .inr (10, ((fs.set 60 (.int 0)).set 60 (.int 0)))), (mn, .inl (cyI, 2, .inl fm))] := hD
      refine lv_aload_n hx hb dX10_before_104 rfl (lv_at hl 2 rfl) ?_
      refine lv_iconst (v := 0) hx hb dX10_before_105 (by decide) ?_
      refine pf (v := .int 0) hC hK hP hD hS iX10 tyX10_ok nmX10 1 rfl rfl 64 (by decide) mw_fieldLink_RX10_476_MirrorDrillModel_isOrphan_Z rfl rfl rfl (ln_lt (ln_set (ln_set hl_fs)) (by decide)) dX10_before_106 (fun H locs hP hD hS => ?_)
      have hP : va_P D classes [(gv, .inl (cyI, 30, .inl g0)), (o, .inr (10, (((fs.set 60 (.int 0)).set 60 (.int 0)).set 64 (.int 0)))), (mn, .inl (cyI, 2, .inl fm))] H := hP
      have hD : va_D A [(gv, .inl (cyI, 30, .inl g0)), (o, .inr (10, (((fs.set 60 (.int 0)).set 60 (.int 0)).set 64 (.int 0)))), (mn, .inl (cyI, 2, .inl fm))] := hD
      refine lv_lload_n hx hb dX10_before_109 rfl (lv_at hl 1 rfl) ?_
      exact retL hC hP hD hS (by decide) (by decide) () [] rfl rfl rfl dX10_before_110
    | succ n ih =>
      intro i g0 H locs ls hi hl hP hD hS
      have hlt : i < 30 := by omega
      refine lv_iload_n hx hb dX10_before_7 rfl (lv_at hl 0 rfl) ?_
      refine lv_bipush (v := 30) hx hb dX10_before_8 (by decide) ?_
      refine lv_icmp_ge (tgt := 26) hx hb dX10_before_10 (by decide) (fun c_7 => absurd c_7 (nI_ge (b := 30) hlt (by decide))) (fun c_7 => ?_)
      refine lv_aload_n hx hb dX10_before_13 rfl (lv_at hl 1 rfl) ?_
      refine gf hC hK hP iX10 0 rfl rfl 56 (by decide) mw_fieldLink_RX10_119_MirrorDrillModel_given_I (gs_ne (by decide) h_fs_56) dX10_before_14 ?_
      refine lv_iload_n hx hb dX10_before_17 rfl (lv_at hl 0 rfl) ?_
      refine lv_iconst (v := (-1)) hx hb dX10_before_18 (by decide) ?_
      refine va_iast hx hb hK hP hD hS 1 1 rfl rfl (vp_in_nI (by omega) (by decide)) dX10_before_19 (fun H locs hP hD hS => ?_)
      obtain ⟨f_8, ef_8⟩ : ∃ g : Nat → Int32, g = upd g0 (((nI i) : Int32).toNatClampNeg) (-1) := ⟨_, rfl⟩
      rw [← ef_8] at hP hD
      have hP : va_P D classes [(o, .inr (10, (fs.set 60 (.int 0)))), (gv, .inl (cyI, 30, .inl f_8)), (mn, .inl (cyI, 2, .inl fm))] H := hP
      have hD : va_D A [(o, .inr (10, (fs.set 60 (.int 0)))), (gv, .inl (cyI, 30, .inl f_8)), (mn, .inl (cyI, 2, .inl fm))] := hD
      refine lv_iinc (v := (nI (i + 1))) (lv' := [(1, .int (nI (i + 1))), (0, .ref o)]) hx hb dX10_before_20 hl (k := 0) rfl (nI_1 _) (by decide) rfl (fun ls hl => ?_)
      refine lv_goto (tgt := 7) hx hb dX10_before_23 (by decide) ?_
      exact ih (i + 1) f_8 _ _ _ (by omega) (lv_sub hl [0, 1] rfl) hP hD hS
  exact lp 30 0 fgv _ _ _ (by decide) hl hP hD hS
set_option maxHeartbeats 4000000 in
set_option maxRecDepth 100000 in
theorem k_X10_bitsOf (l : Launch) (D : va_G) (cyB cyI cyJ cyZ : ClassId) (sz : Nat)  : KI l yX10_bitsOf cX10_bitsOf 3 .int 0 0 0 D (TYS cyB cyI cyJ cyZ) [] sz [.int 0] (fun (r : Int32) (u : Unit) => r = 0) (fun (u : Unit) => ([] : va_W)) := by
  refine entI (by decide) (Nat.le_of_ble_eq_true rfl) ?_
  intro p e s m below meth c ls A hC hl hP hK hD hA
  obtain ⟨hx, hb, hr, hml, hown, hts, hlk, hnm⟩ := id hC
  have hS : va_S A s.heap s.heap [] := va_S.rf
  have hl : lv_has ls 3 [(0, .int 0)] := hl
  generalize hHe : s.heap = H at hP ⊢
  rw [hHe] at hS
  have hS : va_S A s.heap H [] := by rw [hHe]; exact hS
  refine lv_iconst (v := 0) hx hb dX10_bitsOf_0 (by decide) ?_
  refine lv_istore_n (lv' := [(1, .int 0), (0, .int 0)]) hx hb dX10_bitsOf_1 rfl hl (by decide) rfl (fun ls hl => ?_)
  refine lv_iconst (v := 0) hx hb dX10_bitsOf_2 (by decide) ?_
  refine lv_istore_n (lv' := [(2, .int 0), (1, .int 0), (0, .int 0)]) hx hb dX10_bitsOf_3 rfl hl (by decide) rfl (fun ls hl => ?_)
  refine lv_iload_n hx hb dX10_bitsOf_4 rfl (lv_at hl 0 rfl) ?_
  refine lv_bipush (v := 31) hx hb dX10_bitsOf_5 (by decide) ?_
  refine lv_icmp_ge (tgt := 24) hx hb dX10_bitsOf_7 (by decide) (fun c_1 => absurd c_1 (by decide)) (fun c_1 => ?_)
  refine lv_iload_n hx hb dX10_bitsOf_10 rfl (lv_at hl 1 rfl) ?_
  refine lv_iload_n hx hb dX10_bitsOf_11 rfl (lv_at hl 2 rfl) ?_
  refine lv_iload_n hx hb dX10_bitsOf_12 rfl (lv_at hl 0 rfl) ?_
  refine lv_ishr hx hb dX10_bitsOf_13 ?_
  refine lv_cst (v := 0) (by decide) ?_
  refine lv_iconst (v := 1) hx hb dX10_bitsOf_14 (by decide) ?_
  refine lv_iand hx hb dX10_bitsOf_15 ?_
  refine lv_cst (v := 0) (by decide) ?_
  refine lv_iadd hx hb dX10_bitsOf_16 ?_
  refine lv_cst (v := 0) (by decide) ?_
  refine lv_istore_n (lv' := [(1, .int 0), (2, .int 0), (0, .int 0)]) hx hb dX10_bitsOf_17 rfl hl (by decide) rfl (fun ls hl => ?_)
  refine lv_iinc (v := 1) (lv' := [(2, .int 1), (1, .int 0), (0, .int 0)]) hx hb dX10_bitsOf_18 hl (k := 1) rfl (by decide) (by decide) rfl (fun ls hl => ?_)
  refine lv_goto (tgt := 4) hx hb dX10_bitsOf_21 (by decide) ?_
  refine lv_iload_n hx hb dX10_bitsOf_4 rfl (lv_at hl 0 rfl) ?_
  refine lv_bipush (v := 31) hx hb dX10_bitsOf_5 (by decide) ?_
  refine lv_icmp_ge (tgt := 24) hx hb dX10_bitsOf_7 (by decide) (fun c_2 => absurd c_2 (by decide)) (fun c_2 => ?_)
  refine lv_iload_n hx hb dX10_bitsOf_10 rfl (lv_at hl 1 rfl) ?_
  refine lv_iload_n hx hb dX10_bitsOf_11 rfl (lv_at hl 2 rfl) ?_
  refine lv_iload_n hx hb dX10_bitsOf_12 rfl (lv_at hl 0 rfl) ?_
  refine lv_ishr hx hb dX10_bitsOf_13 ?_
  refine lv_cst (v := 0) (by decide) ?_
  refine lv_iconst (v := 1) hx hb dX10_bitsOf_14 (by decide) ?_
  refine lv_iand hx hb dX10_bitsOf_15 ?_
  refine lv_cst (v := 0) (by decide) ?_
  refine lv_iadd hx hb dX10_bitsOf_16 ?_
  refine lv_cst (v := 0) (by decide) ?_
  refine lv_istore_n (lv' := [(1, .int 0), (2, .int 1), (0, .int 0)]) hx hb dX10_bitsOf_17 rfl hl (by decide) rfl (fun ls hl => ?_)
  refine lv_iinc (v := 2) (lv' := [(2, .int 2), (1, .int 0), (0, .int 0)]) hx hb dX10_bitsOf_18 hl (k := 1) rfl (by decide) (by decide) rfl (fun ls hl => ?_)
  refine lv_goto (tgt := 4) hx hb dX10_bitsOf_21 (by decide) ?_
  refine lv_iload_n hx hb dX10_bitsOf_4 rfl (lv_at hl 0 rfl) ?_
  refine lv_bipush (v := 31) hx hb dX10_bitsOf_5 (by decide) ?_
  refine lv_icmp_ge (tgt := 24) hx hb dX10_bitsOf_7 (by decide) (fun c_3 => absurd c_3 (by decide)) (fun c_3 => ?_)
  refine lv_iload_n hx hb dX10_bitsOf_10 rfl (lv_at hl 1 rfl) ?_
  refine lv_iload_n hx hb dX10_bitsOf_11 rfl (lv_at hl 2 rfl) ?_
  refine lv_iload_n hx hb dX10_bitsOf_12 rfl (lv_at hl 0 rfl) ?_
  refine lv_ishr hx hb dX10_bitsOf_13 ?_
  refine lv_cst (v := 0) (by decide) ?_
  refine lv_iconst (v := 1) hx hb dX10_bitsOf_14 (by decide) ?_
  refine lv_iand hx hb dX10_bitsOf_15 ?_
  refine lv_cst (v := 0) (by decide) ?_
  refine lv_iadd hx hb dX10_bitsOf_16 ?_
  refine lv_cst (v := 0) (by decide) ?_
  refine lv_istore_n (lv' := [(1, .int 0), (2, .int 2), (0, .int 0)]) hx hb dX10_bitsOf_17 rfl hl (by decide) rfl (fun ls hl => ?_)
  refine lv_iinc (v := 3) (lv' := [(2, .int 3), (1, .int 0), (0, .int 0)]) hx hb dX10_bitsOf_18 hl (k := 1) rfl (by decide) (by decide) rfl (fun ls hl => ?_)
  refine lv_goto (tgt := 4) hx hb dX10_bitsOf_21 (by decide) ?_
  refine lv_iload_n hx hb dX10_bitsOf_4 rfl (lv_at hl 0 rfl) ?_
  refine lv_bipush (v := 31) hx hb dX10_bitsOf_5 (by decide) ?_
  refine lv_icmp_ge (tgt := 24) hx hb dX10_bitsOf_7 (by decide) (fun c_4 => absurd c_4 (by decide)) (fun c_4 => ?_)
  refine lv_iload_n hx hb dX10_bitsOf_10 rfl (lv_at hl 1 rfl) ?_
  refine lv_iload_n hx hb dX10_bitsOf_11 rfl (lv_at hl 2 rfl) ?_
  refine lv_iload_n hx hb dX10_bitsOf_12 rfl (lv_at hl 0 rfl) ?_
  refine lv_ishr hx hb dX10_bitsOf_13 ?_
  refine lv_cst (v := 0) (by decide) ?_
  refine lv_iconst (v := 1) hx hb dX10_bitsOf_14 (by decide) ?_
  refine lv_iand hx hb dX10_bitsOf_15 ?_
  refine lv_cst (v := 0) (by decide) ?_
  refine lv_iadd hx hb dX10_bitsOf_16 ?_
  refine lv_cst (v := 0) (by decide) ?_
  refine lv_istore_n (lv' := [(1, .int 0), (2, .int 3), (0, .int 0)]) hx hb dX10_bitsOf_17 rfl hl (by decide) rfl (fun ls hl => ?_)
  refine lv_iinc (v := 4) (lv' := [(2, .int 4), (1, .int 0), (0, .int 0)]) hx hb dX10_bitsOf_18 hl (k := 1) rfl (by decide) (by decide) rfl (fun ls hl => ?_)
  refine lv_goto (tgt := 4) hx hb dX10_bitsOf_21 (by decide) ?_
  refine lv_iload_n hx hb dX10_bitsOf_4 rfl (lv_at hl 0 rfl) ?_
  refine lv_bipush (v := 31) hx hb dX10_bitsOf_5 (by decide) ?_
  refine lv_icmp_ge (tgt := 24) hx hb dX10_bitsOf_7 (by decide) (fun c_5 => absurd c_5 (by decide)) (fun c_5 => ?_)
  refine lv_iload_n hx hb dX10_bitsOf_10 rfl (lv_at hl 1 rfl) ?_
  refine lv_iload_n hx hb dX10_bitsOf_11 rfl (lv_at hl 2 rfl) ?_
  refine lv_iload_n hx hb dX10_bitsOf_12 rfl (lv_at hl 0 rfl) ?_
  refine lv_ishr hx hb dX10_bitsOf_13 ?_
  refine lv_cst (v := 0) (by decide) ?_
  refine lv_iconst (v := 1) hx hb dX10_bitsOf_14 (by decide) ?_
  refine lv_iand hx hb dX10_bitsOf_15 ?_
  refine lv_cst (v := 0) (by decide) ?_
  refine lv_iadd hx hb dX10_bitsOf_16 ?_
  refine lv_cst (v := 0) (by decide) ?_
  refine lv_istore_n (lv' := [(1, .int 0), (2, .int 4), (0, .int 0)]) hx hb dX10_bitsOf_17 rfl hl (by decide) rfl (fun ls hl => ?_)
  refine lv_iinc (v := 5) (lv' := [(2, .int 5), (1, .int 0), (0, .int 0)]) hx hb dX10_bitsOf_18 hl (k := 1) rfl (by decide) (by decide) rfl (fun ls hl => ?_)
  refine lv_goto (tgt := 4) hx hb dX10_bitsOf_21 (by decide) ?_
  refine lv_iload_n hx hb dX10_bitsOf_4 rfl (lv_at hl 0 rfl) ?_
  refine lv_bipush (v := 31) hx hb dX10_bitsOf_5 (by decide) ?_
  refine lv_icmp_ge (tgt := 24) hx hb dX10_bitsOf_7 (by decide) (fun c_6 => absurd c_6 (by decide)) (fun c_6 => ?_)
  refine lv_iload_n hx hb dX10_bitsOf_10 rfl (lv_at hl 1 rfl) ?_
  refine lv_iload_n hx hb dX10_bitsOf_11 rfl (lv_at hl 2 rfl) ?_
  refine lv_iload_n hx hb dX10_bitsOf_12 rfl (lv_at hl 0 rfl) ?_
  refine lv_ishr hx hb dX10_bitsOf_13 ?_
  refine lv_cst (v := 0) (by decide) ?_
  refine lv_iconst (v := 1) hx hb dX10_bitsOf_14 (by decide) ?_
  refine lv_iand hx hb dX10_bitsOf_15 ?_
  refine lv_cst (v := 0) (by decide) ?_
  refine lv_iadd hx hb dX10_bitsOf_16 ?_
  refine lv_cst (v := 0) (by decide) ?_
  refine lv_istore_n (lv' := [(1, .int 0), (2, .int 5), (0, .int 0)]) hx hb dX10_bitsOf_17 rfl hl (by decide) rfl (fun ls hl => ?_)
  refine lv_iinc (v := 6) (lv' := [(2, .int 6), (1, .int 0), (0, .int 0)]) hx hb dX10_bitsOf_18 hl (k := 1) rfl (by decide) (by decide) rfl (fun ls hl => ?_)
  refine lv_goto (tgt := 4) hx hb dX10_bitsOf_21 (by decide) ?_
  refine lv_iload_n hx hb dX10_bitsOf_4 rfl (lv_at hl 0 rfl) ?_
  refine lv_bipush (v := 31) hx hb dX10_bitsOf_5 (by decide) ?_
  refine lv_icmp_ge (tgt := 24) hx hb dX10_bitsOf_7 (by decide) (fun c_7 => absurd c_7 (by decide)) (fun c_7 => ?_)
  refine lv_iload_n hx hb dX10_bitsOf_10 rfl (lv_at hl 1 rfl) ?_
  refine lv_iload_n hx hb dX10_bitsOf_11 rfl (lv_at hl 2 rfl) ?_
  refine lv_iload_n hx hb dX10_bitsOf_12 rfl (lv_at hl 0 rfl) ?_
  refine lv_ishr hx hb dX10_bitsOf_13 ?_
  refine lv_cst (v := 0) (by decide) ?_
  refine lv_iconst (v := 1) hx hb dX10_bitsOf_14 (by decide) ?_
  refine lv_iand hx hb dX10_bitsOf_15 ?_
  refine lv_cst (v := 0) (by decide) ?_
  refine lv_iadd hx hb dX10_bitsOf_16 ?_
  refine lv_cst (v := 0) (by decide) ?_
  refine lv_istore_n (lv' := [(1, .int 0), (2, .int 6), (0, .int 0)]) hx hb dX10_bitsOf_17 rfl hl (by decide) rfl (fun ls hl => ?_)
  refine lv_iinc (v := 7) (lv' := [(2, .int 7), (1, .int 0), (0, .int 0)]) hx hb dX10_bitsOf_18 hl (k := 1) rfl (by decide) (by decide) rfl (fun ls hl => ?_)
  refine lv_goto (tgt := 4) hx hb dX10_bitsOf_21 (by decide) ?_
  refine lv_iload_n hx hb dX10_bitsOf_4 rfl (lv_at hl 0 rfl) ?_
  refine lv_bipush (v := 31) hx hb dX10_bitsOf_5 (by decide) ?_
  refine lv_icmp_ge (tgt := 24) hx hb dX10_bitsOf_7 (by decide) (fun c_8 => absurd c_8 (by decide)) (fun c_8 => ?_)
  refine lv_iload_n hx hb dX10_bitsOf_10 rfl (lv_at hl 1 rfl) ?_
  refine lv_iload_n hx hb dX10_bitsOf_11 rfl (lv_at hl 2 rfl) ?_
  refine lv_iload_n hx hb dX10_bitsOf_12 rfl (lv_at hl 0 rfl) ?_
  refine lv_ishr hx hb dX10_bitsOf_13 ?_
  refine lv_cst (v := 0) (by decide) ?_
  refine lv_iconst (v := 1) hx hb dX10_bitsOf_14 (by decide) ?_
  refine lv_iand hx hb dX10_bitsOf_15 ?_
  refine lv_cst (v := 0) (by decide) ?_
  refine lv_iadd hx hb dX10_bitsOf_16 ?_
  refine lv_cst (v := 0) (by decide) ?_
  refine lv_istore_n (lv' := [(1, .int 0), (2, .int 7), (0, .int 0)]) hx hb dX10_bitsOf_17 rfl hl (by decide) rfl (fun ls hl => ?_)
  refine lv_iinc (v := 8) (lv' := [(2, .int 8), (1, .int 0), (0, .int 0)]) hx hb dX10_bitsOf_18 hl (k := 1) rfl (by decide) (by decide) rfl (fun ls hl => ?_)
  refine lv_goto (tgt := 4) hx hb dX10_bitsOf_21 (by decide) ?_
  refine lv_iload_n hx hb dX10_bitsOf_4 rfl (lv_at hl 0 rfl) ?_
  refine lv_bipush (v := 31) hx hb dX10_bitsOf_5 (by decide) ?_
  refine lv_icmp_ge (tgt := 24) hx hb dX10_bitsOf_7 (by decide) (fun c_9 => absurd c_9 (by decide)) (fun c_9 => ?_)
  refine lv_iload_n hx hb dX10_bitsOf_10 rfl (lv_at hl 1 rfl) ?_
  refine lv_iload_n hx hb dX10_bitsOf_11 rfl (lv_at hl 2 rfl) ?_
  refine lv_iload_n hx hb dX10_bitsOf_12 rfl (lv_at hl 0 rfl) ?_
  refine lv_ishr hx hb dX10_bitsOf_13 ?_
  refine lv_cst (v := 0) (by decide) ?_
  refine lv_iconst (v := 1) hx hb dX10_bitsOf_14 (by decide) ?_
  refine lv_iand hx hb dX10_bitsOf_15 ?_
  refine lv_cst (v := 0) (by decide) ?_
  refine lv_iadd hx hb dX10_bitsOf_16 ?_
  refine lv_cst (v := 0) (by decide) ?_
  refine lv_istore_n (lv' := [(1, .int 0), (2, .int 8), (0, .int 0)]) hx hb dX10_bitsOf_17 rfl hl (by decide) rfl (fun ls hl => ?_)
  refine lv_iinc (v := 9) (lv' := [(2, .int 9), (1, .int 0), (0, .int 0)]) hx hb dX10_bitsOf_18 hl (k := 1) rfl (by decide) (by decide) rfl (fun ls hl => ?_)
  refine lv_goto (tgt := 4) hx hb dX10_bitsOf_21 (by decide) ?_
  refine lv_iload_n hx hb dX10_bitsOf_4 rfl (lv_at hl 0 rfl) ?_
  refine lv_bipush (v := 31) hx hb dX10_bitsOf_5 (by decide) ?_
  refine lv_icmp_ge (tgt := 24) hx hb dX10_bitsOf_7 (by decide) (fun c_10 => absurd c_10 (by decide)) (fun c_10 => ?_)
  refine lv_iload_n hx hb dX10_bitsOf_10 rfl (lv_at hl 1 rfl) ?_
  refine lv_iload_n hx hb dX10_bitsOf_11 rfl (lv_at hl 2 rfl) ?_
  refine lv_iload_n hx hb dX10_bitsOf_12 rfl (lv_at hl 0 rfl) ?_
  refine lv_ishr hx hb dX10_bitsOf_13 ?_
  refine lv_cst (v := 0) (by decide) ?_
  refine lv_iconst (v := 1) hx hb dX10_bitsOf_14 (by decide) ?_
  refine lv_iand hx hb dX10_bitsOf_15 ?_
  refine lv_cst (v := 0) (by decide) ?_
  refine lv_iadd hx hb dX10_bitsOf_16 ?_
  refine lv_cst (v := 0) (by decide) ?_
  refine lv_istore_n (lv' := [(1, .int 0), (2, .int 9), (0, .int 0)]) hx hb dX10_bitsOf_17 rfl hl (by decide) rfl (fun ls hl => ?_)
  refine lv_iinc (v := 10) (lv' := [(2, .int 10), (1, .int 0), (0, .int 0)]) hx hb dX10_bitsOf_18 hl (k := 1) rfl (by decide) (by decide) rfl (fun ls hl => ?_)
  refine lv_goto (tgt := 4) hx hb dX10_bitsOf_21 (by decide) ?_
  refine lv_iload_n hx hb dX10_bitsOf_4 rfl (lv_at hl 0 rfl) ?_
  refine lv_bipush (v := 31) hx hb dX10_bitsOf_5 (by decide) ?_
  refine lv_icmp_ge (tgt := 24) hx hb dX10_bitsOf_7 (by decide) (fun c_11 => absurd c_11 (by decide)) (fun c_11 => ?_)
  refine lv_iload_n hx hb dX10_bitsOf_10 rfl (lv_at hl 1 rfl) ?_
  refine lv_iload_n hx hb dX10_bitsOf_11 rfl (lv_at hl 2 rfl) ?_
  refine lv_iload_n hx hb dX10_bitsOf_12 rfl (lv_at hl 0 rfl) ?_
  refine lv_ishr hx hb dX10_bitsOf_13 ?_
  refine lv_cst (v := 0) (by decide) ?_
  refine lv_iconst (v := 1) hx hb dX10_bitsOf_14 (by decide) ?_
  refine lv_iand hx hb dX10_bitsOf_15 ?_
  refine lv_cst (v := 0) (by decide) ?_
  refine lv_iadd hx hb dX10_bitsOf_16 ?_
  refine lv_cst (v := 0) (by decide) ?_
  refine lv_istore_n (lv' := [(1, .int 0), (2, .int 10), (0, .int 0)]) hx hb dX10_bitsOf_17 rfl hl (by decide) rfl (fun ls hl => ?_)
  refine lv_iinc (v := 11) (lv' := [(2, .int 11), (1, .int 0), (0, .int 0)]) hx hb dX10_bitsOf_18 hl (k := 1) rfl (by decide) (by decide) rfl (fun ls hl => ?_)
  refine lv_goto (tgt := 4) hx hb dX10_bitsOf_21 (by decide) ?_
  refine lv_iload_n hx hb dX10_bitsOf_4 rfl (lv_at hl 0 rfl) ?_
  refine lv_bipush (v := 31) hx hb dX10_bitsOf_5 (by decide) ?_
  refine lv_icmp_ge (tgt := 24) hx hb dX10_bitsOf_7 (by decide) (fun c_12 => absurd c_12 (by decide)) (fun c_12 => ?_)
  refine lv_iload_n hx hb dX10_bitsOf_10 rfl (lv_at hl 1 rfl) ?_
  refine lv_iload_n hx hb dX10_bitsOf_11 rfl (lv_at hl 2 rfl) ?_
  refine lv_iload_n hx hb dX10_bitsOf_12 rfl (lv_at hl 0 rfl) ?_
  refine lv_ishr hx hb dX10_bitsOf_13 ?_
  refine lv_cst (v := 0) (by decide) ?_
  refine lv_iconst (v := 1) hx hb dX10_bitsOf_14 (by decide) ?_
  refine lv_iand hx hb dX10_bitsOf_15 ?_
  refine lv_cst (v := 0) (by decide) ?_
  refine lv_iadd hx hb dX10_bitsOf_16 ?_
  refine lv_cst (v := 0) (by decide) ?_
  refine lv_istore_n (lv' := [(1, .int 0), (2, .int 11), (0, .int 0)]) hx hb dX10_bitsOf_17 rfl hl (by decide) rfl (fun ls hl => ?_)
  refine lv_iinc (v := 12) (lv' := [(2, .int 12), (1, .int 0), (0, .int 0)]) hx hb dX10_bitsOf_18 hl (k := 1) rfl (by decide) (by decide) rfl (fun ls hl => ?_)
  refine lv_goto (tgt := 4) hx hb dX10_bitsOf_21 (by decide) ?_
  refine lv_iload_n hx hb dX10_bitsOf_4 rfl (lv_at hl 0 rfl) ?_
  refine lv_bipush (v := 31) hx hb dX10_bitsOf_5 (by decide) ?_
  refine lv_icmp_ge (tgt := 24) hx hb dX10_bitsOf_7 (by decide) (fun c_13 => absurd c_13 (by decide)) (fun c_13 => ?_)
  refine lv_iload_n hx hb dX10_bitsOf_10 rfl (lv_at hl 1 rfl) ?_
  refine lv_iload_n hx hb dX10_bitsOf_11 rfl (lv_at hl 2 rfl) ?_
  refine lv_iload_n hx hb dX10_bitsOf_12 rfl (lv_at hl 0 rfl) ?_
  refine lv_ishr hx hb dX10_bitsOf_13 ?_
  refine lv_cst (v := 0) (by decide) ?_
  refine lv_iconst (v := 1) hx hb dX10_bitsOf_14 (by decide) ?_
  refine lv_iand hx hb dX10_bitsOf_15 ?_
  refine lv_cst (v := 0) (by decide) ?_
  refine lv_iadd hx hb dX10_bitsOf_16 ?_
  refine lv_cst (v := 0) (by decide) ?_
  refine lv_istore_n (lv' := [(1, .int 0), (2, .int 12), (0, .int 0)]) hx hb dX10_bitsOf_17 rfl hl (by decide) rfl (fun ls hl => ?_)
  refine lv_iinc (v := 13) (lv' := [(2, .int 13), (1, .int 0), (0, .int 0)]) hx hb dX10_bitsOf_18 hl (k := 1) rfl (by decide) (by decide) rfl (fun ls hl => ?_)
  refine lv_goto (tgt := 4) hx hb dX10_bitsOf_21 (by decide) ?_
  refine lv_iload_n hx hb dX10_bitsOf_4 rfl (lv_at hl 0 rfl) ?_
  refine lv_bipush (v := 31) hx hb dX10_bitsOf_5 (by decide) ?_
  refine lv_icmp_ge (tgt := 24) hx hb dX10_bitsOf_7 (by decide) (fun c_14 => absurd c_14 (by decide)) (fun c_14 => ?_)
  refine lv_iload_n hx hb dX10_bitsOf_10 rfl (lv_at hl 1 rfl) ?_
  refine lv_iload_n hx hb dX10_bitsOf_11 rfl (lv_at hl 2 rfl) ?_
  refine lv_iload_n hx hb dX10_bitsOf_12 rfl (lv_at hl 0 rfl) ?_
  refine lv_ishr hx hb dX10_bitsOf_13 ?_
  refine lv_cst (v := 0) (by decide) ?_
  refine lv_iconst (v := 1) hx hb dX10_bitsOf_14 (by decide) ?_
  refine lv_iand hx hb dX10_bitsOf_15 ?_
  refine lv_cst (v := 0) (by decide) ?_
  refine lv_iadd hx hb dX10_bitsOf_16 ?_
  refine lv_cst (v := 0) (by decide) ?_
  refine lv_istore_n (lv' := [(1, .int 0), (2, .int 13), (0, .int 0)]) hx hb dX10_bitsOf_17 rfl hl (by decide) rfl (fun ls hl => ?_)
  refine lv_iinc (v := 14) (lv' := [(2, .int 14), (1, .int 0), (0, .int 0)]) hx hb dX10_bitsOf_18 hl (k := 1) rfl (by decide) (by decide) rfl (fun ls hl => ?_)
  refine lv_goto (tgt := 4) hx hb dX10_bitsOf_21 (by decide) ?_
  refine lv_iload_n hx hb dX10_bitsOf_4 rfl (lv_at hl 0 rfl) ?_
  refine lv_bipush (v := 31) hx hb dX10_bitsOf_5 (by decide) ?_
  refine lv_icmp_ge (tgt := 24) hx hb dX10_bitsOf_7 (by decide) (fun c_15 => absurd c_15 (by decide)) (fun c_15 => ?_)
  refine lv_iload_n hx hb dX10_bitsOf_10 rfl (lv_at hl 1 rfl) ?_
  refine lv_iload_n hx hb dX10_bitsOf_11 rfl (lv_at hl 2 rfl) ?_
  refine lv_iload_n hx hb dX10_bitsOf_12 rfl (lv_at hl 0 rfl) ?_
  refine lv_ishr hx hb dX10_bitsOf_13 ?_
  refine lv_cst (v := 0) (by decide) ?_
  refine lv_iconst (v := 1) hx hb dX10_bitsOf_14 (by decide) ?_
  refine lv_iand hx hb dX10_bitsOf_15 ?_
  refine lv_cst (v := 0) (by decide) ?_
  refine lv_iadd hx hb dX10_bitsOf_16 ?_
  refine lv_cst (v := 0) (by decide) ?_
  refine lv_istore_n (lv' := [(1, .int 0), (2, .int 14), (0, .int 0)]) hx hb dX10_bitsOf_17 rfl hl (by decide) rfl (fun ls hl => ?_)
  refine lv_iinc (v := 15) (lv' := [(2, .int 15), (1, .int 0), (0, .int 0)]) hx hb dX10_bitsOf_18 hl (k := 1) rfl (by decide) (by decide) rfl (fun ls hl => ?_)
  refine lv_goto (tgt := 4) hx hb dX10_bitsOf_21 (by decide) ?_
  refine lv_iload_n hx hb dX10_bitsOf_4 rfl (lv_at hl 0 rfl) ?_
  refine lv_bipush (v := 31) hx hb dX10_bitsOf_5 (by decide) ?_
  refine lv_icmp_ge (tgt := 24) hx hb dX10_bitsOf_7 (by decide) (fun c_16 => absurd c_16 (by decide)) (fun c_16 => ?_)
  refine lv_iload_n hx hb dX10_bitsOf_10 rfl (lv_at hl 1 rfl) ?_
  refine lv_iload_n hx hb dX10_bitsOf_11 rfl (lv_at hl 2 rfl) ?_
  refine lv_iload_n hx hb dX10_bitsOf_12 rfl (lv_at hl 0 rfl) ?_
  refine lv_ishr hx hb dX10_bitsOf_13 ?_
  refine lv_cst (v := 0) (by decide) ?_
  refine lv_iconst (v := 1) hx hb dX10_bitsOf_14 (by decide) ?_
  refine lv_iand hx hb dX10_bitsOf_15 ?_
  refine lv_cst (v := 0) (by decide) ?_
  refine lv_iadd hx hb dX10_bitsOf_16 ?_
  refine lv_cst (v := 0) (by decide) ?_
  refine lv_istore_n (lv' := [(1, .int 0), (2, .int 15), (0, .int 0)]) hx hb dX10_bitsOf_17 rfl hl (by decide) rfl (fun ls hl => ?_)
  refine lv_iinc (v := 16) (lv' := [(2, .int 16), (1, .int 0), (0, .int 0)]) hx hb dX10_bitsOf_18 hl (k := 1) rfl (by decide) (by decide) rfl (fun ls hl => ?_)
  refine lv_goto (tgt := 4) hx hb dX10_bitsOf_21 (by decide) ?_
  refine lv_iload_n hx hb dX10_bitsOf_4 rfl (lv_at hl 0 rfl) ?_
  refine lv_bipush (v := 31) hx hb dX10_bitsOf_5 (by decide) ?_
  refine lv_icmp_ge (tgt := 24) hx hb dX10_bitsOf_7 (by decide) (fun c_17 => absurd c_17 (by decide)) (fun c_17 => ?_)
  refine lv_iload_n hx hb dX10_bitsOf_10 rfl (lv_at hl 1 rfl) ?_
  refine lv_iload_n hx hb dX10_bitsOf_11 rfl (lv_at hl 2 rfl) ?_
  refine lv_iload_n hx hb dX10_bitsOf_12 rfl (lv_at hl 0 rfl) ?_
  refine lv_ishr hx hb dX10_bitsOf_13 ?_
  refine lv_cst (v := 0) (by decide) ?_
  refine lv_iconst (v := 1) hx hb dX10_bitsOf_14 (by decide) ?_
  refine lv_iand hx hb dX10_bitsOf_15 ?_
  refine lv_cst (v := 0) (by decide) ?_
  refine lv_iadd hx hb dX10_bitsOf_16 ?_
  refine lv_cst (v := 0) (by decide) ?_
  refine lv_istore_n (lv' := [(1, .int 0), (2, .int 16), (0, .int 0)]) hx hb dX10_bitsOf_17 rfl hl (by decide) rfl (fun ls hl => ?_)
  refine lv_iinc (v := 17) (lv' := [(2, .int 17), (1, .int 0), (0, .int 0)]) hx hb dX10_bitsOf_18 hl (k := 1) rfl (by decide) (by decide) rfl (fun ls hl => ?_)
  refine lv_goto (tgt := 4) hx hb dX10_bitsOf_21 (by decide) ?_
  refine lv_iload_n hx hb dX10_bitsOf_4 rfl (lv_at hl 0 rfl) ?_
  refine lv_bipush (v := 31) hx hb dX10_bitsOf_5 (by decide) ?_
  refine lv_icmp_ge (tgt := 24) hx hb dX10_bitsOf_7 (by decide) (fun c_18 => absurd c_18 (by decide)) (fun c_18 => ?_)
  refine lv_iload_n hx hb dX10_bitsOf_10 rfl (lv_at hl 1 rfl) ?_
  refine lv_iload_n hx hb dX10_bitsOf_11 rfl (lv_at hl 2 rfl) ?_
  refine lv_iload_n hx hb dX10_bitsOf_12 rfl (lv_at hl 0 rfl) ?_
  refine lv_ishr hx hb dX10_bitsOf_13 ?_
  refine lv_cst (v := 0) (by decide) ?_
  refine lv_iconst (v := 1) hx hb dX10_bitsOf_14 (by decide) ?_
  refine lv_iand hx hb dX10_bitsOf_15 ?_
  refine lv_cst (v := 0) (by decide) ?_
  refine lv_iadd hx hb dX10_bitsOf_16 ?_
  refine lv_cst (v := 0) (by decide) ?_
  refine lv_istore_n (lv' := [(1, .int 0), (2, .int 17), (0, .int 0)]) hx hb dX10_bitsOf_17 rfl hl (by decide) rfl (fun ls hl => ?_)
  refine lv_iinc (v := 18) (lv' := [(2, .int 18), (1, .int 0), (0, .int 0)]) hx hb dX10_bitsOf_18 hl (k := 1) rfl (by decide) (by decide) rfl (fun ls hl => ?_)
  refine lv_goto (tgt := 4) hx hb dX10_bitsOf_21 (by decide) ?_
  refine lv_iload_n hx hb dX10_bitsOf_4 rfl (lv_at hl 0 rfl) ?_
  refine lv_bipush (v := 31) hx hb dX10_bitsOf_5 (by decide) ?_
  refine lv_icmp_ge (tgt := 24) hx hb dX10_bitsOf_7 (by decide) (fun c_19 => absurd c_19 (by decide)) (fun c_19 => ?_)
  refine lv_iload_n hx hb dX10_bitsOf_10 rfl (lv_at hl 1 rfl) ?_
  refine lv_iload_n hx hb dX10_bitsOf_11 rfl (lv_at hl 2 rfl) ?_
  refine lv_iload_n hx hb dX10_bitsOf_12 rfl (lv_at hl 0 rfl) ?_
  refine lv_ishr hx hb dX10_bitsOf_13 ?_
  refine lv_cst (v := 0) (by decide) ?_
  refine lv_iconst (v := 1) hx hb dX10_bitsOf_14 (by decide) ?_
  refine lv_iand hx hb dX10_bitsOf_15 ?_
  refine lv_cst (v := 0) (by decide) ?_
  refine lv_iadd hx hb dX10_bitsOf_16 ?_
  refine lv_cst (v := 0) (by decide) ?_
  refine lv_istore_n (lv' := [(1, .int 0), (2, .int 18), (0, .int 0)]) hx hb dX10_bitsOf_17 rfl hl (by decide) rfl (fun ls hl => ?_)
  refine lv_iinc (v := 19) (lv' := [(2, .int 19), (1, .int 0), (0, .int 0)]) hx hb dX10_bitsOf_18 hl (k := 1) rfl (by decide) (by decide) rfl (fun ls hl => ?_)
  refine lv_goto (tgt := 4) hx hb dX10_bitsOf_21 (by decide) ?_
  refine lv_iload_n hx hb dX10_bitsOf_4 rfl (lv_at hl 0 rfl) ?_
  refine lv_bipush (v := 31) hx hb dX10_bitsOf_5 (by decide) ?_
  refine lv_icmp_ge (tgt := 24) hx hb dX10_bitsOf_7 (by decide) (fun c_20 => absurd c_20 (by decide)) (fun c_20 => ?_)
  refine lv_iload_n hx hb dX10_bitsOf_10 rfl (lv_at hl 1 rfl) ?_
  refine lv_iload_n hx hb dX10_bitsOf_11 rfl (lv_at hl 2 rfl) ?_
  refine lv_iload_n hx hb dX10_bitsOf_12 rfl (lv_at hl 0 rfl) ?_
  refine lv_ishr hx hb dX10_bitsOf_13 ?_
  refine lv_cst (v := 0) (by decide) ?_
  refine lv_iconst (v := 1) hx hb dX10_bitsOf_14 (by decide) ?_
  refine lv_iand hx hb dX10_bitsOf_15 ?_
  refine lv_cst (v := 0) (by decide) ?_
  refine lv_iadd hx hb dX10_bitsOf_16 ?_
  refine lv_cst (v := 0) (by decide) ?_
  refine lv_istore_n (lv' := [(1, .int 0), (2, .int 19), (0, .int 0)]) hx hb dX10_bitsOf_17 rfl hl (by decide) rfl (fun ls hl => ?_)
  refine lv_iinc (v := 20) (lv' := [(2, .int 20), (1, .int 0), (0, .int 0)]) hx hb dX10_bitsOf_18 hl (k := 1) rfl (by decide) (by decide) rfl (fun ls hl => ?_)
  refine lv_goto (tgt := 4) hx hb dX10_bitsOf_21 (by decide) ?_
  refine lv_iload_n hx hb dX10_bitsOf_4 rfl (lv_at hl 0 rfl) ?_
  refine lv_bipush (v := 31) hx hb dX10_bitsOf_5 (by decide) ?_
  refine lv_icmp_ge (tgt := 24) hx hb dX10_bitsOf_7 (by decide) (fun c_21 => absurd c_21 (by decide)) (fun c_21 => ?_)
  refine lv_iload_n hx hb dX10_bitsOf_10 rfl (lv_at hl 1 rfl) ?_
  refine lv_iload_n hx hb dX10_bitsOf_11 rfl (lv_at hl 2 rfl) ?_
  refine lv_iload_n hx hb dX10_bitsOf_12 rfl (lv_at hl 0 rfl) ?_
  refine lv_ishr hx hb dX10_bitsOf_13 ?_
  refine lv_cst (v := 0) (by decide) ?_
  refine lv_iconst (v := 1) hx hb dX10_bitsOf_14 (by decide) ?_
  refine lv_iand hx hb dX10_bitsOf_15 ?_
  refine lv_cst (v := 0) (by decide) ?_
  refine lv_iadd hx hb dX10_bitsOf_16 ?_
  refine lv_cst (v := 0) (by decide) ?_
  refine lv_istore_n (lv' := [(1, .int 0), (2, .int 20), (0, .int 0)]) hx hb dX10_bitsOf_17 rfl hl (by decide) rfl (fun ls hl => ?_)
  refine lv_iinc (v := 21) (lv' := [(2, .int 21), (1, .int 0), (0, .int 0)]) hx hb dX10_bitsOf_18 hl (k := 1) rfl (by decide) (by decide) rfl (fun ls hl => ?_)
  refine lv_goto (tgt := 4) hx hb dX10_bitsOf_21 (by decide) ?_
  refine lv_iload_n hx hb dX10_bitsOf_4 rfl (lv_at hl 0 rfl) ?_
  refine lv_bipush (v := 31) hx hb dX10_bitsOf_5 (by decide) ?_
  refine lv_icmp_ge (tgt := 24) hx hb dX10_bitsOf_7 (by decide) (fun c_22 => absurd c_22 (by decide)) (fun c_22 => ?_)
  refine lv_iload_n hx hb dX10_bitsOf_10 rfl (lv_at hl 1 rfl) ?_
  refine lv_iload_n hx hb dX10_bitsOf_11 rfl (lv_at hl 2 rfl) ?_
  refine lv_iload_n hx hb dX10_bitsOf_12 rfl (lv_at hl 0 rfl) ?_
  refine lv_ishr hx hb dX10_bitsOf_13 ?_
  refine lv_cst (v := 0) (by decide) ?_
  refine lv_iconst (v := 1) hx hb dX10_bitsOf_14 (by decide) ?_
  refine lv_iand hx hb dX10_bitsOf_15 ?_
  refine lv_cst (v := 0) (by decide) ?_
  refine lv_iadd hx hb dX10_bitsOf_16 ?_
  refine lv_cst (v := 0) (by decide) ?_
  refine lv_istore_n (lv' := [(1, .int 0), (2, .int 21), (0, .int 0)]) hx hb dX10_bitsOf_17 rfl hl (by decide) rfl (fun ls hl => ?_)
  refine lv_iinc (v := 22) (lv' := [(2, .int 22), (1, .int 0), (0, .int 0)]) hx hb dX10_bitsOf_18 hl (k := 1) rfl (by decide) (by decide) rfl (fun ls hl => ?_)
  refine lv_goto (tgt := 4) hx hb dX10_bitsOf_21 (by decide) ?_
  refine lv_iload_n hx hb dX10_bitsOf_4 rfl (lv_at hl 0 rfl) ?_
  refine lv_bipush (v := 31) hx hb dX10_bitsOf_5 (by decide) ?_
  refine lv_icmp_ge (tgt := 24) hx hb dX10_bitsOf_7 (by decide) (fun c_23 => absurd c_23 (by decide)) (fun c_23 => ?_)
  refine lv_iload_n hx hb dX10_bitsOf_10 rfl (lv_at hl 1 rfl) ?_
  refine lv_iload_n hx hb dX10_bitsOf_11 rfl (lv_at hl 2 rfl) ?_
  refine lv_iload_n hx hb dX10_bitsOf_12 rfl (lv_at hl 0 rfl) ?_
  refine lv_ishr hx hb dX10_bitsOf_13 ?_
  refine lv_cst (v := 0) (by decide) ?_
  refine lv_iconst (v := 1) hx hb dX10_bitsOf_14 (by decide) ?_
  refine lv_iand hx hb dX10_bitsOf_15 ?_
  refine lv_cst (v := 0) (by decide) ?_
  refine lv_iadd hx hb dX10_bitsOf_16 ?_
  refine lv_cst (v := 0) (by decide) ?_
  refine lv_istore_n (lv' := [(1, .int 0), (2, .int 22), (0, .int 0)]) hx hb dX10_bitsOf_17 rfl hl (by decide) rfl (fun ls hl => ?_)
  refine lv_iinc (v := 23) (lv' := [(2, .int 23), (1, .int 0), (0, .int 0)]) hx hb dX10_bitsOf_18 hl (k := 1) rfl (by decide) (by decide) rfl (fun ls hl => ?_)
  refine lv_goto (tgt := 4) hx hb dX10_bitsOf_21 (by decide) ?_
  refine lv_iload_n hx hb dX10_bitsOf_4 rfl (lv_at hl 0 rfl) ?_
  refine lv_bipush (v := 31) hx hb dX10_bitsOf_5 (by decide) ?_
  refine lv_icmp_ge (tgt := 24) hx hb dX10_bitsOf_7 (by decide) (fun c_24 => absurd c_24 (by decide)) (fun c_24 => ?_)
  refine lv_iload_n hx hb dX10_bitsOf_10 rfl (lv_at hl 1 rfl) ?_
  refine lv_iload_n hx hb dX10_bitsOf_11 rfl (lv_at hl 2 rfl) ?_
  refine lv_iload_n hx hb dX10_bitsOf_12 rfl (lv_at hl 0 rfl) ?_
  refine lv_ishr hx hb dX10_bitsOf_13 ?_
  refine lv_cst (v := 0) (by decide) ?_
  refine lv_iconst (v := 1) hx hb dX10_bitsOf_14 (by decide) ?_
  refine lv_iand hx hb dX10_bitsOf_15 ?_
  refine lv_cst (v := 0) (by decide) ?_
  refine lv_iadd hx hb dX10_bitsOf_16 ?_
  refine lv_cst (v := 0) (by decide) ?_
  refine lv_istore_n (lv' := [(1, .int 0), (2, .int 23), (0, .int 0)]) hx hb dX10_bitsOf_17 rfl hl (by decide) rfl (fun ls hl => ?_)
  refine lv_iinc (v := 24) (lv' := [(2, .int 24), (1, .int 0), (0, .int 0)]) hx hb dX10_bitsOf_18 hl (k := 1) rfl (by decide) (by decide) rfl (fun ls hl => ?_)
  refine lv_goto (tgt := 4) hx hb dX10_bitsOf_21 (by decide) ?_
  refine lv_iload_n hx hb dX10_bitsOf_4 rfl (lv_at hl 0 rfl) ?_
  refine lv_bipush (v := 31) hx hb dX10_bitsOf_5 (by decide) ?_
  refine lv_icmp_ge (tgt := 24) hx hb dX10_bitsOf_7 (by decide) (fun c_25 => absurd c_25 (by decide)) (fun c_25 => ?_)
  refine lv_iload_n hx hb dX10_bitsOf_10 rfl (lv_at hl 1 rfl) ?_
  refine lv_iload_n hx hb dX10_bitsOf_11 rfl (lv_at hl 2 rfl) ?_
  refine lv_iload_n hx hb dX10_bitsOf_12 rfl (lv_at hl 0 rfl) ?_
  refine lv_ishr hx hb dX10_bitsOf_13 ?_
  refine lv_cst (v := 0) (by decide) ?_
  refine lv_iconst (v := 1) hx hb dX10_bitsOf_14 (by decide) ?_
  refine lv_iand hx hb dX10_bitsOf_15 ?_
  refine lv_cst (v := 0) (by decide) ?_
  refine lv_iadd hx hb dX10_bitsOf_16 ?_
  refine lv_cst (v := 0) (by decide) ?_
  refine lv_istore_n (lv' := [(1, .int 0), (2, .int 24), (0, .int 0)]) hx hb dX10_bitsOf_17 rfl hl (by decide) rfl (fun ls hl => ?_)
  refine lv_iinc (v := 25) (lv' := [(2, .int 25), (1, .int 0), (0, .int 0)]) hx hb dX10_bitsOf_18 hl (k := 1) rfl (by decide) (by decide) rfl (fun ls hl => ?_)
  refine lv_goto (tgt := 4) hx hb dX10_bitsOf_21 (by decide) ?_
  refine lv_iload_n hx hb dX10_bitsOf_4 rfl (lv_at hl 0 rfl) ?_
  refine lv_bipush (v := 31) hx hb dX10_bitsOf_5 (by decide) ?_
  refine lv_icmp_ge (tgt := 24) hx hb dX10_bitsOf_7 (by decide) (fun c_26 => absurd c_26 (by decide)) (fun c_26 => ?_)
  refine lv_iload_n hx hb dX10_bitsOf_10 rfl (lv_at hl 1 rfl) ?_
  refine lv_iload_n hx hb dX10_bitsOf_11 rfl (lv_at hl 2 rfl) ?_
  refine lv_iload_n hx hb dX10_bitsOf_12 rfl (lv_at hl 0 rfl) ?_
  refine lv_ishr hx hb dX10_bitsOf_13 ?_
  refine lv_cst (v := 0) (by decide) ?_
  refine lv_iconst (v := 1) hx hb dX10_bitsOf_14 (by decide) ?_
  refine lv_iand hx hb dX10_bitsOf_15 ?_
  refine lv_cst (v := 0) (by decide) ?_
  refine lv_iadd hx hb dX10_bitsOf_16 ?_
  refine lv_cst (v := 0) (by decide) ?_
  refine lv_istore_n (lv' := [(1, .int 0), (2, .int 25), (0, .int 0)]) hx hb dX10_bitsOf_17 rfl hl (by decide) rfl (fun ls hl => ?_)
  refine lv_iinc (v := 26) (lv' := [(2, .int 26), (1, .int 0), (0, .int 0)]) hx hb dX10_bitsOf_18 hl (k := 1) rfl (by decide) (by decide) rfl (fun ls hl => ?_)
  refine lv_goto (tgt := 4) hx hb dX10_bitsOf_21 (by decide) ?_
  refine lv_iload_n hx hb dX10_bitsOf_4 rfl (lv_at hl 0 rfl) ?_
  refine lv_bipush (v := 31) hx hb dX10_bitsOf_5 (by decide) ?_
  refine lv_icmp_ge (tgt := 24) hx hb dX10_bitsOf_7 (by decide) (fun c_27 => absurd c_27 (by decide)) (fun c_27 => ?_)
  refine lv_iload_n hx hb dX10_bitsOf_10 rfl (lv_at hl 1 rfl) ?_
  refine lv_iload_n hx hb dX10_bitsOf_11 rfl (lv_at hl 2 rfl) ?_
  refine lv_iload_n hx hb dX10_bitsOf_12 rfl (lv_at hl 0 rfl) ?_
  refine lv_ishr hx hb dX10_bitsOf_13 ?_
  refine lv_cst (v := 0) (by decide) ?_
  refine lv_iconst (v := 1) hx hb dX10_bitsOf_14 (by decide) ?_
  refine lv_iand hx hb dX10_bitsOf_15 ?_
  refine lv_cst (v := 0) (by decide) ?_
  refine lv_iadd hx hb dX10_bitsOf_16 ?_
  refine lv_cst (v := 0) (by decide) ?_
  refine lv_istore_n (lv' := [(1, .int 0), (2, .int 26), (0, .int 0)]) hx hb dX10_bitsOf_17 rfl hl (by decide) rfl (fun ls hl => ?_)
  refine lv_iinc (v := 27) (lv' := [(2, .int 27), (1, .int 0), (0, .int 0)]) hx hb dX10_bitsOf_18 hl (k := 1) rfl (by decide) (by decide) rfl (fun ls hl => ?_)
  refine lv_goto (tgt := 4) hx hb dX10_bitsOf_21 (by decide) ?_
  refine lv_iload_n hx hb dX10_bitsOf_4 rfl (lv_at hl 0 rfl) ?_
  refine lv_bipush (v := 31) hx hb dX10_bitsOf_5 (by decide) ?_
  refine lv_icmp_ge (tgt := 24) hx hb dX10_bitsOf_7 (by decide) (fun c_28 => absurd c_28 (by decide)) (fun c_28 => ?_)
  refine lv_iload_n hx hb dX10_bitsOf_10 rfl (lv_at hl 1 rfl) ?_
  refine lv_iload_n hx hb dX10_bitsOf_11 rfl (lv_at hl 2 rfl) ?_
  refine lv_iload_n hx hb dX10_bitsOf_12 rfl (lv_at hl 0 rfl) ?_
  refine lv_ishr hx hb dX10_bitsOf_13 ?_
  refine lv_cst (v := 0) (by decide) ?_
  refine lv_iconst (v := 1) hx hb dX10_bitsOf_14 (by decide) ?_
  refine lv_iand hx hb dX10_bitsOf_15 ?_
  refine lv_cst (v := 0) (by decide) ?_
  refine lv_iadd hx hb dX10_bitsOf_16 ?_
  refine lv_cst (v := 0) (by decide) ?_
  refine lv_istore_n (lv' := [(1, .int 0), (2, .int 27), (0, .int 0)]) hx hb dX10_bitsOf_17 rfl hl (by decide) rfl (fun ls hl => ?_)
  refine lv_iinc (v := 28) (lv' := [(2, .int 28), (1, .int 0), (0, .int 0)]) hx hb dX10_bitsOf_18 hl (k := 1) rfl (by decide) (by decide) rfl (fun ls hl => ?_)
  refine lv_goto (tgt := 4) hx hb dX10_bitsOf_21 (by decide) ?_
  refine lv_iload_n hx hb dX10_bitsOf_4 rfl (lv_at hl 0 rfl) ?_
  refine lv_bipush (v := 31) hx hb dX10_bitsOf_5 (by decide) ?_
  refine lv_icmp_ge (tgt := 24) hx hb dX10_bitsOf_7 (by decide) (fun c_29 => absurd c_29 (by decide)) (fun c_29 => ?_)
  refine lv_iload_n hx hb dX10_bitsOf_10 rfl (lv_at hl 1 rfl) ?_
  refine lv_iload_n hx hb dX10_bitsOf_11 rfl (lv_at hl 2 rfl) ?_
  refine lv_iload_n hx hb dX10_bitsOf_12 rfl (lv_at hl 0 rfl) ?_
  refine lv_ishr hx hb dX10_bitsOf_13 ?_
  refine lv_cst (v := 0) (by decide) ?_
  refine lv_iconst (v := 1) hx hb dX10_bitsOf_14 (by decide) ?_
  refine lv_iand hx hb dX10_bitsOf_15 ?_
  refine lv_cst (v := 0) (by decide) ?_
  refine lv_iadd hx hb dX10_bitsOf_16 ?_
  refine lv_cst (v := 0) (by decide) ?_
  refine lv_istore_n (lv' := [(1, .int 0), (2, .int 28), (0, .int 0)]) hx hb dX10_bitsOf_17 rfl hl (by decide) rfl (fun ls hl => ?_)
  refine lv_iinc (v := 29) (lv' := [(2, .int 29), (1, .int 0), (0, .int 0)]) hx hb dX10_bitsOf_18 hl (k := 1) rfl (by decide) (by decide) rfl (fun ls hl => ?_)
  refine lv_goto (tgt := 4) hx hb dX10_bitsOf_21 (by decide) ?_
  refine lv_iload_n hx hb dX10_bitsOf_4 rfl (lv_at hl 0 rfl) ?_
  refine lv_bipush (v := 31) hx hb dX10_bitsOf_5 (by decide) ?_
  refine lv_icmp_ge (tgt := 24) hx hb dX10_bitsOf_7 (by decide) (fun c_30 => absurd c_30 (by decide)) (fun c_30 => ?_)
  refine lv_iload_n hx hb dX10_bitsOf_10 rfl (lv_at hl 1 rfl) ?_
  refine lv_iload_n hx hb dX10_bitsOf_11 rfl (lv_at hl 2 rfl) ?_
  refine lv_iload_n hx hb dX10_bitsOf_12 rfl (lv_at hl 0 rfl) ?_
  refine lv_ishr hx hb dX10_bitsOf_13 ?_
  refine lv_cst (v := 0) (by decide) ?_
  refine lv_iconst (v := 1) hx hb dX10_bitsOf_14 (by decide) ?_
  refine lv_iand hx hb dX10_bitsOf_15 ?_
  refine lv_cst (v := 0) (by decide) ?_
  refine lv_iadd hx hb dX10_bitsOf_16 ?_
  refine lv_cst (v := 0) (by decide) ?_
  refine lv_istore_n (lv' := [(1, .int 0), (2, .int 29), (0, .int 0)]) hx hb dX10_bitsOf_17 rfl hl (by decide) rfl (fun ls hl => ?_)
  refine lv_iinc (v := 30) (lv' := [(2, .int 30), (1, .int 0), (0, .int 0)]) hx hb dX10_bitsOf_18 hl (k := 1) rfl (by decide) (by decide) rfl (fun ls hl => ?_)
  refine lv_goto (tgt := 4) hx hb dX10_bitsOf_21 (by decide) ?_
  refine lv_iload_n hx hb dX10_bitsOf_4 rfl (lv_at hl 0 rfl) ?_
  refine lv_bipush (v := 31) hx hb dX10_bitsOf_5 (by decide) ?_
  refine lv_icmp_ge (tgt := 24) hx hb dX10_bitsOf_7 (by decide) (fun c_31 => absurd c_31 (by decide)) (fun c_31 => ?_)
  refine lv_iload_n hx hb dX10_bitsOf_10 rfl (lv_at hl 1 rfl) ?_
  refine lv_iload_n hx hb dX10_bitsOf_11 rfl (lv_at hl 2 rfl) ?_
  refine lv_iload_n hx hb dX10_bitsOf_12 rfl (lv_at hl 0 rfl) ?_
  refine lv_ishr hx hb dX10_bitsOf_13 ?_
  refine lv_cst (v := 0) (by decide) ?_
  refine lv_iconst (v := 1) hx hb dX10_bitsOf_14 (by decide) ?_
  refine lv_iand hx hb dX10_bitsOf_15 ?_
  refine lv_cst (v := 0) (by decide) ?_
  refine lv_iadd hx hb dX10_bitsOf_16 ?_
  refine lv_cst (v := 0) (by decide) ?_
  refine lv_istore_n (lv' := [(1, .int 0), (2, .int 30), (0, .int 0)]) hx hb dX10_bitsOf_17 rfl hl (by decide) rfl (fun ls hl => ?_)
  refine lv_iinc (v := 31) (lv' := [(2, .int 31), (1, .int 0), (0, .int 0)]) hx hb dX10_bitsOf_18 hl (k := 1) rfl (by decide) (by decide) rfl (fun ls hl => ?_)
  refine lv_goto (tgt := 4) hx hb dX10_bitsOf_21 (by decide) ?_
  refine lv_iload_n hx hb dX10_bitsOf_4 rfl (lv_at hl 0 rfl) ?_
  refine lv_bipush (v := 31) hx hb dX10_bitsOf_5 (by decide) ?_
  refine lv_icmp_ge (tgt := 24) hx hb dX10_bitsOf_7 (by decide) (fun c_32 => ?_) (fun c_32 => absurd (by decide) c_32)
  refine lv_iload_n hx hb dX10_bitsOf_24 rfl (lv_at hl 1 rfl) ?_
  exact retI hC hP hD hS (by decide) (by decide) () [] rfl rfl rfl dX10_bitsOf_25
set_option maxHeartbeats 4000000 in
set_option maxRecDepth 100000 in
theorem k_X10_unsure (l : Launch) (D : va_G) (cyB cyI cyJ cyZ : ClassId) (sz : Nat) (o : Nat) (p0 : Int32) (fs : List Value) (mn : Nat) (fm : Nat → Int32) (hl_fs : fs.length = 80) (h_fs_12 : fs[12]? = some (.ref mn)) (h_fs_37 : fs[37]? = some (.int 0)) (h_fm_0 : fm 0 = 0) : KI l yX10_unsure cX10_unsure 2 .int 1 0 0 D (TYS cyB cyI cyJ cyZ) [(o, .inr (10, fs)), (mn, .inl (cyI, 2, .inl fm))] sz [.ref o, .int p0] (fun (r : Int32) (u : Unit) => r = sp_end p0) (fun (u : Unit) => ([] : va_W)) := by
  refine entI (by decide) (Nat.le_of_ble_eq_true rfl) ?_
  intro p e s m below meth c ls A hC hl hP hK hD hA
  obtain ⟨hx, hb, hr, hml, hown, hts, hlk, hnm⟩ := id hC
  have hS : va_S A s.heap s.heap [] := va_S.rf
  have hl : lv_has ls 2 [(0, .ref o), (1, .int p0)] := hl
  generalize hHe : s.heap = H at hP ⊢
  rw [hHe] at hS
  have hS : va_S A s.heap H [] := by rw [hHe]; exact hS
  refine lv_iload_n hx hb dX10_unsure_0 rfl (lv_at hl 1 rfl) ?_
  refine lv_if_lt (tgt := 23) hx hb dX10_unsure_1 (by decide) (fun c_1 => ?_) (fun c_1 => ?_)
  · refine lv_iconst (v := (-1)) hx hb dX10_unsure_23 (by decide) ?_
    exact retI hC hP hD hS (by decide) (by decide) () [] rfl rfl (by have z0 := zt_lt c_1; have y0 : ((-1) : Int32).toInt = (-1) := (by decide); have y1 : (0 : Int32).toInt = 0 := (by decide); have y2 : (1 : Int32).toInt = 1 := (by decide); unfold sp_end; (repeat' split) <;> first | rfl | (exact Int32.zero_add _) | (exfalso; omega)) dX10_unsure_24
  · refine lv_iload_n hx hb dX10_unsure_4 rfl (lv_at hl 1 rfl) ?_
    refine lv_iconst (v := 1) hx hb dX10_unsure_5 (by decide) ?_
    refine lv_aload_n hx hb dX10_unsure_6 rfl (lv_at hl 0 rfl) ?_
    refine aftI (wr := []) (runV hC hK hP hD hl.1 (k_X10_manyOf l D cyB cyI cyJ cyZ H.size o fs mn fm hl_fs h_fs_12 h_fs_37 h_fm_0) cV_X10_manyOf mw_methodLink_RX10_375_yX10_manyOf [0, 1] rfl rfl 0 rfl rfl rfl rfl rfl (Nat.le_of_ble_eq_true rfl) ⟨by decide, by decide⟩ ⟨by decide, by decide⟩ dX10_unsure_7) hP hD hS hA [0, 1] [] rfl rfl rfl (by decide) (fun r_2 u_2 H locs hw_2 hP hD hS => ?_)
    have hr_2 := hw_2
    refine lv_cst (v := 0) hr_2 ?_
    have hP : va_P D classes [(o, .inr (10, fs)), (mn, .inl (cyI, 2, .inl fm))] H := hP
    have hD : va_D A [(o, .inr (10, fs)), (mn, .inl (cyI, 2, .inl fm))] := hD
    refine W.widen (k := 0) (n := 0) (by decide) (by decide) ?_
    refine lv_ishl hx hb dX10_unsure_10 ?_
    refine lv_cst (v := 1) (by decide) ?_
    refine lv_icmp_ge (tgt := 23) hx hb dX10_unsure_11 (by decide) (fun c_3 => ?_) (fun c_3 => ?_)
    · refine lv_iconst (v := (-1)) hx hb dX10_unsure_23 (by decide) ?_
      exact retI hC hP hD hS (by decide) (by decide) () [] rfl rfl (by have z0 := zt_nlt c_1; have z1 := zt_le c_3; have y0 : ((-1) : Int32).toInt = (-1) := (by decide); have y1 : (0 : Int32).toInt = 0 := (by decide); have y2 : (1 : Int32).toInt = 1 := (by decide); unfold sp_end; (repeat' split) <;> first | rfl | (exact Int32.zero_add _) | (exfalso; omega)) dX10_unsure_24
    · obtain rfl : p0 = 0 := zu_eq (by have z0 := zt_nlt c_1; have z1 := zt_nle c_3; have y0 : ((-1) : Int32).toInt = (-1) := (by decide); have y1 : (0 : Int32).toInt = 0 := (by decide); have y2 : (1 : Int32).toInt = 1 := (by decide); omega)
      refine lv_iload_n hx hb dX10_unsure_14 rfl (lv_at hl 1 rfl) ?_
      refine aftI (wr := [(o, .inr (10, fs)), (mn, .inl (cyI, 2, .inl fm))]) (runS hC hK hP hD hl.1 (k_X10_bitsOf l D cyB cyI cyJ cyZ H.size  ) cS_X10_bitsOf mw_methodLink_RX10_527_yX10_bitsOf [] rfl rfl rfl rfl (Nat.le_of_ble_eq_true rfl) ⟨by decide, by decide⟩ ⟨by decide, by decide⟩ dX10_unsure_15) hP hD hS hA [] [0, 1] rfl rfl rfl (by decide) (fun r_4 u_4 H locs hw_4 hP hD hS => ?_)
      have hr_4 := hw_4
      refine lv_cst (v := 0) hr_4 ?_
      have hP : va_P D classes [(o, .inr (10, fs)), (mn, .inl (cyI, 2, .inl fm))] H := hP
      have hD : va_D A [(o, .inr (10, fs)), (mn, .inl (cyI, 2, .inl fm))] := hD
      refine W.widen (k := 0) (n := 0) (by decide) (by decide) ?_
      refine lv_bipush (v := 6) hx hb dX10_unsure_18 (by decide) ?_
      refine lv_icmp_le (tgt := 25) hx hb dX10_unsure_20 (by decide) (fun c_5 => ?_) (fun c_5 => absurd (by decide) c_5)
      refine lv_aload_n hx hb dX10_unsure_25 rfl (lv_at hl 0 rfl) ?_
      refine lv_iload_n hx hb dX10_unsure_26 rfl (lv_at hl 1 rfl) ?_
      refine pf (v := .int 0) hC hK hP hD hS iX10 tyX10_ok nmX10 0 rfl rfl 77 (by decide) mw_fieldLink_RX10_294_MirrorDrillModel_unsureSet_I rfl rfl rfl (ln_lt hl_fs (by decide)) dX10_unsure_27 (fun H locs hP hD hS => ?_)
      have hP : va_P D classes [(o, .inr (10, (fs.set 77 (.int 0)))), (mn, .inl (cyI, 2, .inl fm))] H := hP
      have hD : va_D A [(o, .inr (10, (fs.set 77 (.int 0)))), (mn, .inl (cyI, 2, .inl fm))] := hD
      refine lv_iload_n hx hb dX10_unsure_30 rfl (lv_at hl 1 rfl) ?_
      refine aftI (wr := [(o, .inr (10, (fs.set 77 (.int 0)))), (mn, .inl (cyI, 2, .inl fm))]) (runS hC hK hP hD hl.1 (k_X10_bitsOf l D cyB cyI cyJ cyZ H.size  ) cS_X10_bitsOf mw_methodLink_RX10_527_yX10_bitsOf [] rfl rfl rfl rfl (Nat.le_of_ble_eq_true rfl) ⟨by decide, by decide⟩ ⟨by decide, by decide⟩ dX10_unsure_31) hP hD hS hA [] [0, 1] rfl rfl rfl (by decide) (fun r_6 u_6 H locs hw_6 hP hD hS => ?_)
      have hr_6 := hw_6
      refine lv_cst (v := 0) hr_6 ?_
      have hP : va_P D classes [(o, .inr (10, (fs.set 77 (.int 0)))), (mn, .inl (cyI, 2, .inl fm))] H := hP
      have hD : va_D A [(o, .inr (10, (fs.set 77 (.int 0)))), (mn, .inl (cyI, 2, .inl fm))] := hD
      refine W.widen (k := 0) (n := 0) (by decide) (by decide) ?_
      exact retI hC hP hD hS (by decide) (by decide) () [] rfl rfl (by decide) dX10_unsure_34
set_option maxHeartbeats 4000000 in
set_option maxRecDepth 100000 in
theorem k_X10_areSo (l : Launch) (D : va_G) (cyB cyI cyJ cyZ : ClassId) (sz : Nat) (o : Nat) (p1 : Int32) (fs : List Value) (mn : Nat) (fm : Nat → Int32) (hl_fs : fs.length = 80) (h_fs_12 : fs[12]? = some (.ref mn)) (h_fs_37 : fs[37]? = some (.int 0)) (h_fs_75 : fs[75]? = some (.int 0)) (h_fm_0 : fm 0 = 0) : KI l yX10_areSo cX10_areSo 4 .boolean 2 0 0 D (TYS cyB cyI cyJ cyZ) [(o, .inr (10, fs)), (mn, .inl (cyI, 2, .inl fm))] sz [.ref o, .int p1] (fun (r : Int32) (u : Unit) => r = 1) (fun (u : Unit) => ([(o, .inr (10, fs)), (mn, .inl (cyI, 2, .inl fm))] : va_W)) := by
  refine entI (by decide) (Nat.le_of_ble_eq_true rfl) ?_
  intro p e s m below meth c ls A hC hl hP hK hD hA
  obtain ⟨hx, hb, hr, hml, hown, hts, hlk, hnm⟩ := id hC
  have hS : va_S A s.heap s.heap [] := va_S.rf
  have hl : lv_has ls 4 [(0, .ref o), (1, .int p1)] := hl
  generalize hHe : s.heap = H at hP ⊢
  rw [hHe] at hS
  have hS : va_S A s.heap H [] := by rw [hHe]; exact hS
  refine lv_iconst (v := 0) hx hb dX10_areSo_0 (by decide) ?_
  refine lv_istore_n (lv' := [(2, .int 0), (0, .ref o), (1, .int p1)]) hx hb dX10_areSo_1 rfl hl (by decide) rfl (fun ls hl => ?_)
  have lp : ∀ (n i : Nat)  (H : Heap) (locs : List Loc) (ls : Array Slot), i + n = 31 → lv_has ls 4 [(2, .int (nI i)), (0, .ref o), (1, .int p1)] → va_P D classes [(o, .inr (10, fs)), (mn, .inl (cyI, 2, .inl fm))] H → va_D A [(o, .inr (10, fs)), (mn, .inl (cyI, 2, .inl fm))] → va_S A s.heap H locs → W p l e (rmK 2 0 0) s m ([.ref o, .int p1] : List Value).toArray below meth c H locs 0 0 (MQ below (va_Qi (fun (r : Int32) (u : Unit) => r = 1) (fun u => Aft D A ((fun (u : Unit) => ([(o, .inr (10, fs)), (mn, .inl (cyI, 2, .inl fm))] : va_W)) u)) A) ([.ref o, .int p1] : List Value).toArray s 0 0 A) (F0 m 2 ls []) := by
    intro n
    induction n with
    | zero =>
      intro i  H locs ls hi hl hP hD hS
      obtain rfl : i = 31 := by omega
      refine lv_iload_n hx hb dX10_areSo_2 rfl (lv_at hl 0 rfl) ?_
      refine lv_bipush (v := 30) hx hb dX10_areSo_3 (by decide) ?_
      refine lv_icmp_gt (tgt := 95) hx hb dX10_areSo_5 (by decide) (fun c_1 => ?_) (fun c_1 => absurd (by decide) c_1)
      refine lv_iconst (v := 1) hx hb dX10_areSo_95 (by decide) ?_
      exact retZ hC hP hD hS (by decide) (by decide) () [0, 1] rfl rfl rfl rfl dX10_areSo_96
    | succ n ih =>
      intro i  H locs ls hi hl hP hD hS
      have hlt : i < 31 := by omega
      refine lv_iload_n hx hb dX10_areSo_2 rfl (lv_at hl 0 rfl) ?_
      refine lv_bipush (v := 30) hx hb dX10_areSo_3 (by decide) ?_
      refine lv_icmp_gt (tgt := 95) hx hb dX10_areSo_5 (by decide) (fun c_2 => absurd c_2 (nI_nlt (a := 30) (b := i) (by omega) (by decide))) (fun c_2 => ?_)
      refine lv_iconst (v := 0) hx hb dX10_areSo_8 (by decide) ?_
      refine lv_istore_n (lv' := [(3, .int 0), (2, .int (nI i)), (0, .ref o), (1, .int p1)]) hx hb dX10_areSo_9 rfl hl (by decide) rfl (fun ls hl => ?_)
      refine lv_iload_n hx hb dX10_areSo_10 rfl (lv_at hl 0 rfl) ?_
      refine lv_aload_n hx hb dX10_areSo_11 rfl (lv_at hl 2 rfl) ?_
      refine gf hC hK hP iX10 0 rfl rfl 75 (by decide) mw_fieldLink_RX10_291_MirrorDrillModel_sights_I h_fs_75 dX10_areSo_12 ?_
      refine lv_icmp_ge (tgt := 85) hx hb dX10_areSo_15 (by decide) (fun c_3 => ?_) (fun c_3 => absurd (by decide) c_3)
      refine lv_aload_n hx hb dX10_areSo_85 rfl (lv_at hl 2 rfl) ?_
      refine aftV (wr := []) (runV hC hK hP hD hl.1 (k_X10_beat l D cyB cyI cyJ cyZ H.size o fs mn fm hl_fs h_fs_12 h_fs_37 h_fm_0) cV_X10_beat mw_methodLink_RX10_421_yX10_beat [0, 1] rfl rfl 0 rfl rfl rfl rfl rfl (Nat.le_of_ble_eq_true rfl) ⟨by decide, by decide⟩ ⟨by decide, by decide⟩ dX10_areSo_86) hP hD hS hA [0, 1] [] rfl rfl rfl (by decide) (fun u_4 H locs hw_4 hP hD hS => ?_)
      have hP : va_P D classes [(o, .inr (10, fs)), (mn, .inl (cyI, 2, .inl fm))] H := hP
      have hD : va_D A [(o, .inr (10, fs)), (mn, .inl (cyI, 2, .inl fm))] := hD
      refine W.widen (k := 0) (n := 0) (by decide) (by decide) ?_
      refine lv_iinc (v := (nI (i + 1))) (lv' := [(2, .int (nI (i + 1))), (3, .int 0), (0, .ref o), (1, .int p1)]) hx hb dX10_areSo_89 hl (k := 1) rfl (nI_1 _) (by decide) rfl (fun ls hl => ?_)
      refine lv_goto (tgt := 2) hx hb dX10_areSo_92 (by decide) ?_
      exact ih (i + 1)  _ _ _ (by omega) (lv_sub hl [0, 2, 3] rfl) hP hD hS
  exact lp 31 0  _ _ _ (by decide) hl hP hD hS
set_option maxHeartbeats 4000000 in
set_option maxRecDepth 100000 in
theorem k_X10_layCase (l : Launch) (D : va_G) (cyB cyI cyJ cyZ : ClassId) (sz : Nat) (o : Nat) (p1 : Int32) (fs : List Value) (rw : Nat) (fi : Nat) (mn : Nat) (frw : Nat → Int32) (ffi : Nat → Int32) (fm : Nat → Int32) (hl_fs : fs.length = 80) (h_fs_43 : fs[43]? = some (.ref rw)) (h_fs_20 : fs[20]? = some (.ref fi)) (h_fs_12 : fs[12]? = some (.ref mn)) (h_fs_37 : fs[37]? = some (.int 0)) (h_fm_0 : fm 0 = 0) : KV l yX10_layCase cX10_layCase 4 1 0 0 D (TYS cyB cyI cyJ cyZ) [(o, .inr (10, fs)), (rw, .inl (cyI, 30, .inl frw)), (fi, .inl (cyI, 60, .inl ffi)), (mn, .inl (cyI, 2, .inl fm))] sz [.ref o, .int p1] (fun (u : (Nat → Int32)) => True) (fun (u : (Nat → Int32)) => ([(o, .inr (10, fs)), (rw, .inl (cyI, 30, .inl u)), (fi, .inl (cyI, 60, .inl ffi)), (mn, .inl (cyI, 2, .inl fm))] : va_W)) := by
  refine entV (by decide) (Nat.le_of_ble_eq_true rfl) ?_
  intro p e s m below meth c ls A hC hl hP hK hD hA
  obtain ⟨hx, hb, hr, hml, hown, hts, hlk, hnm⟩ := id hC
  have hS : va_S A s.heap s.heap [] := va_S.rf
  have hl : lv_has ls 4 [(0, .ref o), (1, .int p1)] := hl
  generalize hHe : s.heap = H at hP ⊢
  rw [hHe] at hS
  have hS : va_S A s.heap H [] := by rw [hHe]; exact hS
  refine lv_aload_n hx hb dX10_layCase_0 rfl (lv_at hl 0 rfl) ?_
  refine aftV (wr := [(mn, .inl (cyI, 2, .inl fm))]) (runV hC hK hP hD hl.1 (k_X10_layFirst l D cyB cyI cyJ cyZ H.size o fs rw fi frw ffi hl_fs h_fs_43 h_fs_20 h_fs_37) cV_X10_layFirst mw_methodLink_RX10_382_yX10_layFirst [0, 1, 2] rfl rfl 0 rfl rfl rfl rfl rfl (Nat.le_of_ble_eq_true rfl) ⟨by decide, by decide⟩ ⟨by decide, by decide⟩ dX10_layCase_1) hP hD hS hA [0, 1, 2] [3] rfl rfl rfl (by decide) (fun u_1 H locs hw_1 hP hD hS => ?_)
  obtain ⟨grw_1, rfl⟩ : ∃ z, z = u_1 := ⟨_, rfl⟩
  try dsimp only at hw_1
  have hP : va_P D classes [(mn, .inl (cyI, 2, .inl fm)), (o, .inr (10, fs)), (rw, .inl (cyI, 30, .inl grw_1)), (fi, .inl (cyI, 60, .inl ffi))] H := hP
  have hD : va_D A [(mn, .inl (cyI, 2, .inl fm)), (o, .inr (10, fs)), (rw, .inl (cyI, 30, .inl grw_1)), (fi, .inl (cyI, 60, .inl ffi))] := hD
  refine W.widen (k := 0) (n := 0) (by decide) (by decide) ?_
  refine lv_iload_n hx hb dX10_layCase_4 rfl (lv_at hl 1 rfl) ?_
  refine lv_istore_n (lv' := [(2, .int p1), (0, .ref o), (1, .int p1)]) hx hb dX10_layCase_5 rfl hl (by decide) rfl (fun ls hl => ?_)
  refine lv_iconst (v := 0) hx hb dX10_layCase_6 (by decide) ?_
  refine lv_istore_n (lv' := [(3, .int 0), (2, .int p1), (0, .ref o), (1, .int p1)]) hx hb dX10_layCase_7 rfl hl (by decide) rfl (fun ls hl => ?_)
  refine lv_iload_n hx hb dX10_layCase_8 rfl (lv_at hl 0 rfl) ?_
  refine lv_aload_n hx hb dX10_layCase_9 rfl (lv_at hl 2 rfl) ?_
  refine aftI (wr := [(rw, .inl (cyI, 30, .inl grw_1)), (fi, .inl (cyI, 60, .inl ffi))]) (runV hC hK hP hD hl.1 (k_X10_manyOf l D cyB cyI cyJ cyZ H.size o fs mn fm hl_fs h_fs_12 h_fs_37 h_fm_0) cV_X10_manyOf mw_methodLink_RX10_375_yX10_manyOf [1, 0] rfl rfl 1 rfl rfl rfl rfl rfl (Nat.le_of_ble_eq_true rfl) ⟨by decide, by decide⟩ ⟨by decide, by decide⟩ dX10_layCase_10) hP hD hS hA [1, 0] [2, 3] rfl rfl rfl (by decide) (fun r_2 u_2 H locs hw_2 hP hD hS => ?_)
  have hr_2 := hw_2
  refine lv_cst (v := 0) hr_2 ?_
  have hP : va_P D classes [(rw, .inl (cyI, 30, .inl grw_1)), (fi, .inl (cyI, 60, .inl ffi)), (o, .inr (10, fs)), (mn, .inl (cyI, 2, .inl fm))] H := hP
  have hD : va_D A [(rw, .inl (cyI, 30, .inl grw_1)), (fi, .inl (cyI, 60, .inl ffi)), (o, .inr (10, fs)), (mn, .inl (cyI, 2, .inl fm))] := hD
  refine W.widen (k := 0) (n := 0) (by decide) (by decide) ?_
  refine lv_icmp_ge (tgt := 65) hx hb dX10_layCase_13 (by decide) (fun c_3 => ?_) (fun c_3 => absurd (by decide) c_3)
  exact retV hC hP hD hS (by decide) (by decide) grw_1 [2, 0, 1, 3] rfl rfl trivial dX10_layCase_65
set_option maxHeartbeats 4000000 in
set_option maxRecDepth 100000 in
theorem k_X10_fits (l : Launch) (D : va_G) (cyB cyI cyJ cyZ : ClassId) (sz : Nat) (o : Nat) (p0 : Int32) (fs : List Value) (rw : Nat) (fi : Nat) (mn : Nat) (sm : Nat) (frw : Nat → Int32) (ffi : Nat → Int32) (fm : Nat → Int32) (fsm : Nat → Int32) (hl_fs : fs.length = 80) (h_fs_43 : fs[43]? = some (.ref rw)) (h_fs_20 : fs[20]? = some (.ref fi)) (h_fs_12 : fs[12]? = some (.ref mn)) (h_fs_74 : fs[74]? = some (.ref sm)) (h_fs_37 : fs[37]? = some (.int 0)) (h_fs_75 : fs[75]? = some (.int 0)) (h_fm_0 : fm 0 = 0) : KI l yX10_fits cX10_fits 6 .int 3 0 0 D (TYS cyB cyI cyJ cyZ) [(o, .inr (10, fs)), (rw, .inl (cyI, 30, .inl frw)), (fi, .inl (cyI, 60, .inl ffi)), (mn, .inl (cyI, 2, .inl fm)), (sm, .inl (cyI, 30, .inl fsm))] sz [.ref o, .int p0] (fun (r : Int32) (u : Unit) => r = 1) (fun (u : Unit) => ([] : va_W)) := by
  refine entI (by decide) (Nat.le_of_ble_eq_true rfl) ?_
  intro p e s m below meth c ls A hC hl hP hK hD hA
  obtain ⟨hx, hb, hr, hml, hown, hts, hlk, hnm⟩ := id hC
  have hS : va_S A s.heap s.heap [] := va_S.rf
  have hl : lv_has ls 6 [(0, .ref o), (1, .int p0)] := hl
  generalize hHe : s.heap = H at hP ⊢
  rw [hHe] at hS
  have hS : va_S A s.heap H [] := by rw [hHe]; exact hS
  refine lv_iconst (v := 1) hx hb dX10_fits_0 (by decide) ?_
  refine lv_istore_n (lv' := [(2, .int 1), (0, .ref o), (1, .int p0)]) hx hb dX10_fits_1 rfl hl (by decide) rfl (fun ls hl => ?_)
  refine lv_iconst (v := 0) hx hb dX10_fits_2 (by decide) ?_
  refine lv_istore_n (lv' := [(3, .int 0), (2, .int 1), (0, .ref o), (1, .int p0)]) hx hb dX10_fits_3 rfl hl (by decide) rfl (fun ls hl => ?_)
  refine lv_iload_n hx hb dX10_fits_4 rfl (lv_at hl 0 rfl) ?_
  refine lv_aload_n hx hb dX10_fits_5 rfl (lv_at hl 2 rfl) ?_
  refine aftI (wr := [(rw, .inl (cyI, 30, .inl frw)), (fi, .inl (cyI, 60, .inl ffi)), (sm, .inl (cyI, 30, .inl fsm))]) (runV hC hK hP hD hl.1 (k_X10_manyOf l D cyB cyI cyJ cyZ H.size o fs mn fm hl_fs h_fs_12 h_fs_37 h_fm_0) cV_X10_manyOf mw_methodLink_RX10_375_yX10_manyOf [0, 3] rfl rfl 0 rfl rfl rfl rfl rfl (Nat.le_of_ble_eq_true rfl) ⟨by decide, by decide⟩ ⟨by decide, by decide⟩ dX10_fits_6) hP hD hS hA [0, 3] [1, 2, 4] rfl rfl rfl (by decide) (fun r_1 u_1 H locs hw_1 hP hD hS => ?_)
  have hr_1 := hw_1
  refine lv_cst (v := 0) hr_1 ?_
  have hP : va_P D classes [(rw, .inl (cyI, 30, .inl frw)), (fi, .inl (cyI, 60, .inl ffi)), (sm, .inl (cyI, 30, .inl fsm)), (o, .inr (10, fs)), (mn, .inl (cyI, 2, .inl fm))] H := hP
  have hD : va_D A [(rw, .inl (cyI, 30, .inl frw)), (fi, .inl (cyI, 60, .inl ffi)), (sm, .inl (cyI, 30, .inl fsm)), (o, .inr (10, fs)), (mn, .inl (cyI, 2, .inl fm))] := hD
  refine W.widen (k := 0) (n := 0) (by decide) (by decide) ?_
  refine lv_icmp_ge (tgt := 46) hx hb dX10_fits_9 (by decide) (fun c_2 => ?_) (fun c_2 => absurd (by decide) c_2)
  refine lv_iconst (v := 0) hx hb dX10_fits_46 (by decide) ?_
  refine lv_istore_n (lv' := [(3, .int 0), (2, .int 1), (0, .ref o), (1, .int p0)]) hx hb dX10_fits_47 rfl hl (by decide) rfl (fun ls hl => ?_)
  have lp : ∀ (n i : Nat) (g0 : Nat → Int32) (H : Heap) (locs : List Loc) (ls : Array Slot), i + n = 30 → lv_has ls 6 [(3, .int (nI i)), (2, .int 1), (0, .ref o), (1, .int p0)] → va_P D classes [(rw, .inl (cyI, 30, .inl frw)), (fi, .inl (cyI, 60, .inl ffi)), (sm, .inl (cyI, 30, .inl g0)), (o, .inr (10, fs)), (mn, .inl (cyI, 2, .inl fm))] H → va_D A [(rw, .inl (cyI, 30, .inl frw)), (fi, .inl (cyI, 60, .inl ffi)), (sm, .inl (cyI, 30, .inl g0)), (o, .inr (10, fs)), (mn, .inl (cyI, 2, .inl fm))] → va_S A s.heap H locs → W p l e (rmK 3 0 0) s m ([.ref o, .int p0] : List Value).toArray below meth c H locs 0 0 (MQ below (va_Qi (fun (r : Int32) (u : Unit) => r = 1) (fun u => Aft D A ((fun (u : Unit) => ([] : va_W)) u)) A) ([.ref o, .int p0] : List Value).toArray s 0 0 A) (F0 m 48 ls []) := by
    intro n
    induction n with
    | zero =>
      intro i g0 H locs ls hi hl hP hD hS
      obtain rfl : i = 30 := by omega
      refine lv_iload_n hx hb dX10_fits_48 rfl (lv_at hl 0 rfl) ?_
      refine lv_bipush (v := 30) hx hb dX10_fits_49 (by decide) ?_
      refine lv_icmp_ge (tgt := 67) hx hb dX10_fits_51 (by decide) (fun c_3 => ?_) (fun c_3 => absurd (by decide) c_3)
      refine lv_iconst (v := 0) hx hb dX10_fits_67 (by decide) ?_
      refine lv_istore_n (lv' := [(3, .int 0), (2, .int 1), (0, .ref o), (1, .int p0)]) hx hb dX10_fits_68 rfl hl (by decide) rfl (fun ls hl => ?_)
      refine lv_iconst (v := 0) hx hb dX10_fits_69 (by decide) ?_
      refine lv_istore (lv' := [(4, .int 0), (3, .int 0), (2, .int 1), (0, .ref o), (1, .int p0)]) hx hb dX10_fits_70 hl (by decide) rfl (fun ls hl => ?_)
      refine lv_iload hx hb dX10_fits_72 (lv_at hl 0 rfl) ?_
      refine lv_iload_n hx hb dX10_fits_74 rfl (lv_at hl 2 rfl) ?_
      refine lv_icmp_ge (tgt := 147) hx hb dX10_fits_75 (by decide) (fun c_4 => absurd c_4 (by decide)) (fun c_4 => ?_)
      refine lv_aload_n hx hb dX10_fits_78 rfl (lv_at hl 3 rfl) ?_
      refine lv_iload hx hb dX10_fits_79 (lv_at hl 0 rfl) ?_
      refine aftV (wr := [(sm, .inl (cyI, 30, .inl g0))]) (runV hC hK hP hD hl.1 (k_X10_layCase l D cyB cyI cyJ cyZ H.size o 0 fs rw fi mn frw ffi fm hl_fs h_fs_43 h_fs_20 h_fs_12 h_fs_37 h_fm_0) cV_X10_layCase mw_methodLink_RX10_530_yX10_layCase [3, 0, 1, 4] rfl rfl 3 rfl rfl rfl rfl rfl (Nat.le_of_ble_eq_true rfl) ⟨by decide, by decide⟩ ⟨by decide, by decide⟩ dX10_fits_81) hP hD hS hA [3, 0, 1, 4] [2] rfl rfl rfl (by decide) (fun u_5 H locs hw_5 hP hD hS => ?_)
      obtain ⟨grw_5, rfl⟩ : ∃ z, z = u_5 := ⟨_, rfl⟩
      try dsimp only at hw_5
      have hP : va_P D classes [(sm, .inl (cyI, 30, .inl g0)), (o, .inr (10, fs)), (rw, .inl (cyI, 30, .inl grw_5)), (fi, .inl (cyI, 60, .inl ffi)), (mn, .inl (cyI, 2, .inl fm))] H := hP
      have hD : va_D A [(sm, .inl (cyI, 30, .inl g0)), (o, .inr (10, fs)), (rw, .inl (cyI, 30, .inl grw_5)), (fi, .inl (cyI, 60, .inl ffi)), (mn, .inl (cyI, 2, .inl fm))] := hD
      refine W.widen (k := 0) (n := 0) (by decide) (by decide) ?_
      refine lv_aload_n hx hb dX10_fits_84 rfl (lv_at hl 3 rfl) ?_
      refine lv_iload_n hx hb dX10_fits_85 rfl (lv_at hl 4 rfl) ?_
      refine aftI (wr := [(sm, .inl (cyI, 30, .inl g0)), (rw, .inl (cyI, 30, .inl grw_5)), (fi, .inl (cyI, 60, .inl ffi))]) (runV hC hK hP hD hl.1 (k_X10_areSo l D cyB cyI cyJ cyZ H.size o p0 fs mn fm hl_fs h_fs_12 h_fs_37 h_fs_75 h_fm_0) cV_X10_areSo mw_methodLink_RX10_533_yX10_areSo [1, 4] rfl rfl 1 rfl rfl rfl rfl rfl (Nat.le_of_ble_eq_true rfl) ⟨by decide, by decide⟩ ⟨by decide, by decide⟩ dX10_fits_86) hP hD hS hA [1, 4] [0, 2, 3] rfl rfl rfl (by decide) (fun r_6 u_6 H locs hw_6 hP hD hS => ?_)
      have hr_6 := hw_6
      refine lv_cst (v := 1) hr_6 ?_
      have hP : va_P D classes [(sm, .inl (cyI, 30, .inl g0)), (rw, .inl (cyI, 30, .inl grw_5)), (fi, .inl (cyI, 60, .inl ffi)), (o, .inr (10, fs)), (mn, .inl (cyI, 2, .inl fm))] H := hP
      have hD : va_D A [(sm, .inl (cyI, 30, .inl g0)), (rw, .inl (cyI, 30, .inl grw_5)), (fi, .inl (cyI, 60, .inl ffi)), (o, .inr (10, fs)), (mn, .inl (cyI, 2, .inl fm))] := hD
      refine W.widen (k := 0) (n := 0) (by decide) (by decide) ?_
      refine lv_if_ne (tgt := 95) hx hb dX10_fits_89 (by decide) (fun c_7 => ?_) (fun c_7 => absurd c_7 (by decide))
      refine lv_iinc (v := 1) (lv' := [(3, .int 1), (4, .int 0), (2, .int 1), (0, .ref o), (1, .int p0)]) hx hb dX10_fits_95 hl (k := 1) rfl (by decide) (by decide) rfl (fun ls hl => ?_)
      refine lv_aload_n hx hb dX10_fits_98 rfl (lv_at hl 3 rfl) ?_
      refine lv_iload hx hb dX10_fits_99 (lv_at hl 1 rfl) ?_
      refine aftV (wr := [(sm, .inl (cyI, 30, .inl g0))]) (runV hC hK hP hD hl.1 (k_X10_layCase l D cyB cyI cyJ cyZ H.size o 0 fs rw fi mn grw_5 ffi fm hl_fs h_fs_43 h_fs_20 h_fs_12 h_fs_37 h_fm_0) cV_X10_layCase mw_methodLink_RX10_530_yX10_layCase [3, 1, 2, 4] rfl rfl 3 rfl rfl rfl rfl rfl (Nat.le_of_ble_eq_true rfl) ⟨by decide, by decide⟩ ⟨by decide, by decide⟩ dX10_fits_101) hP hD hS hA [3, 1, 2, 4] [0] rfl rfl rfl (by decide) (fun u_8 H locs hw_8 hP hD hS => ?_)
      obtain ⟨grw_8, rfl⟩ : ∃ z, z = u_8 := ⟨_, rfl⟩
      try dsimp only at hw_8
      have hP : va_P D classes [(sm, .inl (cyI, 30, .inl g0)), (o, .inr (10, fs)), (rw, .inl (cyI, 30, .inl grw_8)), (fi, .inl (cyI, 60, .inl ffi)), (mn, .inl (cyI, 2, .inl fm))] H := hP
      have hD : va_D A [(sm, .inl (cyI, 30, .inl g0)), (o, .inr (10, fs)), (rw, .inl (cyI, 30, .inl grw_8)), (fi, .inl (cyI, 60, .inl ffi)), (mn, .inl (cyI, 2, .inl fm))] := hD
      refine W.widen (k := 0) (n := 0) (by decide) (by decide) ?_
      refine lv_iconst (v := 0) hx hb dX10_fits_104 (by decide) ?_
      refine lv_istore (lv' := [(5, .int 0), (3, .int 1), (4, .int 0), (2, .int 1), (0, .ref o), (1, .int p0)]) hx hb dX10_fits_105 hl (by decide) rfl (fun ls hl => ?_)
      refine lv_iload hx hb dX10_fits_107 (lv_at hl 0 rfl) ?_
      refine lv_aload_n hx hb dX10_fits_109 rfl (lv_at hl 4 rfl) ?_
      refine aftI (wr := [(sm, .inl (cyI, 30, .inl g0)), (rw, .inl (cyI, 30, .inl grw_8)), (fi, .inl (cyI, 60, .inl ffi))]) (runV hC hK hP hD hl.1 (k_X10_manyOf l D cyB cyI cyJ cyZ H.size o fs mn fm hl_fs h_fs_12 h_fs_37 h_fm_0) cV_X10_manyOf mw_methodLink_RX10_375_yX10_manyOf [1, 4] rfl rfl 1 rfl rfl rfl rfl rfl (Nat.le_of_ble_eq_true rfl) ⟨by decide, by decide⟩ ⟨by decide, by decide⟩ dX10_fits_110) hP hD hS hA [1, 4] [0, 2, 3] rfl rfl rfl (by decide) (fun r_9 u_9 H locs hw_9 hP hD hS => ?_)
      have hr_9 := hw_9
      refine lv_cst (v := 0) hr_9 ?_
      have hP : va_P D classes [(sm, .inl (cyI, 30, .inl g0)), (rw, .inl (cyI, 30, .inl grw_8)), (fi, .inl (cyI, 60, .inl ffi)), (o, .inr (10, fs)), (mn, .inl (cyI, 2, .inl fm))] H := hP
      have hD : va_D A [(sm, .inl (cyI, 30, .inl g0)), (rw, .inl (cyI, 30, .inl grw_8)), (fi, .inl (cyI, 60, .inl ffi)), (o, .inr (10, fs)), (mn, .inl (cyI, 2, .inl fm))] := hD
      refine W.widen (k := 0) (n := 0) (by decide) (by decide) ?_
      refine lv_icmp_ge (tgt := 141) hx hb dX10_fits_113 (by decide) (fun c_10 => ?_) (fun c_10 => absurd (by decide) c_10)
      refine lv_iinc (v := 1) (lv' := [(4, .int 1), (5, .int 0), (3, .int 1), (2, .int 1), (0, .ref o), (1, .int p0)]) hx hb dX10_fits_141 hl (k := 2) rfl (by decide) (by decide) rfl (fun ls hl => ?_)
      refine lv_goto (tgt := 72) hx hb dX10_fits_144 (by decide) ?_
      refine lv_iload hx hb dX10_fits_72 (lv_at hl 0 rfl) ?_
      refine lv_iload_n hx hb dX10_fits_74 rfl (lv_at hl 3 rfl) ?_
      refine lv_icmp_ge (tgt := 147) hx hb dX10_fits_75 (by decide) (fun c_11 => ?_) (fun c_11 => absurd (by decide) c_11)
      refine lv_iload_n hx hb dX10_fits_147 rfl (lv_at hl 2 rfl) ?_
      exact retI hC hP hD hS (by decide) (by decide) () [] rfl rfl rfl dX10_fits_148
    | succ n ih =>
      intro i g0 H locs ls hi hl hP hD hS
      have hlt : i < 30 := by omega
      refine lv_iload_n hx hb dX10_fits_48 rfl (lv_at hl 0 rfl) ?_
      refine lv_bipush (v := 30) hx hb dX10_fits_49 (by decide) ?_
      refine lv_icmp_ge (tgt := 67) hx hb dX10_fits_51 (by decide) (fun c_12 => absurd c_12 (nI_ge (b := 30) hlt (by decide))) (fun c_12 => ?_)
      refine lv_aload_n hx hb dX10_fits_54 rfl (lv_at hl 2 rfl) ?_
      refine gf hC hK hP iX10 3 rfl rfl 74 (by decide) mw_fieldLink_RX10_168_MirrorDrillModel_sureMoves_I h_fs_74 dX10_fits_55 ?_
      refine lv_iload_n hx hb dX10_fits_58 rfl (lv_at hl 0 rfl) ?_
      refine lv_iconst (v := 0) hx hb dX10_fits_59 (by decide) ?_
      refine va_iast hx hb hK hP hD hS 2 1 rfl rfl (vp_in_nI (by omega) (by decide)) dX10_fits_60 (fun H locs hP hD hS => ?_)
      obtain ⟨f_13, ef_13⟩ : ∃ g : Nat → Int32, g = upd g0 (((nI i) : Int32).toNatClampNeg) 0 := ⟨_, rfl⟩
      rw [← ef_13] at hP hD
      have hP : va_P D classes [(rw, .inl (cyI, 30, .inl frw)), (fi, .inl (cyI, 60, .inl ffi)), (sm, .inl (cyI, 30, .inl f_13)), (o, .inr (10, fs)), (mn, .inl (cyI, 2, .inl fm))] H := hP
      have hD : va_D A [(rw, .inl (cyI, 30, .inl frw)), (fi, .inl (cyI, 60, .inl ffi)), (sm, .inl (cyI, 30, .inl f_13)), (o, .inr (10, fs)), (mn, .inl (cyI, 2, .inl fm))] := hD
      refine lv_iinc (v := (nI (i + 1))) (lv' := [(3, .int (nI (i + 1))), (2, .int 1), (0, .ref o), (1, .int p0)]) hx hb dX10_fits_61 hl (k := 0) rfl (nI_1 _) (by decide) rfl (fun ls hl => ?_)
      refine lv_goto (tgt := 48) hx hb dX10_fits_64 (by decide) ?_
      exact ih (i + 1) f_13 _ _ _ (by omega) (lv_sub hl [0, 1, 2, 3] rfl) hP hD hS
  exact lp 30 0 fsm _ _ _ (by decide) hl hP hD hS
set_option maxHeartbeats 4000000 in
set_option maxRecDepth 100000 in
theorem k_X10_isCase (l : Launch) (D : va_G) (cyB cyI cyJ cyZ : ClassId) (sz : Nat) (o : Nat) (p1 : Int32) (fs : List Value) (rw : Nat) (fi : Nat) (mn : Nat) (frw : Nat → Int32) (ffi : Nat → Int32) (fm : Nat → Int32) (hl_fs : fs.length = 80) (h_fs_43 : fs[43]? = some (.ref rw)) (h_fs_20 : fs[20]? = some (.ref fi)) (h_fs_12 : fs[12]? = some (.ref mn)) (h_fs_37 : fs[37]? = some (.int 0)) (h_fs_75 : fs[75]? = some (.int 0)) (h_fm_0 : fm 0 = 0) : KI l yX10_isCase cX10_isCase 2 .boolean 3 0 0 D (TYS cyB cyI cyJ cyZ) [(o, .inr (10, fs)), (rw, .inl (cyI, 30, .inl frw)), (fi, .inl (cyI, 60, .inl ffi)), (mn, .inl (cyI, 2, .inl fm))] sz [.ref o, .int p1] (fun (r : Int32) (u : Unit) => r = 1) (fun (u : Unit) => ([(o, .inr (10, fs)), (mn, .inl (cyI, 2, .inl fm))] : va_W)) := by
  refine entI (by decide) (Nat.le_of_ble_eq_true rfl) ?_
  intro p e s m below meth c ls A hC hl hP hK hD hA
  obtain ⟨hx, hb, hr, hml, hown, hts, hlk, hnm⟩ := id hC
  have hS : va_S A s.heap s.heap [] := va_S.rf
  have hl : lv_has ls 2 [(0, .ref o), (1, .int p1)] := hl
  generalize hHe : s.heap = H at hP ⊢
  rw [hHe] at hS
  have hS : va_S A s.heap H [] := by rw [hHe]; exact hS
  refine lv_aload_n hx hb dX10_isCase_0 rfl (lv_at hl 0 rfl) ?_
  refine aftV (wr := [(mn, .inl (cyI, 2, .inl fm))]) (runV hC hK hP hD hl.1 (k_X10_layFirst l D cyB cyI cyJ cyZ H.size o fs rw fi frw ffi hl_fs h_fs_43 h_fs_20 h_fs_37) cV_X10_layFirst mw_methodLink_RX10_382_yX10_layFirst [0, 1, 2] rfl rfl 0 rfl rfl rfl rfl rfl (Nat.le_of_ble_eq_true rfl) ⟨by decide, by decide⟩ ⟨by decide, by decide⟩ dX10_isCase_1) hP hD hS hA [0, 1, 2] [3] rfl rfl rfl (by decide) (fun u_1 H locs hw_1 hP hD hS => ?_)
  obtain ⟨grw_1, rfl⟩ : ∃ z, z = u_1 := ⟨_, rfl⟩
  try dsimp only at hw_1
  have hP : va_P D classes [(mn, .inl (cyI, 2, .inl fm)), (o, .inr (10, fs)), (rw, .inl (cyI, 30, .inl grw_1)), (fi, .inl (cyI, 60, .inl ffi))] H := hP
  have hD : va_D A [(mn, .inl (cyI, 2, .inl fm)), (o, .inr (10, fs)), (rw, .inl (cyI, 30, .inl grw_1)), (fi, .inl (cyI, 60, .inl ffi))] := hD
  refine W.widen (k := 0) (n := 0) (by decide) (by decide) ?_
  refine lv_aload_n hx hb dX10_isCase_4 rfl (lv_at hl 0 rfl) ?_
  refine lv_iload_n hx hb dX10_isCase_5 rfl (lv_at hl 1 rfl) ?_
  refine aftI (wr := [(rw, .inl (cyI, 30, .inl grw_1)), (fi, .inl (cyI, 60, .inl ffi))]) (runV hC hK hP hD hl.1 (k_X10_areSo l D cyB cyI cyJ cyZ H.size o p1 fs mn fm hl_fs h_fs_12 h_fs_37 h_fs_75 h_fm_0) cV_X10_areSo mw_methodLink_RX10_533_yX10_areSo [1, 0] rfl rfl 1 rfl rfl rfl rfl rfl (Nat.le_of_ble_eq_true rfl) ⟨by decide, by decide⟩ ⟨by decide, by decide⟩ dX10_isCase_6) hP hD hS hA [1, 0] [2, 3] rfl rfl rfl (by decide) (fun r_2 u_2 H locs hw_2 hP hD hS => ?_)
  have hr_2 := hw_2
  refine lv_cst (v := 1) hr_2 ?_
  have hP : va_P D classes [(rw, .inl (cyI, 30, .inl grw_1)), (fi, .inl (cyI, 60, .inl ffi)), (o, .inr (10, fs)), (mn, .inl (cyI, 2, .inl fm))] H := hP
  have hD : va_D A [(rw, .inl (cyI, 30, .inl grw_1)), (fi, .inl (cyI, 60, .inl ffi)), (o, .inr (10, fs)), (mn, .inl (cyI, 2, .inl fm))] := hD
  refine W.widen (k := 0) (n := 0) (by decide) (by decide) ?_
  exact retZ hC hP hD hS (by decide) (by decide) () [2, 3] rfl rfl rfl rfl dX10_isCase_9
set_option maxHeartbeats 4000000 in
set_option maxRecDepth 100000 in
theorem k_X10_wrong (l : Launch) (D : va_G) (cyB cyI cyJ cyZ : ClassId) (sz : Nat) (o : Nat) (p0 : Int32) (p1 : Int32) (fs : List Value) (rw : Nat) (fi : Nat) (mn : Nat) (frw : Nat → Int32) (ffi : Nat → Int32) (fm : Nat → Int32) (hl_fs : fs.length = 80) (h_fs_43 : fs[43]? = some (.ref rw)) (h_fs_20 : fs[20]? = some (.ref fi)) (h_fs_12 : fs[12]? = some (.ref mn)) (h_fs_37 : fs[37]? = some (.int 0)) (h_fs_75 : fs[75]? = some (.int 0)) (h_fm_0 : fm 0 = 0) : KI l yX10_wrong cX10_wrong 5 .int 4 0 0 D (TYS cyB cyI cyJ cyZ) [(o, .inr (10, fs)), (rw, .inl (cyI, 30, .inl frw)), (fi, .inl (cyI, 60, .inl ffi)), (mn, .inl (cyI, 2, .inl fm))] sz [.ref o, .int p0, .int p1] (fun (r : Int32) (u : Unit) => r = sp_wrong p0) (fun (u : Unit) => ([] : va_W)) := by
  refine entI (by decide) (Nat.le_of_ble_eq_true rfl) ?_
  intro p e s m below meth c ls A hC hl hP hK hD hA
  obtain ⟨hx, hb, hr, hml, hown, hts, hlk, hnm⟩ := id hC
  have hS : va_S A s.heap s.heap [] := va_S.rf
  have hl : lv_has ls 5 [(0, .ref o), (1, .int p0), (2, .int p1)] := hl
  generalize hHe : s.heap = H at hP ⊢
  rw [hHe] at hS
  have hS : va_S A s.heap H [] := by rw [hHe]; exact hS
  refine lv_iload_n hx hb dX10_wrong_0 rfl (lv_at hl 1 rfl) ?_
  refine lv_iconst (v := 0) hx hb dX10_wrong_1 (by decide) ?_
  refine lv_iconst (v := 2) hx hb dX10_wrong_2 (by decide) ?_
  refine aftI (wr := [(o, .inr (10, fs)), (rw, .inl (cyI, 30, .inl frw)), (fi, .inl (cyI, 60, .inl ffi)), (mn, .inl (cyI, 2, .inl fm))]) (runS hC hK hP hD hl.1 (k_X10_isIn l D cyB cyI cyJ cyZ H.size p0 0 2 ) cS_X10_isIn mw_methodLink_RX10_378_yX10_isIn [] rfl rfl rfl rfl (Nat.le_of_ble_eq_true rfl) ⟨by decide, by decide⟩ ⟨by decide, by decide⟩ dX10_wrong_3) hP hD hS hA [] [0, 1, 2, 3] rfl rfl rfl (by decide) (fun r_1 u_1 H locs hw_1 hP hD hS => ?_)
  have hr_1 := hw_1
  have hP : va_P D classes [(o, .inr (10, fs)), (rw, .inl (cyI, 30, .inl frw)), (fi, .inl (cyI, 60, .inl ffi)), (mn, .inl (cyI, 2, .inl fm))] H := hP
  have hD : va_D A [(o, .inr (10, fs)), (rw, .inl (cyI, 30, .inl frw)), (fi, .inl (cyI, 60, .inl ffi)), (mn, .inl (cyI, 2, .inl fm))] := hD
  refine W.widen (k := 0) (n := 0) (by decide) (by decide) ?_
  rcases hr_1 with ⟨e_1, p_1⟩ | ⟨e_1, p_1⟩
  · refine lv_cst (v := 1) e_1 ?_
    refine lv_if_ne (tgt := 11) hx hb dX10_wrong_6 (by decide) (fun c_2 => ?_) (fun c_2 => absurd c_2 (by decide))
    refine lv_iload_n hx hb dX10_wrong_11 rfl (lv_at hl 1 rfl) ?_
    refine lv_if_ne (tgt := 29) hx hb dX10_wrong_12 (by decide) (fun c_3 => ?_) (fun c_3 => ?_)
    · refine lv_iconst (v := 0) hx hb dX10_wrong_29 (by decide) ?_
      refine lv_istore_n (lv' := [(3, .int 0), (0, .ref o), (1, .int p0), (2, .int p1)]) hx hb dX10_wrong_30 rfl hl (by decide) rfl (fun ls hl => ?_)
      refine lv_iconst (v := 0) hx hb dX10_wrong_31 (by decide) ?_
      refine lv_istore (lv' := [(4, .int 0), (3, .int 0), (0, .ref o), (1, .int p0), (2, .int p1)]) hx hb dX10_wrong_32 hl (by decide) rfl (fun ls hl => ?_)
      refine lv_iload hx hb dX10_wrong_34 (lv_at hl 0 rfl) ?_
      refine lv_aload_n hx hb dX10_wrong_36 rfl (lv_at hl 2 rfl) ?_
      refine aftI (wr := [(rw, .inl (cyI, 30, .inl frw)), (fi, .inl (cyI, 60, .inl ffi))]) (runV hC hK hP hD hl.1 (k_X10_manyOf l D cyB cyI cyJ cyZ H.size o fs mn fm hl_fs h_fs_12 h_fs_37 h_fm_0) cV_X10_manyOf mw_methodLink_RX10_375_yX10_manyOf [0, 3] rfl rfl 0 rfl rfl rfl rfl rfl (Nat.le_of_ble_eq_true rfl) ⟨by decide, by decide⟩ ⟨by decide, by decide⟩ dX10_wrong_37) hP hD hS hA [0, 3] [1, 2] rfl rfl rfl (by decide) (fun r_4 u_4 H locs hw_4 hP hD hS => ?_)
      have hr_4 := hw_4
      refine lv_cst (v := 0) hr_4 ?_
      have hP : va_P D classes [(rw, .inl (cyI, 30, .inl frw)), (fi, .inl (cyI, 60, .inl ffi)), (o, .inr (10, fs)), (mn, .inl (cyI, 2, .inl fm))] H := hP
      have hD : va_D A [(rw, .inl (cyI, 30, .inl frw)), (fi, .inl (cyI, 60, .inl ffi)), (o, .inr (10, fs)), (mn, .inl (cyI, 2, .inl fm))] := hD
      refine W.widen (k := 0) (n := 0) (by decide) (by decide) ?_
      refine lv_icmp_ge (tgt := 88) hx hb dX10_wrong_40 (by decide) (fun c_5 => ?_) (fun c_5 => absurd (by decide) c_5)
      refine lv_iload_n hx hb dX10_wrong_88 rfl (lv_at hl 1 rfl) ?_
      exact retI hC hP hD hS (by decide) (by decide) () [] rfl rfl (by have z0 := p_1; have z1 := zt_ne c_3; have y0 : ((-1) : Int32).toInt = (-1) := (by decide); have y1 : (0 : Int32).toInt = 0 := (by decide); have y2 : (2 : Int32).toInt = 2 := (by decide); unfold sp_wrong; (repeat' split) <;> first | rfl | (exact Int32.zero_add _) | (exfalso; omega)) dX10_wrong_89
    · refine lv_aload_n hx hb dX10_wrong_15 rfl (lv_at hl 0 rfl) ?_
      refine lv_iload_n hx hb dX10_wrong_16 rfl (lv_at hl 2 rfl) ?_
      refine aftI (wr := []) (runV hC hK hP hD hl.1 (k_X10_isCase l D cyB cyI cyJ cyZ H.size o p1 fs rw fi mn frw ffi fm hl_fs h_fs_43 h_fs_20 h_fs_12 h_fs_37 h_fs_75 h_fm_0) cV_X10_isCase mw_methodLink_RX10_539_yX10_isCase [0, 1, 2, 3] rfl rfl 0 rfl rfl rfl rfl rfl (Nat.le_of_ble_eq_true rfl) ⟨by decide, by decide⟩ ⟨by decide, by decide⟩ dX10_wrong_17) hP hD hS hA [0, 1, 2, 3] [] rfl rfl rfl (by decide) (fun r_6 u_6 H locs hw_6 hP hD hS => ?_)
      have hr_6 := hw_6
      refine lv_cst (v := 1) hr_6 ?_
      have hP : va_P D classes [(o, .inr (10, fs)), (mn, .inl (cyI, 2, .inl fm))] H := hP
      have hD : va_D A [(o, .inr (10, fs)), (mn, .inl (cyI, 2, .inl fm))] := hD
      refine W.widen (k := 0) (n := 0) (by decide) (by decide) ?_
      refine lv_if_eq (tgt := 27) hx hb dX10_wrong_20 (by decide) (fun c_7 => absurd c_7 (by decide)) (fun c_7 => ?_)
      refine lv_iconst (v := 1) hx hb dX10_wrong_23 (by decide) ?_
      refine lv_goto (tgt := 28) hx hb dX10_wrong_24 (by decide) ?_
      exact retI hC hP hD hS (by decide) (by decide) () [] rfl rfl (by have z0 := p_1; have z1 := zt_eq c_3; have y0 : ((-1) : Int32).toInt = (-1) := (by decide); have y1 : (0 : Int32).toInt = 0 := (by decide); have y2 : (2 : Int32).toInt = 2 := (by decide); unfold sp_wrong; (repeat' split) <;> first | rfl | (exact Int32.zero_add _) | (exfalso; omega)) dX10_wrong_28
  · refine lv_cst (v := 0) e_1 ?_
    refine lv_if_ne (tgt := 11) hx hb dX10_wrong_6 (by decide) (fun c_8 => absurd (by decide) c_8) (fun c_8 => ?_)
    refine lv_iconst (v := (-1)) hx hb dX10_wrong_9 (by decide) ?_
    exact retI hC hP hD hS (by decide) (by decide) () [] rfl rfl (by have z0 := p_1; have y0 : ((-1) : Int32).toInt = (-1) := (by decide); have y1 : (0 : Int32).toInt = 0 := (by decide); have y2 : (2 : Int32).toInt = 2 := (by decide); unfold sp_wrong; (repeat' split) <;> first | rfl | (exact Int32.zero_add _) | (exfalso; omega)) dX10_wrong_10
set_option maxHeartbeats 4000000 in
set_option maxRecDepth 100000 in
theorem k_X10_image (l : Launch) (D : va_G) (cyB cyI cyJ cyZ : ClassId) (sz : Nat) (o : Nat) (p0 : Int32) (fs : List Value) (br : Nat) (nw : Nat) (bb : Nat) (fbr : Nat → Int32) (fnw : Nat → Int32) (fbb : Nat → Int32) (hl_fs : fs.length = 80) (h_fs_79 : fs[79]? = some (.ref br)) (h_fs_45 : fs[45]? = some (.ref nw)) (h_fs_78 : fs[78]? = some (.ref bb)) (h_fs_46 : fs[46]? = some (.int 0)) : KI l yX10_image cX10_image 3 .int 1 0 0 D (TYS cyB cyI cyJ cyZ) [(o, .inr (10, fs)), (br, .inl (cyI, 90, .inl fbr)), (nw, .inl (cyI, 30, .inl fnw)), (bb, .inl (cyI, 3, .inl fbb))] sz [.ref o, .int p0] (fun (r : Int32) (u : Unit) => r = sp_image p0) (fun (u : Unit) => ([] : va_W)) := by
  refine entI (by decide) (Nat.le_of_ble_eq_true rfl) ?_
  intro p e s m below meth c ls A hC hl hP hK hD hA
  obtain ⟨hx, hb, hr, hml, hown, hts, hlk, hnm⟩ := id hC
  have hS : va_S A s.heap s.heap [] := va_S.rf
  have hl : lv_has ls 3 [(0, .ref o), (1, .int p0)] := hl
  generalize hHe : s.heap = H at hP ⊢
  rw [hHe] at hS
  have hS : va_S A s.heap H [] := by rw [hHe]; exact hS
  refine lv_iload_n hx hb dX10_image_0 rfl (lv_at hl 1 rfl) ?_
  refine lv_iconst (v := 0) hx hb dX10_image_1 (by decide) ?_
  refine lv_iconst (v := 2) hx hb dX10_image_2 (by decide) ?_
  refine aftI (wr := [(o, .inr (10, fs)), (br, .inl (cyI, 90, .inl fbr)), (nw, .inl (cyI, 30, .inl fnw)), (bb, .inl (cyI, 3, .inl fbb))]) (runS hC hK hP hD hl.1 (k_X10_isIn l D cyB cyI cyJ cyZ H.size p0 0 2 ) cS_X10_isIn mw_methodLink_RX10_378_yX10_isIn [] rfl rfl rfl rfl (Nat.le_of_ble_eq_true rfl) ⟨by decide, by decide⟩ ⟨by decide, by decide⟩ dX10_image_3) hP hD hS hA [] [0, 1, 2, 3] rfl rfl rfl (by decide) (fun r_1 u_1 H locs hw_1 hP hD hS => ?_)
  have hr_1 := hw_1
  have hP : va_P D classes [(o, .inr (10, fs)), (br, .inl (cyI, 90, .inl fbr)), (nw, .inl (cyI, 30, .inl fnw)), (bb, .inl (cyI, 3, .inl fbb))] H := hP
  have hD : va_D A [(o, .inr (10, fs)), (br, .inl (cyI, 90, .inl fbr)), (nw, .inl (cyI, 30, .inl fnw)), (bb, .inl (cyI, 3, .inl fbb))] := hD
  refine W.widen (k := 0) (n := 0) (by decide) (by decide) ?_
  rcases hr_1 with ⟨e_1, p_1⟩ | ⟨e_1, p_1⟩
  · refine lv_cst (v := 1) e_1 ?_
    refine lv_if_ne (tgt := 11) hx hb dX10_image_6 (by decide) (fun c_2 => ?_) (fun c_2 => absurd c_2 (by decide))
    rcases tsw_0_2 p0 with rfl | rfl | rfl | ho
    · refine lv_iconst (v := 0) hx hb dX10_image_11 (by decide) ?_
      refine lv_istore_n (lv' := [(2, .int 0), (0, .ref o), (1, .int 0)]) hx hb dX10_image_12 rfl hl (by decide) rfl (fun ls hl => ?_)
      have lp : ∀ (n i : Nat) (g0 : Nat → Int32) (H : Heap) (locs : List Loc) (ls : Array Slot), i + n = 30 → lv_has ls 3 [(2, .int (nI i)), (0, .ref o), (1, .int 0)] → va_P D classes [(o, .inr (10, fs)), (br, .inl (cyI, 90, .inl g0)), (nw, .inl (cyI, 30, .inl fnw)), (bb, .inl (cyI, 3, .inl fbb))] H → va_D A [(o, .inr (10, fs)), (br, .inl (cyI, 90, .inl g0)), (nw, .inl (cyI, 30, .inl fnw)), (bb, .inl (cyI, 3, .inl fbb))] → va_S A s.heap H locs → W p l e (rmK 1 0 0) s m ([.ref o, .int 0] : List Value).toArray below meth c H locs 0 0 (MQ below (va_Qi (fun (r : Int32) (u : Unit) => r = sp_image 0) (fun u => Aft D A ((fun (u : Unit) => ([] : va_W)) u)) A) ([.ref o, .int 0] : List Value).toArray s 0 0 A) (F0 m 13 ls []) := by
        intro n
        induction n with
        | zero =>
          intro i g0 H locs ls hi hl hP hD hS
          obtain rfl : i = 30 := by omega
          refine lv_iload_n hx hb dX10_image_13 rfl (lv_at hl 0 rfl) ?_
          refine lv_bipush (v := 30) hx hb dX10_image_14 (by decide) ?_
          refine lv_icmp_ge (tgt := 42) hx hb dX10_image_16 (by decide) (fun c_3 => ?_) (fun c_3 => absurd (by decide) c_3)
          refine lv_aload_n hx hb dX10_image_42 rfl (lv_at hl 1 rfl) ?_
          refine gf hC hK hP iX10 0 rfl rfl 78 (by decide) mw_fieldLink_RX10_171_MirrorDrillModel_boxBeats_I h_fs_78 dX10_image_43 ?_
          refine lv_iload_n hx hb dX10_image_46 rfl (lv_at hl 2 rfl) ?_
          refine lv_aload_n hx hb dX10_image_47 rfl (lv_at hl 1 rfl) ?_
          refine gf hC hK hP iX10 0 rfl rfl 46 (by decide) mw_fieldLink_RX10_388_MirrorDrillModel_beats_I h_fs_46 dX10_image_48 ?_
          refine va_iast hx hb hK hP hD hS 3 1 rfl rfl (vin (by decide)) dX10_image_51 (fun H locs hP hD hS => ?_)
          obtain ⟨f_4, ef_4⟩ : ∃ g : Nat → Int32, g = upd fbb ((0 : Int32).toNatClampNeg) 0 := ⟨_, rfl⟩
          rw [← ef_4] at hP hD
          have hP : va_P D classes [(o, .inr (10, fs)), (br, .inl (cyI, 90, .inl g0)), (nw, .inl (cyI, 30, .inl fnw)), (bb, .inl (cyI, 3, .inl f_4))] H := hP
          have hD : va_D A [(o, .inr (10, fs)), (br, .inl (cyI, 90, .inl g0)), (nw, .inl (cyI, 30, .inl fnw)), (bb, .inl (cyI, 3, .inl f_4))] := hD
          refine lv_aload_n hx hb dX10_image_52 rfl (lv_at hl 1 rfl) ?_
          refine gf hC hK hP iX10 0 rfl rfl 46 (by decide) mw_fieldLink_RX10_388_MirrorDrillModel_beats_I h_fs_46 dX10_image_53 ?_
          exact retI hC hP hD hS (by decide) (by decide) () [] rfl rfl (by decide) dX10_image_56
        | succ n ih =>
          intro i g0 H locs ls hi hl hP hD hS
          have hlt : i < 30 := by omega
          refine lv_iload_n hx hb dX10_image_13 rfl (lv_at hl 0 rfl) ?_
          refine lv_bipush (v := 30) hx hb dX10_image_14 (by decide) ?_
          refine lv_icmp_ge (tgt := 42) hx hb dX10_image_16 (by decide) (fun c_5 => absurd c_5 (nI_ge (b := 30) hlt (by decide))) (fun c_5 => ?_)
          refine lv_aload_n hx hb dX10_image_19 rfl (lv_at hl 1 rfl) ?_
          refine gf hC hK hP iX10 0 rfl rfl 79 (by decide) mw_fieldLink_RX10_174_MirrorDrillModel_boxRow_I h_fs_79 dX10_image_20 ?_
          refine lv_bipush (v := 30) hx hb dX10_image_23 (by decide) ?_
          refine lv_iload_n hx hb dX10_image_25 rfl (lv_at hl 2 rfl) ?_
          refine lv_imul hx hb dX10_image_26 ?_
          refine lv_cst (v := 0) (by decide) ?_
          refine lv_iload_n hx hb dX10_image_27 rfl (lv_at hl 0 rfl) ?_
          refine lv_iadd hx hb dX10_image_28 ?_
          refine lv_cst (v := (nI i)) (Int32.zero_add _) ?_
          refine lv_aload_n hx hb dX10_image_29 rfl (lv_at hl 1 rfl) ?_
          refine gf hC hK hP iX10 0 rfl rfl 45 (by decide) mw_fieldLink_RX10_107_MirrorDrillModel_now_I h_fs_45 dX10_image_30 ?_
          refine lv_iload_n hx hb dX10_image_33 rfl (lv_at hl 0 rfl) ?_
          refine va_iald hx hb hK hP 2 1 rfl rfl (vp_in_nI (by omega) (by decide)) dX10_image_34 ?_
          refine lv_topi (fun x_6 ex_6 => ?_)
          refine va_iast hx hb hK hP hD hS 1 1 rfl rfl (vp_in_nI (by omega) (by decide)) dX10_image_35 (fun H locs hP hD hS => ?_)
          obtain ⟨f_7, ef_7⟩ : ∃ g : Nat → Int32, g = upd g0 (((nI i) : Int32).toNatClampNeg) x_6 := ⟨_, rfl⟩
          rw [← ef_7] at hP hD
          have hP : va_P D classes [(o, .inr (10, fs)), (br, .inl (cyI, 90, .inl f_7)), (nw, .inl (cyI, 30, .inl fnw)), (bb, .inl (cyI, 3, .inl fbb))] H := hP
          have hD : va_D A [(o, .inr (10, fs)), (br, .inl (cyI, 90, .inl f_7)), (nw, .inl (cyI, 30, .inl fnw)), (bb, .inl (cyI, 3, .inl fbb))] := hD
          refine lv_iinc (v := (nI (i + 1))) (lv' := [(2, .int (nI (i + 1))), (0, .ref o), (1, .int 0)]) hx hb dX10_image_36 hl (k := 0) rfl (nI_1 _) (by decide) rfl (fun ls hl => ?_)
          refine lv_goto (tgt := 13) hx hb dX10_image_39 (by decide) ?_
          exact ih (i + 1) f_7 _ _ _ (by omega) (lv_sub hl [0, 1, 2] rfl) hP hD hS
      exact lp 30 0 fbr _ _ _ (by decide) hl hP hD hS
    · refine lv_iconst (v := 0) hx hb dX10_image_11 (by decide) ?_
      refine lv_istore_n (lv' := [(2, .int 0), (0, .ref o), (1, .int 1)]) hx hb dX10_image_12 rfl hl (by decide) rfl (fun ls hl => ?_)
      have lp : ∀ (n i : Nat) (g0 : Nat → Int32) (H : Heap) (locs : List Loc) (ls : Array Slot), i + n = 30 → lv_has ls 3 [(2, .int (nI i)), (0, .ref o), (1, .int 1)] → va_P D classes [(o, .inr (10, fs)), (br, .inl (cyI, 90, .inl g0)), (nw, .inl (cyI, 30, .inl fnw)), (bb, .inl (cyI, 3, .inl fbb))] H → va_D A [(o, .inr (10, fs)), (br, .inl (cyI, 90, .inl g0)), (nw, .inl (cyI, 30, .inl fnw)), (bb, .inl (cyI, 3, .inl fbb))] → va_S A s.heap H locs → W p l e (rmK 1 0 0) s m ([.ref o, .int 1] : List Value).toArray below meth c H locs 0 0 (MQ below (va_Qi (fun (r : Int32) (u : Unit) => r = sp_image 1) (fun u => Aft D A ((fun (u : Unit) => ([] : va_W)) u)) A) ([.ref o, .int 1] : List Value).toArray s 0 0 A) (F0 m 13 ls []) := by
        intro n
        induction n with
        | zero =>
          intro i g0 H locs ls hi hl hP hD hS
          obtain rfl : i = 30 := by omega
          refine lv_iload_n hx hb dX10_image_13 rfl (lv_at hl 0 rfl) ?_
          refine lv_bipush (v := 30) hx hb dX10_image_14 (by decide) ?_
          refine lv_icmp_ge (tgt := 42) hx hb dX10_image_16 (by decide) (fun c_8 => ?_) (fun c_8 => absurd (by decide) c_8)
          refine lv_aload_n hx hb dX10_image_42 rfl (lv_at hl 1 rfl) ?_
          refine gf hC hK hP iX10 0 rfl rfl 78 (by decide) mw_fieldLink_RX10_171_MirrorDrillModel_boxBeats_I h_fs_78 dX10_image_43 ?_
          refine lv_iload_n hx hb dX10_image_46 rfl (lv_at hl 2 rfl) ?_
          refine lv_aload_n hx hb dX10_image_47 rfl (lv_at hl 1 rfl) ?_
          refine gf hC hK hP iX10 0 rfl rfl 46 (by decide) mw_fieldLink_RX10_388_MirrorDrillModel_beats_I h_fs_46 dX10_image_48 ?_
          refine va_iast hx hb hK hP hD hS 3 1 rfl rfl (vin (by decide)) dX10_image_51 (fun H locs hP hD hS => ?_)
          obtain ⟨f_9, ef_9⟩ : ∃ g : Nat → Int32, g = upd fbb ((1 : Int32).toNatClampNeg) 0 := ⟨_, rfl⟩
          rw [← ef_9] at hP hD
          have hP : va_P D classes [(o, .inr (10, fs)), (br, .inl (cyI, 90, .inl g0)), (nw, .inl (cyI, 30, .inl fnw)), (bb, .inl (cyI, 3, .inl f_9))] H := hP
          have hD : va_D A [(o, .inr (10, fs)), (br, .inl (cyI, 90, .inl g0)), (nw, .inl (cyI, 30, .inl fnw)), (bb, .inl (cyI, 3, .inl f_9))] := hD
          refine lv_aload_n hx hb dX10_image_52 rfl (lv_at hl 1 rfl) ?_
          refine gf hC hK hP iX10 0 rfl rfl 46 (by decide) mw_fieldLink_RX10_388_MirrorDrillModel_beats_I h_fs_46 dX10_image_53 ?_
          exact retI hC hP hD hS (by decide) (by decide) () [] rfl rfl (by decide) dX10_image_56
        | succ n ih =>
          intro i g0 H locs ls hi hl hP hD hS
          have hlt : i < 30 := by omega
          refine lv_iload_n hx hb dX10_image_13 rfl (lv_at hl 0 rfl) ?_
          refine lv_bipush (v := 30) hx hb dX10_image_14 (by decide) ?_
          refine lv_icmp_ge (tgt := 42) hx hb dX10_image_16 (by decide) (fun c_10 => absurd c_10 (nI_ge (b := 30) hlt (by decide))) (fun c_10 => ?_)
          refine lv_aload_n hx hb dX10_image_19 rfl (lv_at hl 1 rfl) ?_
          refine gf hC hK hP iX10 0 rfl rfl 79 (by decide) mw_fieldLink_RX10_174_MirrorDrillModel_boxRow_I h_fs_79 dX10_image_20 ?_
          refine lv_bipush (v := 30) hx hb dX10_image_23 (by decide) ?_
          refine lv_iload_n hx hb dX10_image_25 rfl (lv_at hl 2 rfl) ?_
          refine lv_imul hx hb dX10_image_26 ?_
          refine lv_cst (v := 30) (by decide) ?_
          refine lv_iload_n hx hb dX10_image_27 rfl (lv_at hl 0 rfl) ?_
          refine lv_iadd hx hb dX10_image_28 ?_
          refine lv_cst (v := (nI (30 + i))) (nI_add 30 i) ?_
          refine lv_aload_n hx hb dX10_image_29 rfl (lv_at hl 1 rfl) ?_
          refine gf hC hK hP iX10 0 rfl rfl 45 (by decide) mw_fieldLink_RX10_107_MirrorDrillModel_now_I h_fs_45 dX10_image_30 ?_
          refine lv_iload_n hx hb dX10_image_33 rfl (lv_at hl 0 rfl) ?_
          refine va_iald hx hb hK hP 2 1 rfl rfl (vp_in_nI (by omega) (by decide)) dX10_image_34 ?_
          refine lv_topi (fun x_11 ex_11 => ?_)
          refine va_iast hx hb hK hP hD hS 1 1 rfl rfl (vp_in_nI (by omega) (by decide)) dX10_image_35 (fun H locs hP hD hS => ?_)
          obtain ⟨f_12, ef_12⟩ : ∃ g : Nat → Int32, g = upd g0 (((nI (30 + i)) : Int32).toNatClampNeg) x_11 := ⟨_, rfl⟩
          rw [← ef_12] at hP hD
          have hP : va_P D classes [(o, .inr (10, fs)), (br, .inl (cyI, 90, .inl f_12)), (nw, .inl (cyI, 30, .inl fnw)), (bb, .inl (cyI, 3, .inl fbb))] H := hP
          have hD : va_D A [(o, .inr (10, fs)), (br, .inl (cyI, 90, .inl f_12)), (nw, .inl (cyI, 30, .inl fnw)), (bb, .inl (cyI, 3, .inl fbb))] := hD
          refine lv_iinc (v := (nI (i + 1))) (lv' := [(2, .int (nI (i + 1))), (0, .ref o), (1, .int 1)]) hx hb dX10_image_36 hl (k := 0) rfl (nI_1 _) (by decide) rfl (fun ls hl => ?_)
          refine lv_goto (tgt := 13) hx hb dX10_image_39 (by decide) ?_
          exact ih (i + 1) f_12 _ _ _ (by omega) (lv_sub hl [0, 1, 2] rfl) hP hD hS
      exact lp 30 0 fbr _ _ _ (by decide) hl hP hD hS
    · refine lv_iconst (v := 0) hx hb dX10_image_11 (by decide) ?_
      refine lv_istore_n (lv' := [(2, .int 0), (0, .ref o), (1, .int 2)]) hx hb dX10_image_12 rfl hl (by decide) rfl (fun ls hl => ?_)
      have lp : ∀ (n i : Nat) (g0 : Nat → Int32) (H : Heap) (locs : List Loc) (ls : Array Slot), i + n = 30 → lv_has ls 3 [(2, .int (nI i)), (0, .ref o), (1, .int 2)] → va_P D classes [(o, .inr (10, fs)), (br, .inl (cyI, 90, .inl g0)), (nw, .inl (cyI, 30, .inl fnw)), (bb, .inl (cyI, 3, .inl fbb))] H → va_D A [(o, .inr (10, fs)), (br, .inl (cyI, 90, .inl g0)), (nw, .inl (cyI, 30, .inl fnw)), (bb, .inl (cyI, 3, .inl fbb))] → va_S A s.heap H locs → W p l e (rmK 1 0 0) s m ([.ref o, .int 2] : List Value).toArray below meth c H locs 0 0 (MQ below (va_Qi (fun (r : Int32) (u : Unit) => r = sp_image 2) (fun u => Aft D A ((fun (u : Unit) => ([] : va_W)) u)) A) ([.ref o, .int 2] : List Value).toArray s 0 0 A) (F0 m 13 ls []) := by
        intro n
        induction n with
        | zero =>
          intro i g0 H locs ls hi hl hP hD hS
          obtain rfl : i = 30 := by omega
          refine lv_iload_n hx hb dX10_image_13 rfl (lv_at hl 0 rfl) ?_
          refine lv_bipush (v := 30) hx hb dX10_image_14 (by decide) ?_
          refine lv_icmp_ge (tgt := 42) hx hb dX10_image_16 (by decide) (fun c_13 => ?_) (fun c_13 => absurd (by decide) c_13)
          refine lv_aload_n hx hb dX10_image_42 rfl (lv_at hl 1 rfl) ?_
          refine gf hC hK hP iX10 0 rfl rfl 78 (by decide) mw_fieldLink_RX10_171_MirrorDrillModel_boxBeats_I h_fs_78 dX10_image_43 ?_
          refine lv_iload_n hx hb dX10_image_46 rfl (lv_at hl 2 rfl) ?_
          refine lv_aload_n hx hb dX10_image_47 rfl (lv_at hl 1 rfl) ?_
          refine gf hC hK hP iX10 0 rfl rfl 46 (by decide) mw_fieldLink_RX10_388_MirrorDrillModel_beats_I h_fs_46 dX10_image_48 ?_
          refine va_iast hx hb hK hP hD hS 3 1 rfl rfl (vin (by decide)) dX10_image_51 (fun H locs hP hD hS => ?_)
          obtain ⟨f_14, ef_14⟩ : ∃ g : Nat → Int32, g = upd fbb ((2 : Int32).toNatClampNeg) 0 := ⟨_, rfl⟩
          rw [← ef_14] at hP hD
          have hP : va_P D classes [(o, .inr (10, fs)), (br, .inl (cyI, 90, .inl g0)), (nw, .inl (cyI, 30, .inl fnw)), (bb, .inl (cyI, 3, .inl f_14))] H := hP
          have hD : va_D A [(o, .inr (10, fs)), (br, .inl (cyI, 90, .inl g0)), (nw, .inl (cyI, 30, .inl fnw)), (bb, .inl (cyI, 3, .inl f_14))] := hD
          refine lv_aload_n hx hb dX10_image_52 rfl (lv_at hl 1 rfl) ?_
          refine gf hC hK hP iX10 0 rfl rfl 46 (by decide) mw_fieldLink_RX10_388_MirrorDrillModel_beats_I h_fs_46 dX10_image_53 ?_
          exact retI hC hP hD hS (by decide) (by decide) () [] rfl rfl (by decide) dX10_image_56
        | succ n ih =>
          intro i g0 H locs ls hi hl hP hD hS
          have hlt : i < 30 := by omega
          refine lv_iload_n hx hb dX10_image_13 rfl (lv_at hl 0 rfl) ?_
          refine lv_bipush (v := 30) hx hb dX10_image_14 (by decide) ?_
          refine lv_icmp_ge (tgt := 42) hx hb dX10_image_16 (by decide) (fun c_15 => absurd c_15 (nI_ge (b := 30) hlt (by decide))) (fun c_15 => ?_)
          refine lv_aload_n hx hb dX10_image_19 rfl (lv_at hl 1 rfl) ?_
          refine gf hC hK hP iX10 0 rfl rfl 79 (by decide) mw_fieldLink_RX10_174_MirrorDrillModel_boxRow_I h_fs_79 dX10_image_20 ?_
          refine lv_bipush (v := 30) hx hb dX10_image_23 (by decide) ?_
          refine lv_iload_n hx hb dX10_image_25 rfl (lv_at hl 2 rfl) ?_
          refine lv_imul hx hb dX10_image_26 ?_
          refine lv_cst (v := 60) (by decide) ?_
          refine lv_iload_n hx hb dX10_image_27 rfl (lv_at hl 0 rfl) ?_
          refine lv_iadd hx hb dX10_image_28 ?_
          refine lv_cst (v := (nI (60 + i))) (nI_add 60 i) ?_
          refine lv_aload_n hx hb dX10_image_29 rfl (lv_at hl 1 rfl) ?_
          refine gf hC hK hP iX10 0 rfl rfl 45 (by decide) mw_fieldLink_RX10_107_MirrorDrillModel_now_I h_fs_45 dX10_image_30 ?_
          refine lv_iload_n hx hb dX10_image_33 rfl (lv_at hl 0 rfl) ?_
          refine va_iald hx hb hK hP 2 1 rfl rfl (vp_in_nI (by omega) (by decide)) dX10_image_34 ?_
          refine lv_topi (fun x_16 ex_16 => ?_)
          refine va_iast hx hb hK hP hD hS 1 1 rfl rfl (vp_in_nI (by omega) (by decide)) dX10_image_35 (fun H locs hP hD hS => ?_)
          obtain ⟨f_17, ef_17⟩ : ∃ g : Nat → Int32, g = upd g0 (((nI (60 + i)) : Int32).toNatClampNeg) x_16 := ⟨_, rfl⟩
          rw [← ef_17] at hP hD
          have hP : va_P D classes [(o, .inr (10, fs)), (br, .inl (cyI, 90, .inl f_17)), (nw, .inl (cyI, 30, .inl fnw)), (bb, .inl (cyI, 3, .inl fbb))] H := hP
          have hD : va_D A [(o, .inr (10, fs)), (br, .inl (cyI, 90, .inl f_17)), (nw, .inl (cyI, 30, .inl fnw)), (bb, .inl (cyI, 3, .inl fbb))] := hD
          refine lv_iinc (v := (nI (i + 1))) (lv' := [(2, .int (nI (i + 1))), (0, .ref o), (1, .int 2)]) hx hb dX10_image_36 hl (k := 0) rfl (nI_1 _) (by decide) rfl (fun ls hl => ?_)
          refine lv_goto (tgt := 13) hx hb dX10_image_39 (by decide) ?_
          exact ih (i + 1) f_17 _ _ _ (by omega) (lv_sub hl [0, 1, 2] rfl) hP hD hS
      exact lp 30 0 fbr _ _ _ (by decide) hl hP hD hS
    · exfalso; have z0 := p_1; have y0 : ((-1) : Int32).toInt = (-1) := (by decide); have y1 : (0 : Int32).toInt = 0 := (by decide); have y2 : (2 : Int32).toInt = 2 := (by decide); omega
  · refine lv_cst (v := 0) e_1 ?_
    refine lv_if_ne (tgt := 11) hx hb dX10_image_6 (by decide) (fun c_18 => absurd (by decide) c_18) (fun c_18 => ?_)
    refine lv_iconst (v := (-1)) hx hb dX10_image_9 (by decide) ?_
    exact retI hC hP hD hS (by decide) (by decide) () [] rfl rfl (by have z0 := p_1; have y0 : ((-1) : Int32).toInt = (-1) := (by decide); have y1 : (0 : Int32).toInt = 0 := (by decide); have y2 : (2 : Int32).toInt = 2 := (by decide); unfold sp_image; (repeat' split) <;> first | rfl | (exact Int32.zero_add _) | (exfalso; omega)) dX10_image_10
set_option maxHeartbeats 4000000 in
set_option maxRecDepth 100000 in
theorem k_X10_back (l : Launch) (D : va_G) (cyB cyI cyJ cyZ : ClassId) (sz : Nat) (o : Nat) (p0 : Int32) (fs : List Value) (bb : Nat) (fbb : Nat → Int32) (hl_fs : fs.length = 80) (h_fs_78 : fs[78]? = some (.ref bb)) (h_fbb_0 : fbb 0 = (-1)) (h_fbb_1 : fbb 1 = (-1)) (h_fbb_2 : fbb 2 = (-1)) : KI l yX10_back cX10_back 3 .int 1 0 0 D (TYS cyB cyI cyJ cyZ) [(o, .inr (10, fs)), (bb, .inl (cyI, 3, .inl fbb))] sz [.ref o, .int p0] (fun (r : Int32) (u : Unit) => r = (-1)) (fun (u : Unit) => ([] : va_W)) := by
  refine entI (by decide) (Nat.le_of_ble_eq_true rfl) ?_
  intro p e s m below meth c ls A hC hl hP hK hD hA
  obtain ⟨hx, hb, hr, hml, hown, hts, hlk, hnm⟩ := id hC
  have hS : va_S A s.heap s.heap [] := va_S.rf
  have hl : lv_has ls 3 [(0, .ref o), (1, .int p0)] := hl
  generalize hHe : s.heap = H at hP ⊢
  rw [hHe] at hS
  have hS : va_S A s.heap H [] := by rw [hHe]; exact hS
  refine lv_iload_n hx hb dX10_back_0 rfl (lv_at hl 1 rfl) ?_
  refine lv_iconst (v := 0) hx hb dX10_back_1 (by decide) ?_
  refine lv_iconst (v := 2) hx hb dX10_back_2 (by decide) ?_
  refine aftI (wr := [(o, .inr (10, fs)), (bb, .inl (cyI, 3, .inl fbb))]) (runS hC hK hP hD hl.1 (k_X10_isIn l D cyB cyI cyJ cyZ H.size p0 0 2 ) cS_X10_isIn mw_methodLink_RX10_378_yX10_isIn [] rfl rfl rfl rfl (Nat.le_of_ble_eq_true rfl) ⟨by decide, by decide⟩ ⟨by decide, by decide⟩ dX10_back_3) hP hD hS hA [] [0, 1] rfl rfl rfl (by decide) (fun r_1 u_1 H locs hw_1 hP hD hS => ?_)
  have hr_1 := hw_1
  have hP : va_P D classes [(o, .inr (10, fs)), (bb, .inl (cyI, 3, .inl fbb))] H := hP
  have hD : va_D A [(o, .inr (10, fs)), (bb, .inl (cyI, 3, .inl fbb))] := hD
  refine W.widen (k := 0) (n := 0) (by decide) (by decide) ?_
  rcases hr_1 with ⟨e_1, p_1⟩ | ⟨e_1, p_1⟩
  · refine lv_cst (v := 1) e_1 ?_
    refine lv_if_eq (tgt := 18) hx hb dX10_back_6 (by decide) (fun c_2 => absurd c_2 (by decide)) (fun c_2 => ?_)
    rcases tsw_0_2 p0 with rfl | rfl | rfl | ho
    · refine lv_aload_n hx hb dX10_back_9 rfl (lv_at hl 0 rfl) ?_
      refine gf hC hK hP iX10 0 rfl rfl 78 (by decide) mw_fieldLink_RX10_171_MirrorDrillModel_boxBeats_I h_fs_78 dX10_back_10 ?_
      refine lv_iload_n hx hb dX10_back_13 rfl (lv_at hl 1 rfl) ?_
      refine va_iald hx hb hK hP 1 1 rfl rfl (vin (by decide)) dX10_back_14 ?_
      refine lv_cst (v := (-1)) (h_fbb_0) ?_
      refine lv_if_ge (tgt := 20) hx hb dX10_back_15 (by decide) (fun c_3 => absurd c_3 (by decide)) (fun c_3 => ?_)
      refine lv_iconst (v := (-1)) hx hb dX10_back_18 (by decide) ?_
      exact retI hC hP hD hS (by decide) (by decide) () [] rfl rfl rfl dX10_back_19
    · refine lv_aload_n hx hb dX10_back_9 rfl (lv_at hl 0 rfl) ?_
      refine gf hC hK hP iX10 0 rfl rfl 78 (by decide) mw_fieldLink_RX10_171_MirrorDrillModel_boxBeats_I h_fs_78 dX10_back_10 ?_
      refine lv_iload_n hx hb dX10_back_13 rfl (lv_at hl 1 rfl) ?_
      refine va_iald hx hb hK hP 1 1 rfl rfl (vin (by decide)) dX10_back_14 ?_
      refine lv_cst (v := (-1)) (h_fbb_1) ?_
      refine lv_if_ge (tgt := 20) hx hb dX10_back_15 (by decide) (fun c_4 => absurd c_4 (by decide)) (fun c_4 => ?_)
      refine lv_iconst (v := (-1)) hx hb dX10_back_18 (by decide) ?_
      exact retI hC hP hD hS (by decide) (by decide) () [] rfl rfl rfl dX10_back_19
    · refine lv_aload_n hx hb dX10_back_9 rfl (lv_at hl 0 rfl) ?_
      refine gf hC hK hP iX10 0 rfl rfl 78 (by decide) mw_fieldLink_RX10_171_MirrorDrillModel_boxBeats_I h_fs_78 dX10_back_10 ?_
      refine lv_iload_n hx hb dX10_back_13 rfl (lv_at hl 1 rfl) ?_
      refine va_iald hx hb hK hP 1 1 rfl rfl (vin (by decide)) dX10_back_14 ?_
      refine lv_cst (v := (-1)) (h_fbb_2) ?_
      refine lv_if_ge (tgt := 20) hx hb dX10_back_15 (by decide) (fun c_5 => absurd c_5 (by decide)) (fun c_5 => ?_)
      refine lv_iconst (v := (-1)) hx hb dX10_back_18 (by decide) ?_
      exact retI hC hP hD hS (by decide) (by decide) () [] rfl rfl rfl dX10_back_19
    · exfalso; have z0 := p_1; have y0 : ((-1) : Int32).toInt = (-1) := (by decide); have y1 : (0 : Int32).toInt = 0 := (by decide); have y2 : (2 : Int32).toInt = 2 := (by decide); omega
  · refine lv_cst (v := 0) e_1 ?_
    refine lv_if_eq (tgt := 18) hx hb dX10_back_6 (by decide) (fun c_6 => ?_) (fun c_6 => absurd (by decide) c_6)
    refine lv_iconst (v := (-1)) hx hb dX10_back_18 (by decide) ?_
    exact retI hC hP hD hS (by decide) (by decide) () [] rfl rfl rfl dX10_back_19
set_option maxHeartbeats 4000000 in
set_option maxRecDepth 100000 in
theorem k_X10_about (l : Launch) (D : va_G) (cyB cyI cyJ cyZ : ClassId) (sz : Nat) (o : Nat) (p0 : Int32) (fs : List Value) (mn : Nat) (mv : Nat) (rl : Nat) (uo : Nat) (rg : Nat) (fm : Nat → Int32) (fmv : Nat → Int32) (fr : Nat → Int32) (fuo : Nat → Int32) (frg : Nat → Int32) (hl_fs : fs.length = 80) (h_fs_12 : fs[12]? = some (.ref mn)) (h_fs_11 : fs[11]? = some (.ref mv)) (h_fs_13 : fs[13]? = some (.ref rl)) (h_fs_14 : fs[14]? = some (.ref uo)) (h_fs_25 : fs[25]? = some (.ref rg)) (h_fs_37 : fs[37]? = some (.int 0)) (h_fs_46 : fs[46]? = some (.int 0)) (h_fs_51 : fs[51]? = some (.int 0)) (h_fs_52 : fs[52]? = some (.int 0)) (h_fs_75 : fs[75]? = some (.int 0)) (h_fs_76 : fs[76]? = some (.int 0)) (h_fs_2 : fs[2]? = some (.int 0)) (h_fs_60 : fs[60]? = some (.int 0)) (h_fs_77 : fs[77]? = some (.int 0)) (h_fm_0 : fm 0 = 0) (h_fmv_0 : fmv 0 = 2) (h_fr_0 : fr 0 = 0) (h_fuo_0 : fuo 0 = 0) (h_frg_0 : frg 0 = 0) : KI l yX10_about cX10_about 2 .int 1 0 0 D (TYS cyB cyI cyJ cyZ) [(o, .inr (10, fs)), (mn, .inl (cyI, 2, .inl fm)), (mv, .inl (cyI, 2, .inl fmv)), (rl, .inl (cyI, 2, .inl fr)), (uo, .inl (cyI, 2, .inl fuo)), (rg, .inl (cyZ, 2, .inl frg))] sz [.ref o, .int p0] (fun (r : Int32) (u : Unit) => r = sp_about p0) (fun (u : Unit) => ([] : va_W)) := by
  refine entI (by decide) (Nat.le_of_ble_eq_true rfl) ?_
  intro p e s m below meth c ls A hC hl hP hK hD hA
  obtain ⟨hx, hb, hr, hml, hown, hts, hlk, hnm⟩ := id hC
  have hS : va_S A s.heap s.heap [] := va_S.rf
  have hl : lv_has ls 2 [(0, .ref o), (1, .int p0)] := hl
  generalize hHe : s.heap = H at hP ⊢
  rw [hHe] at hS
  have hS : va_S A s.heap H [] := by rw [hHe]; exact hS
  refine lv_iload_n hx hb dX10_about_0 rfl (lv_at hl 1 rfl) ?_
  rcases tsw_0_12 p0 with rfl | rfl | rfl | rfl | rfl | rfl | rfl | rfl | rfl | rfl | rfl | rfl | rfl | ho_1
  · refine lv_tableIn (tgt := 68) (off := 67) hx hb dX10_about_1 (by decide) (by decide) (by decide) (by decide) ?_
    refine lv_aload_n hx hb dX10_about_68 rfl (lv_at hl 0 rfl) ?_
    refine aftI (wr := [(mv, .inl (cyI, 2, .inl fmv)), (rl, .inl (cyI, 2, .inl fr)), (uo, .inl (cyI, 2, .inl fuo)), (rg, .inl (cyZ, 2, .inl frg))]) (runV hC hK hP hD hl.1 (k_X10_manyOf l D cyB cyI cyJ cyZ H.size o fs mn fm hl_fs h_fs_12 h_fs_37 h_fm_0) cV_X10_manyOf mw_methodLink_RX10_375_yX10_manyOf [0, 1] rfl rfl 0 rfl rfl rfl rfl rfl (Nat.le_of_ble_eq_true rfl) ⟨by decide, by decide⟩ ⟨by decide, by decide⟩ dX10_about_69) hP hD hS hA [0, 1] [2, 3, 4, 5] rfl rfl rfl (by decide) (fun r_2 u_2 H locs hw_2 hP hD hS => ?_)
    have hr_2 := hw_2
    refine lv_cst (v := 0) hr_2 ?_
    have hP : va_P D classes [(mv, .inl (cyI, 2, .inl fmv)), (rl, .inl (cyI, 2, .inl fr)), (uo, .inl (cyI, 2, .inl fuo)), (rg, .inl (cyZ, 2, .inl frg)), (o, .inr (10, fs)), (mn, .inl (cyI, 2, .inl fm))] H := hP
    have hD : va_D A [(mv, .inl (cyI, 2, .inl fmv)), (rl, .inl (cyI, 2, .inl fr)), (uo, .inl (cyI, 2, .inl fuo)), (rg, .inl (cyZ, 2, .inl frg)), (o, .inr (10, fs)), (mn, .inl (cyI, 2, .inl fm))] := hD
    refine W.widen (k := 0) (n := 0) (by decide) (by decide) ?_
    exact retI hC hP hD hS (by decide) (by decide) () [] rfl rfl (by decide) dX10_about_72
  · refine lv_tableIn (tgt := 73) (off := 72) hx hb dX10_about_1 (by decide) (by decide) (by decide) (by decide) ?_
    refine lv_aload_n hx hb dX10_about_73 rfl (lv_at hl 0 rfl) ?_
    refine gf hC hK hP iX10 0 rfl rfl 11 (by decide) mw_fieldLink_RX10_20_MirrorDrillModel_moves_I h_fs_11 dX10_about_74 ?_
    refine lv_aload_n hx hb dX10_about_77 rfl (lv_at hl 0 rfl) ?_
    refine gf hC hK hP iX10 0 rfl rfl 37 (by decide) mw_fieldLink_RX10_282_MirrorDrillModel_bank_I h_fs_37 dX10_about_78 ?_
    refine va_iald hx hb hK hP 2 1 rfl rfl (vin (by decide)) dX10_about_81 ?_
    refine lv_cst (v := 2) (h_fmv_0) ?_
    exact retI hC hP hD hS (by decide) (by decide) () [] rfl rfl (by decide) dX10_about_82
  · refine lv_tableIn (tgt := 83) (off := 82) hx hb dX10_about_1 (by decide) (by decide) (by decide) (by decide) ?_
    refine lv_aload_n hx hb dX10_about_83 rfl (lv_at hl 0 rfl) ?_
    refine gf hC hK hP iX10 0 rfl rfl 13 (by decide) mw_fieldLink_RX10_27_MirrorDrillModel_rules_I h_fs_13 dX10_about_84 ?_
    refine lv_aload_n hx hb dX10_about_87 rfl (lv_at hl 0 rfl) ?_
    refine gf hC hK hP iX10 0 rfl rfl 37 (by decide) mw_fieldLink_RX10_282_MirrorDrillModel_bank_I h_fs_37 dX10_about_88 ?_
    refine va_iald hx hb hK hP 3 1 rfl rfl (vin (by decide)) dX10_about_91 ?_
    refine lv_cst (v := 0) (h_fr_0) ?_
    exact retI hC hP hD hS (by decide) (by decide) () [] rfl rfl (by decide) dX10_about_92
  · refine lv_tableIn (tgt := 93) (off := 92) hx hb dX10_about_1 (by decide) (by decide) (by decide) (by decide) ?_
    refine lv_aload_n hx hb dX10_about_93 rfl (lv_at hl 0 rfl) ?_
    refine gf hC hK hP iX10 0 rfl rfl 46 (by decide) mw_fieldLink_RX10_388_MirrorDrillModel_beats_I h_fs_46 dX10_about_94 ?_
    exact retI hC hP hD hS (by decide) (by decide) () [] rfl rfl (by decide) dX10_about_97
  · refine lv_tableIn (tgt := 98) (off := 97) hx hb dX10_about_1 (by decide) (by decide) (by decide) (by decide) ?_
    refine lv_aload_n hx hb dX10_about_98 rfl (lv_at hl 0 rfl) ?_
    refine gf hC hK hP iX10 0 rfl rfl 51 (by decide) mw_fieldLink_RX10_391_MirrorDrillModel_acts_I h_fs_51 dX10_about_99 ?_
    exact retI hC hP hD hS (by decide) (by decide) () [] rfl rfl (by decide) dX10_about_102
  · refine lv_tableIn (tgt := 103) (off := 102) hx hb dX10_about_1 (by decide) (by decide) (by decide) (by decide) ?_
    refine lv_aload_n hx hb dX10_about_103 rfl (lv_at hl 0 rfl) ?_
    refine gf hC hK hP iX10 0 rfl rfl 52 (by decide) mw_fieldLink_RX10_394_MirrorDrillModel_undone_I h_fs_52 dX10_about_104 ?_
    exact retI hC hP hD hS (by decide) (by decide) () [] rfl rfl (by decide) dX10_about_107
  · refine lv_tableIn (tgt := 108) (off := 107) hx hb dX10_about_1 (by decide) (by decide) (by decide) (by decide) ?_
    refine lv_aload_n hx hb dX10_about_108 rfl (lv_at hl 0 rfl) ?_
    refine gf hC hK hP iX10 0 rfl rfl 75 (by decide) mw_fieldLink_RX10_291_MirrorDrillModel_sights_I h_fs_75 dX10_about_109 ?_
    exact retI hC hP hD hS (by decide) (by decide) () [] rfl rfl (by decide) dX10_about_112
  · refine lv_tableIn (tgt := 113) (off := 112) hx hb dX10_about_1 (by decide) (by decide) (by decide) (by decide) ?_
    refine lv_aload_n hx hb dX10_about_113 rfl (lv_at hl 0 rfl) ?_
    refine gf hC hK hP iX10 0 rfl rfl 76 (by decide) mw_fieldLink_RX10_524_MirrorDrillModel_time_I h_fs_76 dX10_about_114 ?_
    exact retI hC hP hD hS (by decide) (by decide) () [] rfl rfl (by decide) dX10_about_117
  · refine lv_tableIn (tgt := 118) (off := 117) hx hb dX10_about_1 (by decide) (by decide) (by decide) (by decide) ?_
    refine lv_aload_n hx hb dX10_about_118 rfl (lv_at hl 0 rfl) ?_
    refine gf hC hK hP iX10 0 rfl rfl 2 (by decide) mw_fieldLink_RX10_279_MirrorDrillModel_taped_I h_fs_2 dX10_about_119 ?_
    exact retI hC hP hD hS (by decide) (by decide) () [] rfl rfl (by decide) dX10_about_122
  · refine lv_tableIn (tgt := 123) (off := 122) hx hb dX10_about_1 (by decide) (by decide) (by decide) (by decide) ?_
    refine lv_aload_n hx hb dX10_about_123 rfl (lv_at hl 0 rfl) ?_
    refine gf hC hK hP iX10 0 rfl rfl 14 (by decide) mw_fieldLink_RX10_30_MirrorDrillModel_unitsOf_I h_fs_14 dX10_about_124 ?_
    refine lv_aload_n hx hb dX10_about_127 rfl (lv_at hl 0 rfl) ?_
    refine gf hC hK hP iX10 0 rfl rfl 37 (by decide) mw_fieldLink_RX10_282_MirrorDrillModel_bank_I h_fs_37 dX10_about_128 ?_
    refine va_iald hx hb hK hP 4 1 rfl rfl (vin (by decide)) dX10_about_131 ?_
    refine lv_cst (v := 0) (h_fuo_0) ?_
    exact retI hC hP hD hS (by decide) (by decide) () [] rfl rfl (by decide) dX10_about_132
  · refine lv_tableIn (tgt := 133) (off := 132) hx hb dX10_about_1 (by decide) (by decide) (by decide) (by decide) ?_
    refine lv_aload_n hx hb dX10_about_133 rfl (lv_at hl 0 rfl) ?_
    refine gf hC hK hP iX10 0 rfl rfl 25 (by decide) mw_fieldLink_RX10_64_MirrorDrillModel_isRing_Z h_fs_25 dX10_about_134 ?_
    refine lv_aload_n hx hb dX10_about_137 rfl (lv_at hl 0 rfl) ?_
    refine gf hC hK hP iX10 0 rfl rfl 37 (by decide) mw_fieldLink_RX10_282_MirrorDrillModel_bank_I h_fs_37 dX10_about_138 ?_
    refine va_zald hx hb hK hP 5 3 rfl rfl (vin (by decide)) dX10_about_141 ?_
    refine lv_cst (v := 0) (h_frg_0) ?_
    refine lv_if_eq (tgt := 149) hx hb dX10_about_142 (by decide) (fun c_3 => ?_) (fun c_3 => absurd (by decide) c_3)
    refine lv_iconst (v := 0) hx hb dX10_about_149 (by decide) ?_
    exact retI hC hP hD hS (by decide) (by decide) () [] rfl rfl (by decide) dX10_about_150
  · refine lv_tableIn (tgt := 151) (off := 150) hx hb dX10_about_1 (by decide) (by decide) (by decide) (by decide) ?_
    refine lv_aload_n hx hb dX10_about_151 rfl (lv_at hl 0 rfl) ?_
    refine gf hC hK hP iX10 0 rfl rfl 60 (by decide) mw_fieldLink_RX10_297_MirrorDrillModel_laid_I h_fs_60 dX10_about_152 ?_
    exact retI hC hP hD hS (by decide) (by decide) () [] rfl rfl (by decide) dX10_about_155
  · refine lv_tableIn (tgt := 156) (off := 155) hx hb dX10_about_1 (by decide) (by decide) (by decide) (by decide) ?_
    refine lv_aload_n hx hb dX10_about_156 rfl (lv_at hl 0 rfl) ?_
    refine gf hC hK hP iX10 0 rfl rfl 77 (by decide) mw_fieldLink_RX10_294_MirrorDrillModel_unsureSet_I h_fs_77 dX10_about_157 ?_
    exact retI hC hP hD hS (by decide) (by decide) () [] rfl rfl (by decide) dX10_about_160
  · refine lv_tableOut (tgt := 161) hx hb dX10_about_1 ho_1 (by decide) ?_
    refine lv_iconst (v := (-1)) hx hb dX10_about_161 (by decide) ?_
    exact retI hC hP hD hS (by decide) (by decide) () [] rfl rfl (by have z := ho_1; unfold sp_about; (repeat' split) <;> first | rfl | (exfalso; omega)) dX10_about_162
set_option maxHeartbeats 4000000 in
set_option maxRecDepth 100000 in
theorem k_X10_feed (l : Launch) (D : va_G) (cyB cyI cyJ cyZ : ClassId) (sz : Nat) (o : Nat) (p0 : Int32) (p1 : Int32) (p2 : Int32) (p3 : Int32) (p4 : Int32) (fs : List Value) (tp : Nat) (ftp : Nat → Int32) (hl_fs : fs.length = 80) (h_fs_0 : fs[0]? = some (.ref tp)) (h_fs_2 : fs[2]? = some (.int 0)) : KI l yX10_feed cX10_feed 8 .int 0 0 0 D (TYS cyB cyI cyJ cyZ) [(o, .inr (10, fs)), (tp, .inl (cyB, 1620, .inl ftp))] sz [.ref o, .int p0, .int p1, .int p2, .int p3, .int p4] (fun (r : Int32) (u : Unit) => r = 20) (fun (u : Unit) => ([] : va_W)) := by
  refine entI (by decide) (Nat.le_of_ble_eq_true rfl) ?_
  intro p e s m below meth c ls A hC hl hP hK hD hA
  obtain ⟨hx, hb, hr, hml, hown, hts, hlk, hnm⟩ := id hC
  have hS : va_S A s.heap s.heap [] := va_S.rf
  have hl : lv_has ls 8 [(0, .ref o), (1, .int p0), (2, .int p1), (3, .int p2), (4, .int p3), (5, .int p4)] := hl
  generalize hHe : s.heap = H at hP ⊢
  rw [hHe] at hS
  have hS : va_S A s.heap H [] := by rw [hHe]; exact hS
  refine lv_aload_n hx hb dX10_feed_0 rfl (lv_at hl 0 rfl) ?_
  refine gf hC hK hP iX10 0 rfl rfl 2 (by decide) mw_fieldLink_RX10_279_MirrorDrillModel_taped_I h_fs_2 dX10_feed_1 ?_
  refine lv_bipush (v := 20) hx hb dX10_feed_4 (by decide) ?_
  refine lv_iadd hx hb dX10_feed_6 ?_
  refine lv_cst (v := 20) (by decide) ?_
  refine lv_sipush (v := 1600) hx hb dX10_feed_7 (by decide) ?_
  refine lv_icmp_le (tgt := 15) hx hb dX10_feed_10 (by decide) (fun c_1 => ?_) (fun c_1 => absurd (by decide) c_1)
  refine lv_iconst (v := 0) hx hb dX10_feed_15 (by decide) ?_
  refine lv_istore (lv' := [(6, .int 0), (0, .ref o), (1, .int p0), (2, .int p1), (3, .int p2), (4, .int p3), (5, .int p4)]) hx hb dX10_feed_16 hl (by decide) rfl (fun ls hl => ?_)
  have lp : ∀ (n i : Nat) (g0 : Nat → Int32) (H : Heap) (locs : List Loc) (ls : Array Slot), i + n = 20 → lv_has ls 8 [(6, .int (nI i)), (0, .ref o), (1, .int p0), (2, .int p1), (3, .int p2), (4, .int p3), (5, .int p4)] → va_P D classes [(o, .inr (10, fs)), (tp, .inl (cyB, 1620, .inl g0))] H → va_D A [(o, .inr (10, fs)), (tp, .inl (cyB, 1620, .inl g0))] → va_S A s.heap H locs → W p l e (rmK 0 0 0) s m ([.ref o, .int p0, .int p1, .int p2, .int p3, .int p4] : List Value).toArray below meth c H locs 0 0 (MQ below (va_Qi (fun (r : Int32) (u : Unit) => r = 20) (fun u => Aft D A ((fun (u : Unit) => ([] : va_W)) u)) A) ([.ref o, .int p0, .int p1, .int p2, .int p3, .int p4] : List Value).toArray s 0 0 A) (F0 m 18 ls []) := by
    intro n
    induction n with
    | zero =>
      intro i g0 H locs ls hi hl hP hD hS
      obtain rfl : i = 20 := by omega
      refine lv_iload hx hb dX10_feed_18 (lv_at hl 0 rfl) ?_
      refine lv_bipush (v := 20) hx hb dX10_feed_20 (by decide) ?_
      refine lv_icmp_ge (tgt := 105) hx hb dX10_feed_22 (by decide) (fun c_2 => ?_) (fun c_2 => absurd (by decide) c_2)
      refine lv_aload_n hx hb dX10_feed_105 rfl (lv_at hl 1 rfl) ?_
      refine lv_dup hx hb dX10_feed_106 rfl ?_
      refine gf hC hK hP iX10 0 rfl rfl 2 (by decide) mw_fieldLink_RX10_279_MirrorDrillModel_taped_I h_fs_2 dX10_feed_107 ?_
      refine lv_bipush (v := 20) hx hb dX10_feed_110 (by decide) ?_
      refine lv_iadd hx hb dX10_feed_112 ?_
      refine lv_cst (v := 20) (by decide) ?_
      refine pf (v := .int 20) hC hK hP hD hS iX10 tyX10_ok nmX10 0 rfl rfl 2 (by decide) mw_fieldLink_RX10_279_MirrorDrillModel_taped_I rfl rfl rfl (ln_lt hl_fs (by decide)) dX10_feed_113 (fun H locs hP hD hS => ?_)
      have hP : va_P D classes [(o, .inr (10, (fs.set 2 (.int 20)))), (tp, .inl (cyB, 1620, .inl g0))] H := hP
      have hD : va_D A [(o, .inr (10, (fs.set 2 (.int 20)))), (tp, .inl (cyB, 1620, .inl g0))] := hD
      refine lv_aload_n hx hb dX10_feed_116 rfl (lv_at hl 1 rfl) ?_
      refine gf hC hK hP iX10 0 rfl rfl 2 (by decide) mw_fieldLink_RX10_279_MirrorDrillModel_taped_I (gs_eq (ln_lt hl_fs (by decide))) dX10_feed_117 ?_
      exact retI hC hP hD hS (by decide) (by decide) () [] rfl rfl rfl dX10_feed_120
    | succ n ih =>
      intro i g0 H locs ls hi hl hP hD hS
      have hlt : i < 20 := by omega
      refine lv_iload hx hb dX10_feed_18 (lv_at hl 0 rfl) ?_
      refine lv_bipush (v := 20) hx hb dX10_feed_20 (by decide) ?_
      refine lv_icmp_ge (tgt := 105) hx hb dX10_feed_22 (by decide) (fun c_3 => absurd c_3 (nI_ge (b := 20) hlt (by decide))) (fun c_3 => ?_)
      refine lv_iload hx hb dX10_feed_25 (lv_at hl 0 rfl) ?_
      refine lv_iconst (v := 4) hx hb dX10_feed_27 (by decide) ?_
      refine lv_icmp_ge (tgt := 35) hx hb dX10_feed_28 (by decide) (fun c_4 => ?_) (fun c_4 => ?_)
      · refine lv_iload hx hb dX10_feed_35 (lv_at hl 0 rfl) ?_
        refine lv_bipush (v := 8) hx hb dX10_feed_37 (by decide) ?_
        refine lv_icmp_ge (tgt := 46) hx hb dX10_feed_39 (by decide) (fun c_5 => ?_) (fun c_5 => ?_)
        · refine lv_iload hx hb dX10_feed_46 (lv_at hl 0 rfl) ?_
          refine lv_bipush (v := 12) hx hb dX10_feed_48 (by decide) ?_
          refine lv_icmp_ge (tgt := 57) hx hb dX10_feed_50 (by decide) (fun c_6 => ?_) (fun c_6 => ?_)
          · refine lv_iload hx hb dX10_feed_57 (lv_at hl 0 rfl) ?_
            refine lv_bipush (v := 16) hx hb dX10_feed_59 (by decide) ?_
            refine lv_icmp_ge (tgt := 69) hx hb dX10_feed_61 (by decide) (fun c_7 => ?_) (fun c_7 => ?_)
            · refine lv_iload hx hb dX10_feed_69 (lv_at hl 6 rfl) ?_
              refine lv_istore (lv' := [(7, .int p4), (6, .int (nI i)), (0, .ref o), (1, .int p0), (2, .int p1), (3, .int p2), (4, .int p3), (5, .int p4)]) hx hb dX10_feed_71 hl (by decide) rfl (fun ls hl => ?_)
              refine lv_aload_n hx hb dX10_feed_73 rfl (lv_at hl 2 rfl) ?_
              refine gf hC hK hP iX10 0 rfl rfl 0 (by decide) mw_fieldLink_RX10_7_MirrorDrillModel_tape_B h_fs_0 dX10_feed_74 ?_
              refine lv_aload_n hx hb dX10_feed_77 rfl (lv_at hl 2 rfl) ?_
              refine gf hC hK hP iX10 0 rfl rfl 2 (by decide) mw_fieldLink_RX10_279_MirrorDrillModel_taped_I h_fs_2 dX10_feed_78 ?_
              refine lv_iload hx hb dX10_feed_81 (lv_at hl 1 rfl) ?_
              refine lv_iadd hx hb dX10_feed_83 ?_
              refine lv_cst (v := (nI i)) (Int32.zero_add _) ?_
              refine lv_iload hx hb dX10_feed_84 (lv_at hl 0 rfl) ?_
              refine lv_bipush (v := 24) hx hb dX10_feed_86 (by decide) ?_
              refine lv_bipush (v := 8) hx hb dX10_feed_88 (by decide) ?_
              refine lv_iload hx hb dX10_feed_90 (lv_at hl 1 rfl) ?_
              refine lv_iconst (v := 3) hx hb dX10_feed_92 (by decide) ?_
              refine lv_iand hx hb dX10_feed_93 ?_
              refine lv_topi (fun x_8 ex_8 => ?_)
              refine lv_imul hx hb dX10_feed_94 ?_
              refine lv_topi (fun x_9 ex_9 => ?_)
              refine lv_isub hx hb dX10_feed_95 ?_
              refine lv_topi (fun x_10 ex_10 => ?_)
              refine lv_ishr hx hb dX10_feed_96 ?_
              refine lv_topi (fun x_11 ex_11 => ?_)
              refine lv_i2b (v := x_11.toInt8.toInt32) hx hb dX10_feed_97 rfl ?_
              refine va_bast hx hb hK hP hD hS 1 0 rfl rfl (vp_in_nI (by omega) (by decide)) dX10_feed_98 (fun H locs hP hD hS => ?_)
              obtain ⟨f_12, ef_12⟩ : ∃ g : Nat → Int32, g = upd g0 (((nI i) : Int32).toNatClampNeg) (vp_nar .byte x_11.toInt8.toInt32) := ⟨_, rfl⟩
              rw [← ef_12] at hP hD
              have hP : va_P D classes [(o, .inr (10, fs)), (tp, .inl (cyB, 1620, .inl f_12))] H := hP
              have hD : va_D A [(o, .inr (10, fs)), (tp, .inl (cyB, 1620, .inl f_12))] := hD
              refine lv_iinc (v := (nI (i + 1))) (lv' := [(6, .int (nI (i + 1))), (7, .int p4), (0, .ref o), (1, .int p0), (2, .int p1), (3, .int p2), (4, .int p3), (5, .int p4)]) hx hb dX10_feed_99 hl (k := 1) rfl (nI_1 _) (by decide) rfl (fun ls hl => ?_)
              refine lv_goto (tgt := 18) hx hb dX10_feed_102 (by decide) ?_
              exact ih (i + 1) f_12 _ _ _ (by omega) (lv_sub hl [0, 2, 3, 4, 5, 6, 7] rfl) hP hD hS
            · refine lv_iload hx hb dX10_feed_64 (lv_at hl 5 rfl) ?_
              refine lv_goto (tgt := 71) hx hb dX10_feed_66 (by decide) ?_
              refine lv_istore (lv' := [(7, .int p3), (6, .int (nI i)), (0, .ref o), (1, .int p0), (2, .int p1), (3, .int p2), (4, .int p3), (5, .int p4)]) hx hb dX10_feed_71 hl (by decide) rfl (fun ls hl => ?_)
              refine lv_aload_n hx hb dX10_feed_73 rfl (lv_at hl 2 rfl) ?_
              refine gf hC hK hP iX10 0 rfl rfl 0 (by decide) mw_fieldLink_RX10_7_MirrorDrillModel_tape_B h_fs_0 dX10_feed_74 ?_
              refine lv_aload_n hx hb dX10_feed_77 rfl (lv_at hl 2 rfl) ?_
              refine gf hC hK hP iX10 0 rfl rfl 2 (by decide) mw_fieldLink_RX10_279_MirrorDrillModel_taped_I h_fs_2 dX10_feed_78 ?_
              refine lv_iload hx hb dX10_feed_81 (lv_at hl 1 rfl) ?_
              refine lv_iadd hx hb dX10_feed_83 ?_
              refine lv_cst (v := (nI i)) (Int32.zero_add _) ?_
              refine lv_iload hx hb dX10_feed_84 (lv_at hl 0 rfl) ?_
              refine lv_bipush (v := 24) hx hb dX10_feed_86 (by decide) ?_
              refine lv_bipush (v := 8) hx hb dX10_feed_88 (by decide) ?_
              refine lv_iload hx hb dX10_feed_90 (lv_at hl 1 rfl) ?_
              refine lv_iconst (v := 3) hx hb dX10_feed_92 (by decide) ?_
              refine lv_iand hx hb dX10_feed_93 ?_
              refine lv_topi (fun x_13 ex_13 => ?_)
              refine lv_imul hx hb dX10_feed_94 ?_
              refine lv_topi (fun x_14 ex_14 => ?_)
              refine lv_isub hx hb dX10_feed_95 ?_
              refine lv_topi (fun x_15 ex_15 => ?_)
              refine lv_ishr hx hb dX10_feed_96 ?_
              refine lv_topi (fun x_16 ex_16 => ?_)
              refine lv_i2b (v := x_16.toInt8.toInt32) hx hb dX10_feed_97 rfl ?_
              refine va_bast hx hb hK hP hD hS 1 0 rfl rfl (vp_in_nI (by omega) (by decide)) dX10_feed_98 (fun H locs hP hD hS => ?_)
              obtain ⟨f_17, ef_17⟩ : ∃ g : Nat → Int32, g = upd g0 (((nI i) : Int32).toNatClampNeg) (vp_nar .byte x_16.toInt8.toInt32) := ⟨_, rfl⟩
              rw [← ef_17] at hP hD
              have hP : va_P D classes [(o, .inr (10, fs)), (tp, .inl (cyB, 1620, .inl f_17))] H := hP
              have hD : va_D A [(o, .inr (10, fs)), (tp, .inl (cyB, 1620, .inl f_17))] := hD
              refine lv_iinc (v := (nI (i + 1))) (lv' := [(6, .int (nI (i + 1))), (7, .int p3), (0, .ref o), (1, .int p0), (2, .int p1), (3, .int p2), (4, .int p3), (5, .int p4)]) hx hb dX10_feed_99 hl (k := 1) rfl (nI_1 _) (by decide) rfl (fun ls hl => ?_)
              refine lv_goto (tgt := 18) hx hb dX10_feed_102 (by decide) ?_
              exact ih (i + 1) f_17 _ _ _ (by omega) (lv_sub hl [0, 2, 3, 4, 5, 6, 7] rfl) hP hD hS
          · refine lv_iload_n hx hb dX10_feed_53 rfl (lv_at hl 4 rfl) ?_
            refine lv_goto (tgt := 71) hx hb dX10_feed_54 (by decide) ?_
            refine lv_istore (lv' := [(7, .int p2), (6, .int (nI i)), (0, .ref o), (1, .int p0), (2, .int p1), (3, .int p2), (4, .int p3), (5, .int p4)]) hx hb dX10_feed_71 hl (by decide) rfl (fun ls hl => ?_)
            refine lv_aload_n hx hb dX10_feed_73 rfl (lv_at hl 2 rfl) ?_
            refine gf hC hK hP iX10 0 rfl rfl 0 (by decide) mw_fieldLink_RX10_7_MirrorDrillModel_tape_B h_fs_0 dX10_feed_74 ?_
            refine lv_aload_n hx hb dX10_feed_77 rfl (lv_at hl 2 rfl) ?_
            refine gf hC hK hP iX10 0 rfl rfl 2 (by decide) mw_fieldLink_RX10_279_MirrorDrillModel_taped_I h_fs_2 dX10_feed_78 ?_
            refine lv_iload hx hb dX10_feed_81 (lv_at hl 1 rfl) ?_
            refine lv_iadd hx hb dX10_feed_83 ?_
            refine lv_cst (v := (nI i)) (Int32.zero_add _) ?_
            refine lv_iload hx hb dX10_feed_84 (lv_at hl 0 rfl) ?_
            refine lv_bipush (v := 24) hx hb dX10_feed_86 (by decide) ?_
            refine lv_bipush (v := 8) hx hb dX10_feed_88 (by decide) ?_
            refine lv_iload hx hb dX10_feed_90 (lv_at hl 1 rfl) ?_
            refine lv_iconst (v := 3) hx hb dX10_feed_92 (by decide) ?_
            refine lv_iand hx hb dX10_feed_93 ?_
            refine lv_topi (fun x_18 ex_18 => ?_)
            refine lv_imul hx hb dX10_feed_94 ?_
            refine lv_topi (fun x_19 ex_19 => ?_)
            refine lv_isub hx hb dX10_feed_95 ?_
            refine lv_topi (fun x_20 ex_20 => ?_)
            refine lv_ishr hx hb dX10_feed_96 ?_
            refine lv_topi (fun x_21 ex_21 => ?_)
            refine lv_i2b (v := x_21.toInt8.toInt32) hx hb dX10_feed_97 rfl ?_
            refine va_bast hx hb hK hP hD hS 1 0 rfl rfl (vp_in_nI (by omega) (by decide)) dX10_feed_98 (fun H locs hP hD hS => ?_)
            obtain ⟨f_22, ef_22⟩ : ∃ g : Nat → Int32, g = upd g0 (((nI i) : Int32).toNatClampNeg) (vp_nar .byte x_21.toInt8.toInt32) := ⟨_, rfl⟩
            rw [← ef_22] at hP hD
            have hP : va_P D classes [(o, .inr (10, fs)), (tp, .inl (cyB, 1620, .inl f_22))] H := hP
            have hD : va_D A [(o, .inr (10, fs)), (tp, .inl (cyB, 1620, .inl f_22))] := hD
            refine lv_iinc (v := (nI (i + 1))) (lv' := [(6, .int (nI (i + 1))), (7, .int p2), (0, .ref o), (1, .int p0), (2, .int p1), (3, .int p2), (4, .int p3), (5, .int p4)]) hx hb dX10_feed_99 hl (k := 1) rfl (nI_1 _) (by decide) rfl (fun ls hl => ?_)
            refine lv_goto (tgt := 18) hx hb dX10_feed_102 (by decide) ?_
            exact ih (i + 1) f_22 _ _ _ (by omega) (lv_sub hl [0, 2, 3, 4, 5, 6, 7] rfl) hP hD hS
        · refine lv_iload_n hx hb dX10_feed_42 rfl (lv_at hl 3 rfl) ?_
          refine lv_goto (tgt := 71) hx hb dX10_feed_43 (by decide) ?_
          refine lv_istore (lv' := [(7, .int p1), (6, .int (nI i)), (0, .ref o), (1, .int p0), (2, .int p1), (3, .int p2), (4, .int p3), (5, .int p4)]) hx hb dX10_feed_71 hl (by decide) rfl (fun ls hl => ?_)
          refine lv_aload_n hx hb dX10_feed_73 rfl (lv_at hl 2 rfl) ?_
          refine gf hC hK hP iX10 0 rfl rfl 0 (by decide) mw_fieldLink_RX10_7_MirrorDrillModel_tape_B h_fs_0 dX10_feed_74 ?_
          refine lv_aload_n hx hb dX10_feed_77 rfl (lv_at hl 2 rfl) ?_
          refine gf hC hK hP iX10 0 rfl rfl 2 (by decide) mw_fieldLink_RX10_279_MirrorDrillModel_taped_I h_fs_2 dX10_feed_78 ?_
          refine lv_iload hx hb dX10_feed_81 (lv_at hl 1 rfl) ?_
          refine lv_iadd hx hb dX10_feed_83 ?_
          refine lv_cst (v := (nI i)) (Int32.zero_add _) ?_
          refine lv_iload hx hb dX10_feed_84 (lv_at hl 0 rfl) ?_
          refine lv_bipush (v := 24) hx hb dX10_feed_86 (by decide) ?_
          refine lv_bipush (v := 8) hx hb dX10_feed_88 (by decide) ?_
          refine lv_iload hx hb dX10_feed_90 (lv_at hl 1 rfl) ?_
          refine lv_iconst (v := 3) hx hb dX10_feed_92 (by decide) ?_
          refine lv_iand hx hb dX10_feed_93 ?_
          refine lv_topi (fun x_23 ex_23 => ?_)
          refine lv_imul hx hb dX10_feed_94 ?_
          refine lv_topi (fun x_24 ex_24 => ?_)
          refine lv_isub hx hb dX10_feed_95 ?_
          refine lv_topi (fun x_25 ex_25 => ?_)
          refine lv_ishr hx hb dX10_feed_96 ?_
          refine lv_topi (fun x_26 ex_26 => ?_)
          refine lv_i2b (v := x_26.toInt8.toInt32) hx hb dX10_feed_97 rfl ?_
          refine va_bast hx hb hK hP hD hS 1 0 rfl rfl (vp_in_nI (by omega) (by decide)) dX10_feed_98 (fun H locs hP hD hS => ?_)
          obtain ⟨f_27, ef_27⟩ : ∃ g : Nat → Int32, g = upd g0 (((nI i) : Int32).toNatClampNeg) (vp_nar .byte x_26.toInt8.toInt32) := ⟨_, rfl⟩
          rw [← ef_27] at hP hD
          have hP : va_P D classes [(o, .inr (10, fs)), (tp, .inl (cyB, 1620, .inl f_27))] H := hP
          have hD : va_D A [(o, .inr (10, fs)), (tp, .inl (cyB, 1620, .inl f_27))] := hD
          refine lv_iinc (v := (nI (i + 1))) (lv' := [(6, .int (nI (i + 1))), (7, .int p1), (0, .ref o), (1, .int p0), (2, .int p1), (3, .int p2), (4, .int p3), (5, .int p4)]) hx hb dX10_feed_99 hl (k := 1) rfl (nI_1 _) (by decide) rfl (fun ls hl => ?_)
          refine lv_goto (tgt := 18) hx hb dX10_feed_102 (by decide) ?_
          exact ih (i + 1) f_27 _ _ _ (by omega) (lv_sub hl [0, 2, 3, 4, 5, 6, 7] rfl) hP hD hS
      · refine lv_iload_n hx hb dX10_feed_31 rfl (lv_at hl 2 rfl) ?_
        refine lv_goto (tgt := 71) hx hb dX10_feed_32 (by decide) ?_
        refine lv_istore (lv' := [(7, .int p0), (6, .int (nI i)), (0, .ref o), (1, .int p0), (2, .int p1), (3, .int p2), (4, .int p3), (5, .int p4)]) hx hb dX10_feed_71 hl (by decide) rfl (fun ls hl => ?_)
        refine lv_aload_n hx hb dX10_feed_73 rfl (lv_at hl 2 rfl) ?_
        refine gf hC hK hP iX10 0 rfl rfl 0 (by decide) mw_fieldLink_RX10_7_MirrorDrillModel_tape_B h_fs_0 dX10_feed_74 ?_
        refine lv_aload_n hx hb dX10_feed_77 rfl (lv_at hl 2 rfl) ?_
        refine gf hC hK hP iX10 0 rfl rfl 2 (by decide) mw_fieldLink_RX10_279_MirrorDrillModel_taped_I h_fs_2 dX10_feed_78 ?_
        refine lv_iload hx hb dX10_feed_81 (lv_at hl 1 rfl) ?_
        refine lv_iadd hx hb dX10_feed_83 ?_
        refine lv_cst (v := (nI i)) (Int32.zero_add _) ?_
        refine lv_iload hx hb dX10_feed_84 (lv_at hl 0 rfl) ?_
        refine lv_bipush (v := 24) hx hb dX10_feed_86 (by decide) ?_
        refine lv_bipush (v := 8) hx hb dX10_feed_88 (by decide) ?_
        refine lv_iload hx hb dX10_feed_90 (lv_at hl 1 rfl) ?_
        refine lv_iconst (v := 3) hx hb dX10_feed_92 (by decide) ?_
        refine lv_iand hx hb dX10_feed_93 ?_
        refine lv_topi (fun x_28 ex_28 => ?_)
        refine lv_imul hx hb dX10_feed_94 ?_
        refine lv_topi (fun x_29 ex_29 => ?_)
        refine lv_isub hx hb dX10_feed_95 ?_
        refine lv_topi (fun x_30 ex_30 => ?_)
        refine lv_ishr hx hb dX10_feed_96 ?_
        refine lv_topi (fun x_31 ex_31 => ?_)
        refine lv_i2b (v := x_31.toInt8.toInt32) hx hb dX10_feed_97 rfl ?_
        refine va_bast hx hb hK hP hD hS 1 0 rfl rfl (vp_in_nI (by omega) (by decide)) dX10_feed_98 (fun H locs hP hD hS => ?_)
        obtain ⟨f_32, ef_32⟩ : ∃ g : Nat → Int32, g = upd g0 (((nI i) : Int32).toNatClampNeg) (vp_nar .byte x_31.toInt8.toInt32) := ⟨_, rfl⟩
        rw [← ef_32] at hP hD
        have hP : va_P D classes [(o, .inr (10, fs)), (tp, .inl (cyB, 1620, .inl f_32))] H := hP
        have hD : va_D A [(o, .inr (10, fs)), (tp, .inl (cyB, 1620, .inl f_32))] := hD
        refine lv_iinc (v := (nI (i + 1))) (lv' := [(6, .int (nI (i + 1))), (7, .int p0), (0, .ref o), (1, .int p0), (2, .int p1), (3, .int p2), (4, .int p3), (5, .int p4)]) hx hb dX10_feed_99 hl (k := 1) rfl (nI_1 _) (by decide) rfl (fun ls hl => ?_)
        refine lv_goto (tgt := 18) hx hb dX10_feed_102 (by decide) ?_
        exact ih (i + 1) f_32 _ _ _ (by omega) (lv_sub hl [0, 2, 3, 4, 5, 6, 7] rfl) hP hD hS
  exact lp 20 0 ftp _ _ _ (by decide) hl hP hD hS
