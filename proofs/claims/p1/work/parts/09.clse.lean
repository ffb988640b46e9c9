theorem mn_l : (.methodLink RX7 29 Lib.Math.min.name : Cond) ∈ BIG := big_tab (List.mem_of_getElem? (i := 447) (by decide +kernel)) rfl
theorem mn_s : (.static Lib.Math.min.name : Cond) ∈ BIG := big_tab (List.mem_of_getElem? (i := 448) (by decide +kernel)) rfl
theorem mn_c : (.code Lib.Math.min.name Lib.Math.min.code 2 (some .int) : Cond) ∈ BIG := big_tab (List.mem_of_getElem? (i := 449) (by decide +kernel)) rfl
theorem ml_l : (.methodLink RX9 224 Lib.MathLoose.min_long.x : Cond) ∈ BIG := big_tab (List.mem_of_getElem? (i := 949) (by decide +kernel)) rfl
theorem ml_s : (.static Lib.MathLoose.min_long.x : Cond) ∈ BIG := big_tab (List.mem_of_getElem? (i := 950) (by decide +kernel)) rfl
theorem ml_c : (.code Lib.MathLoose.min_long.x Lib.MathLoose.min_long.code 4 (some .long) : Cond) ∈ BIG := big_tab (List.mem_of_getElem? (i := 951) (by decide +kernel)) rfl
theorem mn_i : (.initialized "java/lang/Math" : Cond) ∈ BIG := big_tab (List.mem_of_getElem? (i := 12) (by decide +kernel)) rfl
theorem dX2_after_0 : decode cX2_after 0 = .ok (.aload_n 0, 1) := by decide +kernel
theorem dX2_after_1 : decode cX2_after 1 = .ok (.getfield 15, 3) := by decide +kernel
theorem dX2_after_4 : decode cX2_after 4 = .ok (.ifCond .ne 7, 3) := by decide +kernel
theorem dX2_after_7 : decode cX2_after 7 = .ok (.lload_n 1, 1) := by decide +kernel
theorem dX2_after_8 : decode cX2_after 8 = .ok (.goto 19, 3) := by decide +kernel
theorem dX2_after_11 : decode cX2_after 11 = .ok (.aload_n 0, 1) := by decide +kernel
theorem dX2_after_12 : decode cX2_after 12 = .ok (.aload_n 0, 1) := by decide +kernel
theorem dX2_after_13 : decode cX2_after 13 = .ok (.lload_n 1, 1) := by decide +kernel
theorem dX2_after_14 : decode cX2_after 14 = .ok (.invokevirtual 101, 3) := by decide +kernel
theorem dX2_after_17 : decode cX2_after 17 = .ok (.iconst 0, 1) := by decide +kernel
theorem dX2_after_18 : decode cX2_after 18 = .ok (.aload_n 0, 1) := by decide +kernel
theorem dX2_after_19 : decode cX2_after 19 = .ok (.getfield 15, 3) := by decide +kernel
theorem dX2_after_22 : decode cX2_after 22 = .ok (.iconst 1, 1) := by decide +kernel
theorem dX2_after_23 : decode cX2_after 23 = .ok (.isub, 1) := by decide +kernel
theorem dX2_after_24 : decode cX2_after 24 = .ok (.invokevirtual 105, 3) := by decide +kernel
theorem dX2_after_27 : decode cX2_after 27 = .ok (.lreturn, 1) := by decide +kernel
theorem dX2_afterBeats_0 : decode cX2_afterBeats 0 = .ok (.lload_n 1, 1) := by decide +kernel
theorem dX2_afterBeats_1 : decode cX2_afterBeats 1 = .ok (.lstore 4, 2) := by decide +kernel
theorem dX2_afterBeats_3 : decode cX2_afterBeats 3 = .ok (.iconst 0, 1) := by decide +kernel
theorem dX2_afterBeats_4 : decode cX2_afterBeats 4 = .ok (.istore 6, 2) := by decide +kernel
theorem dX2_afterBeats_6 : decode cX2_afterBeats 6 = .ok (.iload 6, 2) := by decide +kernel
theorem dX2_afterBeats_8 : decode cX2_afterBeats 8 = .ok (.iload_n 3, 1) := by decide +kernel
theorem dX2_afterBeats_9 : decode cX2_afterBeats 9 = .ok (.if_icmp .ge 17, 3) := by decide +kernel
theorem dX2_afterBeats_12 : decode cX2_afterBeats 12 = .ok (.aload_n 0, 1) := by decide +kernel
theorem dX2_afterBeats_13 : decode cX2_afterBeats 13 = .ok (.lload 4, 2) := by decide +kernel
theorem dX2_afterBeats_15 : decode cX2_afterBeats 15 = .ok (.invokevirtual 119, 3) := by decide +kernel
theorem dX2_afterBeats_18 : decode cX2_afterBeats 18 = .ok (.lstore 4, 2) := by decide +kernel
theorem dX2_afterBeats_20 : decode cX2_afterBeats 20 = .ok (.iinc 6 1, 3) := by decide +kernel
theorem dX2_afterBeats_23 : decode cX2_afterBeats 23 = .ok (.goto (-17), 3) := by decide +kernel
theorem dX2_afterBeats_26 : decode cX2_afterBeats 26 = .ok (.lload 4, 2) := by decide +kernel
theorem dX2_afterBeats_28 : decode cX2_afterBeats 28 = .ok (.lreturn, 1) := by decide +kernel
theorem dX3_act_0 : decode cX3_act 0 = .ok (.aload_n 0, 1) := by decide +kernel
theorem dX3_act_1 : decode cX3_act 1 = .ok (.getfield 19, 3) := by decide +kernel
theorem dX3_act_4 : decode cX3_act 4 = .ok (.bipush 40, 2) := by decide +kernel
theorem dX3_act_6 : decode cX3_act 6 = .ok (.if_icmp .ge 16, 3) := by decide +kernel
theorem dX3_act_9 : decode cX3_act 9 = .ok (.aload_n 0, 1) := by decide +kernel
theorem dX3_act_10 : decode cX3_act 10 = .ok (.dup, 1) := by decide +kernel
theorem dX3_act_11 : decode cX3_act 11 = .ok (.getfield 19, 3) := by decide +kernel
theorem dX3_act_14 : decode cX3_act 14 = .ok (.iconst 1, 1) := by decide +kernel
theorem dX3_act_15 : decode cX3_act 15 = .ok (.iadd, 1) := by decide +kernel
theorem dX3_act_16 : decode cX3_act 16 = .ok (.putfield 19, 3) := by decide +kernel
theorem dX3_act_19 : decode cX3_act 19 = .ok (.goto 33, 3) := by decide +kernel
theorem dX3_act_22 : decode cX3_act 22 = .ok (.aload_n 0, 1) := by decide +kernel
theorem dX3_act_23 : decode cX3_act 23 = .ok (.getfield 9, 3) := by decide +kernel
theorem dX3_act_26 : decode cX3_act 26 = .ok (.iconst 1, 1) := by decide +kernel
theorem dX3_act_27 : decode cX3_act 27 = .ok (.aload_n 0, 1) := by decide +kernel
theorem dX3_act_28 : decode cX3_act 28 = .ok (.getfield 9, 3) := by decide +kernel
theorem dX3_act_31 : decode cX3_act 31 = .ok (.iconst 0, 1) := by decide +kernel
theorem dX3_act_32 : decode cX3_act 32 = .ok (.bipush 40, 2) := by decide +kernel
theorem dX3_act_34 : decode cX3_act 34 = .ok (.invokestatic 26, 3) := by decide +kernel
theorem dX3_act_37 : decode cX3_act 37 = .ok (.aload_n 0, 1) := by decide +kernel
theorem dX3_act_38 : decode cX3_act 38 = .ok (.getfield 15, 3) := by decide +kernel
theorem dX3_act_41 : decode cX3_act 41 = .ok (.iconst 1, 1) := by decide +kernel
theorem dX3_act_42 : decode cX3_act 42 = .ok (.aload_n 0, 1) := by decide +kernel
theorem dX3_act_43 : decode cX3_act 43 = .ok (.getfield 15, 3) := by decide +kernel
theorem dX3_act_46 : decode cX3_act 46 = .ok (.iconst 0, 1) := by decide +kernel
theorem dX3_act_47 : decode cX3_act 47 = .ok (.bipush 40, 2) := by decide +kernel
theorem dX3_act_49 : decode cX3_act 49 = .ok (.invokestatic 26, 3) := by decide +kernel
theorem dX3_act_52 : decode cX3_act 52 = .ok (.aload_n 0, 1) := by decide +kernel
theorem dX3_act_53 : decode cX3_act 53 = .ok (.getfield 9, 3) := by decide +kernel
theorem dX3_act_56 : decode cX3_act 56 = .ok (.aload_n 0, 1) := by decide +kernel
theorem dX3_act_57 : decode cX3_act 57 = .ok (.getfield 19, 3) := by decide +kernel
theorem dX3_act_60 : decode cX3_act 60 = .ok (.lload_n 1, 1) := by decide +kernel
theorem dX3_act_61 : decode cX3_act 61 = .ok (.lastore, 1) := by decide +kernel
theorem dX3_act_62 : decode cX3_act 62 = .ok (.aload_n 0, 1) := by decide +kernel
theorem dX3_act_63 : decode cX3_act 63 = .ok (.getfield 15, 3) := by decide +kernel
theorem dX3_act_66 : decode cX3_act 66 = .ok (.aload_n 0, 1) := by decide +kernel
theorem dX3_act_67 : decode cX3_act 67 = .ok (.getfield 19, 3) := by decide +kernel
theorem dX3_act_70 : decode cX3_act 70 = .ok (.iload_n 3, 1) := by decide +kernel
theorem dX3_act_71 : decode cX3_act 71 = .ok (.iastore, 1) := by decide +kernel
theorem dX3_act_72 : decode cX3_act 72 = .ok (.aload_n 0, 1) := by decide +kernel
theorem dX3_act_73 : decode cX3_act 73 = .ok (.aload_n 0, 1) := by decide +kernel
theorem dX3_act_74 : decode cX3_act 74 = .ok (.getfield 19, 3) := by decide +kernel
theorem dX3_act_77 : decode cX3_act 77 = .ok (.putfield 23, 3) := by decide +kernel
theorem dX3_act_80 : decode cX3_act 80 = .ok (.return_, 1) := by decide +kernel
theorem dX9_run_0 : decode cX9_run 0 = .ok (.iload_n 1, 1) := by decide +kernel
theorem dX9_run_1 : decode cX9_run 1 = .ok (.ifCond .lt 24, 3) := by decide +kernel
theorem dX9_run_4 : decode cX9_run 4 = .ok (.iload_n 1, 1) := by decide +kernel
theorem dX9_run_5 : decode cX9_run 5 = .ok (.sipush 500, 3) := by decide +kernel
theorem dX9_run_8 : decode cX9_run 8 = .ok (.if_icmp .gt 17, 3) := by decide +kernel
theorem dX9_run_11 : decode cX9_run 11 = .ok (.aload_n 0, 1) := by decide +kernel
theorem dX9_run_12 : decode cX9_run 12 = .ok (.getfield 43, 3) := by decide +kernel
theorem dX9_run_15 : decode cX9_run 15 = .ok (.invokevirtual 173, 3) := by decide +kernel
theorem dX9_run_18 : decode cX9_run 18 = .ok (.iload_n 1, 1) := by decide +kernel
theorem dX9_run_19 : decode cX9_run 19 = .ok (.iadd, 1) := by decide +kernel
theorem dX9_run_20 : decode cX9_run 20 = .ok (.ldc 176, 2) := by decide +kernel
theorem dX9_run_22 : decode cX9_run 22 = .ok (.if_icmp .le 5, 3) := by decide +kernel
theorem dX9_run_25 : decode cX9_run 25 = .ok (.iconst (-1), 1) := by decide +kernel
theorem dX9_run_26 : decode cX9_run 26 = .ok (.ireturn, 1) := by decide +kernel
theorem dX9_run_27 : decode cX9_run 27 = .ok (.aload_n 0, 1) := by decide +kernel
theorem dX9_run_28 : decode cX9_run 28 = .ok (.getfield 43, 3) := by decide +kernel
theorem dX9_run_31 : decode cX9_run 31 = .ok (.aload_n 0, 1) := by decide +kernel
theorem dX9_run_32 : decode cX9_run 32 = .ok (.getfield 27, 3) := by decide +kernel
theorem dX9_run_35 : decode cX9_run 35 = .ok (.aload_n 0, 1) := by decide +kernel
theorem dX9_run_36 : decode cX9_run 36 = .ok (.getfield 43, 3) := by decide +kernel
theorem dX9_run_39 : decode cX9_run 39 = .ok (.invokevirtual 151, 3) := by decide +kernel
theorem dX9_run_42 : decode cX9_run 42 = .ok (.iload_n 1, 1) := by decide +kernel
theorem dX9_run_43 : decode cX9_run 43 = .ok (.invokevirtual 177, 3) := by decide +kernel
theorem dX9_run_46 : decode cX9_run 46 = .ok (.aload_n 0, 1) := by decide +kernel
theorem dX9_run_47 : decode cX9_run 47 = .ok (.getfield 43, 3) := by decide +kernel
theorem dX9_run_50 : decode cX9_run 50 = .ok (.invokevirtual 173, 3) := by decide +kernel
theorem dX9_run_53 : decode cX9_run 53 = .ok (.iload_n 1, 1) := by decide +kernel
theorem dX9_run_54 : decode cX9_run 54 = .ok (.iadd, 1) := by decide +kernel
theorem dX9_run_55 : decode cX9_run 55 = .ok (.invokevirtual 181, 3) := by decide +kernel
theorem dX9_run_58 : decode cX9_run 58 = .ok (.aload_n 0, 1) := by decide +kernel
theorem dX9_run_59 : decode cX9_run 59 = .ok (.getfield 43, 3) := by decide +kernel
theorem dX9_run_62 : decode cX9_run 62 = .ok (.invokevirtual 173, 3) := by decide +kernel
theorem dX9_run_65 : decode cX9_run 65 = .ok (.ireturn, 1) := by decide +kernel
theorem dX1_findLoop_0 : decode cX1_findLoop 0 = .ok (.aload_n 0, 1) := by decide +kernel
theorem dX1_findLoop_1 : decode cX1_findLoop 1 = .ok (.getfield 9, 3) := by decide +kernel
theorem dX1_findLoop_4 : decode cX1_findLoop 4 = .ok (.iconst 0, 1) := by decide +kernel
theorem dX1_findLoop_5 : decode cX1_findLoop 5 = .ok (.lload_n 2, 1) := by decide +kernel
theorem dX1_findLoop_6 : decode cX1_findLoop 6 = .ok (.lastore, 1) := by decide +kernel
theorem dX1_findLoop_7 : decode cX1_findLoop 7 = .ok (.iconst 0, 1) := by decide +kernel
theorem dX1_findLoop_8 : decode cX1_findLoop 8 = .ok (.istore 4, 2) := by decide +kernel
theorem dX1_findLoop_10 : decode cX1_findLoop 10 = .ok (.iconst 1, 1) := by decide +kernel
theorem dX1_findLoop_11 : decode cX1_findLoop 11 = .ok (.istore 5, 2) := by decide +kernel
theorem dX1_findLoop_13 : decode cX1_findLoop 13 = .ok (.iload 5, 2) := by decide +kernel
theorem dX1_findLoop_15 : decode cX1_findLoop 15 = .ok (.sipush 3000, 3) := by decide +kernel
theorem dX1_findLoop_18 : decode cX1_findLoop 18 = .ok (.if_icmp .gt 66, 3) := by decide +kernel
theorem dX1_findLoop_21 : decode cX1_findLoop 21 = .ok (.aload_n 0, 1) := by decide +kernel
theorem dX1_findLoop_22 : decode cX1_findLoop 22 = .ok (.getfield 9, 3) := by decide +kernel
theorem dX1_findLoop_25 : decode cX1_findLoop 25 = .ok (.iload 5, 2) := by decide +kernel
theorem dX1_findLoop_27 : decode cX1_findLoop 27 = .ok (.aload_n 1, 1) := by decide +kernel
theorem dX1_findLoop_28 : decode cX1_findLoop 28 = .ok (.aload_n 0, 1) := by decide +kernel
theorem dX1_findLoop_29 : decode cX1_findLoop 29 = .ok (.getfield 9, 3) := by decide +kernel
theorem dX1_findLoop_32 : decode cX1_findLoop 32 = .ok (.iload 5, 2) := by decide +kernel
theorem dX1_findLoop_34 : decode cX1_findLoop 34 = .ok (.iconst 1, 1) := by decide +kernel
theorem dX1_findLoop_35 : decode cX1_findLoop 35 = .ok (.isub, 1) := by decide +kernel
theorem dX1_findLoop_36 : decode cX1_findLoop 36 = .ok (.laload, 1) := by decide +kernel
theorem dX1_findLoop_37 : decode cX1_findLoop 37 = .ok (.invokevirtual 38, 3) := by decide +kernel
theorem dX1_findLoop_40 : decode cX1_findLoop 40 = .ok (.lastore, 1) := by decide +kernel
theorem dX1_findLoop_41 : decode cX1_findLoop 41 = .ok (.aload_n 0, 1) := by decide +kernel
theorem dX1_findLoop_42 : decode cX1_findLoop 42 = .ok (.getfield 9, 3) := by decide +kernel
theorem dX1_findLoop_45 : decode cX1_findLoop 45 = .ok (.iload 5, 2) := by decide +kernel
theorem dX1_findLoop_47 : decode cX1_findLoop 47 = .ok (.laload, 1) := by decide +kernel
theorem dX1_findLoop_48 : decode cX1_findLoop 48 = .ok (.aload_n 0, 1) := by decide +kernel
theorem dX1_findLoop_49 : decode cX1_findLoop 49 = .ok (.getfield 9, 3) := by decide +kernel
theorem dX1_findLoop_52 : decode cX1_findLoop 52 = .ok (.iload 4, 2) := by decide +kernel
theorem dX1_findLoop_54 : decode cX1_findLoop 54 = .ok (.laload, 1) := by decide +kernel
theorem dX1_findLoop_55 : decode cX1_findLoop 55 = .ok (.lcmp, 1) := by decide +kernel
theorem dX1_findLoop_56 : decode cX1_findLoop 56 = .ok (.ifCond .ne 9, 3) := by decide +kernel
theorem dX1_findLoop_59 : decode cX1_findLoop 59 = .ok (.iload 5, 2) := by decide +kernel
theorem dX1_findLoop_61 : decode cX1_findLoop 61 = .ok (.iload 4, 2) := by decide +kernel
theorem dX1_findLoop_63 : decode cX1_findLoop 63 = .ok (.isub, 1) := by decide +kernel
theorem dX1_findLoop_64 : decode cX1_findLoop 64 = .ok (.ireturn, 1) := by decide +kernel
theorem dX1_findLoop_65 : decode cX1_findLoop 65 = .ok (.iload 5, 2) := by decide +kernel
theorem dX1_findLoop_67 : decode cX1_findLoop 67 = .ok (.iconst 2, 1) := by decide +kernel
theorem dX1_findLoop_68 : decode cX1_findLoop 68 = .ok (.iload 4, 2) := by decide +kernel
theorem dX1_findLoop_70 : decode cX1_findLoop 70 = .ok (.imul, 1) := by decide +kernel
theorem dX1_findLoop_71 : decode cX1_findLoop 71 = .ok (.if_icmp .lt 7, 3) := by decide +kernel
theorem dX1_findLoop_74 : decode cX1_findLoop 74 = .ok (.iload 5, 2) := by decide +kernel
theorem dX1_findLoop_76 : decode cX1_findLoop 76 = .ok (.istore 4, 2) := by decide +kernel
theorem dX1_findLoop_78 : decode cX1_findLoop 78 = .ok (.iinc 5 1, 3) := by decide +kernel
theorem dX1_findLoop_81 : decode cX1_findLoop 81 = .ok (.goto (-68), 3) := by decide +kernel
theorem dX1_findLoop_84 : decode cX1_findLoop 84 = .ok (.sipush 2999, 3) := by decide +kernel
theorem dX1_findLoop_87 : decode cX1_findLoop 87 = .ok (.istore 5, 2) := by decide +kernel
theorem dX1_findLoop_89 : decode cX1_findLoop 89 = .ok (.iload 5, 2) := by decide +kernel
theorem dX1_findLoop_91 : decode cX1_findLoop 91 = .ok (.ifCond .lt 35, 3) := by decide +kernel
theorem dX1_findLoop_94 : decode cX1_findLoop 94 = .ok (.aload_n 0, 1) := by decide +kernel
theorem dX1_findLoop_95 : decode cX1_findLoop 95 = .ok (.getfield 9, 3) := by decide +kernel
theorem dX1_findLoop_98 : decode cX1_findLoop 98 = .ok (.iload 5, 2) := by decide +kernel
theorem dX1_findLoop_100 : decode cX1_findLoop 100 = .ok (.laload, 1) := by decide +kernel
theorem dX1_findLoop_101 : decode cX1_findLoop 101 = .ok (.aload_n 0, 1) := by decide +kernel
theorem dX1_findLoop_102 : decode cX1_findLoop 102 = .ok (.getfield 9, 3) := by decide +kernel
theorem dX1_findLoop_105 : decode cX1_findLoop 105 = .ok (.sipush 3000, 3) := by decide +kernel
theorem dX1_findLoop_108 : decode cX1_findLoop 108 = .ok (.laload, 1) := by decide +kernel
theorem dX1_findLoop_109 : decode cX1_findLoop 109 = .ok (.lcmp, 1) := by decide +kernel
theorem dX1_findLoop_110 : decode cX1_findLoop 110 = .ok (.ifCond .ne 10, 3) := by decide +kernel
theorem dX1_findLoop_113 : decode cX1_findLoop 113 = .ok (.sipush 3000, 3) := by decide +kernel
theorem dX1_findLoop_116 : decode cX1_findLoop 116 = .ok (.iload 5, 2) := by decide +kernel
theorem dX1_findLoop_118 : decode cX1_findLoop 118 = .ok (.isub, 1) := by decide +kernel
theorem dX1_findLoop_119 : decode cX1_findLoop 119 = .ok (.ireturn, 1) := by decide +kernel
theorem dX1_findLoop_120 : decode cX1_findLoop 120 = .ok (.iinc 5 (-1), 3) := by decide +kernel
theorem dX1_findLoop_123 : decode cX1_findLoop 123 = .ok (.goto (-34), 3) := by decide +kernel
theorem dX1_findLoop_126 : decode cX1_findLoop 126 = .ok (.iconst (-1), 1) := by decide +kernel
theorem dX1_findLoop_127 : decode cX1_findLoop 127 = .ok (.ireturn, 1) := by decide +kernel
theorem dX1_follow_0 : decode cX1_follow 0 = .ok (.aload_n 0, 1) := by decide +kernel
theorem dX1_follow_1 : decode cX1_follow 1 = .ok (.getfield 9, 3) := by decide +kernel
theorem dX1_follow_4 : decode cX1_follow 4 = .ok (.arraylength, 1) := by decide +kernel
theorem dX1_follow_5 : decode cX1_follow 5 = .ok (.ifCond .ne 12, 3) := by decide +kernel
theorem dX1_follow_8 : decode cX1_follow 8 = .ok (.aload_n 0, 1) := by decide +kernel
theorem dX1_follow_9 : decode cX1_follow 9 = .ok (.sipush 3001, 3) := by decide +kernel
theorem dX1_follow_12 : decode cX1_follow 12 = .ok (.newarray .long, 2) := by decide +kernel
theorem dX1_follow_14 : decode cX1_follow 14 = .ok (.putfield 9, 3) := by decide +kernel
theorem dX1_follow_17 : decode cX1_follow 17 = .ok (.aload_n 0, 1) := by decide +kernel
theorem dX1_follow_18 : decode cX1_follow 18 = .ok (.aload_n 0, 1) := by decide +kernel
theorem dX1_follow_19 : decode cX1_follow 19 = .ok (.aload_n 1, 1) := by decide +kernel
theorem dX1_follow_20 : decode cX1_follow 20 = .ok (.lload_n 2, 1) := by decide +kernel
theorem dX1_follow_21 : decode cX1_follow 21 = .ok (.invokevirtual 34, 3) := by decide +kernel
theorem dX1_follow_24 : decode cX1_follow 24 = .ok (.putfield 23, 3) := by decide +kernel
theorem dX1_follow_27 : decode cX1_follow 27 = .ok (.aload_n 0, 1) := by decide +kernel
theorem dX1_follow_28 : decode cX1_follow 28 = .ok (.iconst 0, 1) := by decide +kernel
theorem dX1_follow_29 : decode cX1_follow 29 = .ok (.putfield 19, 3) := by decide +kernel
theorem dX1_follow_32 : decode cX1_follow 32 = .ok (.aload_n 0, 1) := by decide +kernel
theorem dX1_follow_33 : decode cX1_follow 33 = .ok (.getfield 23, 3) := by decide +kernel
theorem dX1_follow_36 : decode cX1_follow 36 = .ok (.iconst (-1), 1) := by decide +kernel
theorem dX1_follow_37 : decode cX1_follow 37 = .ok (.if_icmp .eq 58, 3) := by decide +kernel
theorem dX1_follow_40 : decode cX1_follow 40 = .ok (.aload_n 0, 1) := by decide +kernel
theorem dX1_follow_41 : decode cX1_follow 41 = .ok (.getfield 19, 3) := by decide +kernel
theorem dX1_follow_44 : decode cX1_follow 44 = .ok (.aload_n 0, 1) := by decide +kernel
theorem dX1_follow_45 : decode cX1_follow 45 = .ok (.getfield 23, 3) := by decide +kernel
theorem dX1_follow_48 : decode cX1_follow 48 = .ok (.iadd, 1) := by decide +kernel
theorem dX1_follow_49 : decode cX1_follow 49 = .ok (.sipush 3000, 3) := by decide +kernel
theorem dX1_follow_52 : decode cX1_follow 52 = .ok (.if_icmp .ge 43, 3) := by decide +kernel
theorem dX1_follow_55 : decode cX1_follow 55 = .ok (.aload_n 0, 1) := by decide +kernel
theorem dX1_follow_56 : decode cX1_follow 56 = .ok (.getfield 9, 3) := by decide +kernel
theorem dX1_follow_59 : decode cX1_follow 59 = .ok (.aload_n 0, 1) := by decide +kernel
theorem dX1_follow_60 : decode cX1_follow 60 = .ok (.getfield 19, 3) := by decide +kernel
theorem dX1_follow_63 : decode cX1_follow 63 = .ok (.laload, 1) := by decide +kernel
theorem dX1_follow_64 : decode cX1_follow 64 = .ok (.aload_n 0, 1) := by decide +kernel
theorem dX1_follow_65 : decode cX1_follow 65 = .ok (.getfield 9, 3) := by decide +kernel
theorem dX1_follow_68 : decode cX1_follow 68 = .ok (.aload_n 0, 1) := by decide +kernel
theorem dX1_follow_69 : decode cX1_follow 69 = .ok (.getfield 19, 3) := by decide +kernel
theorem dX1_follow_72 : decode cX1_follow 72 = .ok (.aload_n 0, 1) := by decide +kernel
theorem dX1_follow_73 : decode cX1_follow 73 = .ok (.getfield 23, 3) := by decide +kernel
theorem dX1_follow_76 : decode cX1_follow 76 = .ok (.iadd, 1) := by decide +kernel
theorem dX1_follow_77 : decode cX1_follow 77 = .ok (.laload, 1) := by decide +kernel
theorem dX1_follow_78 : decode cX1_follow 78 = .ok (.lcmp, 1) := by decide +kernel
theorem dX1_follow_79 : decode cX1_follow 79 = .ok (.ifCond .eq 16, 3) := by decide +kernel
theorem dX1_follow_82 : decode cX1_follow 82 = .ok (.aload_n 0, 1) := by decide +kernel
theorem dX1_follow_83 : decode cX1_follow 83 = .ok (.dup, 1) := by decide +kernel
theorem dX1_follow_84 : decode cX1_follow 84 = .ok (.getfield 19, 3) := by decide +kernel
theorem dX1_follow_87 : decode cX1_follow 87 = .ok (.iconst 1, 1) := by decide +kernel
theorem dX1_follow_88 : decode cX1_follow 88 = .ok (.iadd, 1) := by decide +kernel
theorem dX1_follow_89 : decode cX1_follow 89 = .ok (.putfield 19, 3) := by decide +kernel
theorem dX1_follow_92 : decode cX1_follow 92 = .ok (.goto (-60), 3) := by decide +kernel
theorem dX1_follow_95 : decode cX1_follow 95 = .ok (.return_, 1) := by decide +kernel
theorem dX1_comesRound_0 : decode cX1_comesRound 0 = .ok (.aload_n 0, 1) := by decide +kernel
theorem dX1_comesRound_1 : decode cX1_comesRound 1 = .ok (.getfield 15, 3) := by decide +kernel
theorem dX1_comesRound_4 : decode cX1_comesRound 4 = .ok (.ifCond .eq 12, 3) := by decide +kernel
theorem dX1_comesRound_7 : decode cX1_comesRound 7 = .ok (.aload_n 0, 1) := by decide +kernel
theorem dX1_comesRound_8 : decode cX1_comesRound 8 = .ok (.getfield 26, 3) := by decide +kernel
theorem dX1_comesRound_11 : decode cX1_comesRound 11 = .ok (.lload_n 2, 1) := by decide +kernel
theorem dX1_comesRound_12 : decode cX1_comesRound 12 = .ok (.lcmp, 1) := by decide +kernel
theorem dX1_comesRound_13 : decode cX1_comesRound 13 = .ok (.ifCond .eq 19, 3) := by decide +kernel
theorem dX1_comesRound_16 : decode cX1_comesRound 16 = .ok (.aload_n 0, 1) := by decide +kernel
theorem dX1_comesRound_17 : decode cX1_comesRound 17 = .ok (.aload_n 1, 1) := by decide +kernel
theorem dX1_comesRound_18 : decode cX1_comesRound 18 = .ok (.lload_n 2, 1) := by decide +kernel
theorem dX1_comesRound_19 : decode cX1_comesRound 19 = .ok (.invokevirtual 30, 3) := by decide +kernel
theorem dX1_comesRound_22 : decode cX1_comesRound 22 = .ok (.aload_n 0, 1) := by decide +kernel
theorem dX1_comesRound_23 : decode cX1_comesRound 23 = .ok (.iconst 1, 1) := by decide +kernel
theorem dX1_comesRound_24 : decode cX1_comesRound 24 = .ok (.putfield 15, 3) := by decide +kernel
theorem dX1_comesRound_27 : decode cX1_comesRound 27 = .ok (.aload_n 0, 1) := by decide +kernel
theorem dX1_comesRound_28 : decode cX1_comesRound 28 = .ok (.lload_n 2, 1) := by decide +kernel
theorem dX1_comesRound_29 : decode cX1_comesRound 29 = .ok (.putfield 26, 3) := by decide +kernel
theorem dX1_comesRound_32 : decode cX1_comesRound 32 = .ok (.aload_n 0, 1) := by decide +kernel
theorem dX1_comesRound_33 : decode cX1_comesRound 33 = .ok (.getfield 23, 3) := by decide +kernel
theorem dX1_comesRound_36 : decode cX1_comesRound 36 = .ok (.iconst (-1), 1) := by decide +kernel
theorem dX1_comesRound_37 : decode cX1_comesRound 37 = .ok (.if_icmp .eq 7, 3) := by decide +kernel
theorem dX1_comesRound_40 : decode cX1_comesRound 40 = .ok (.iconst 1, 1) := by decide +kernel
theorem dX1_comesRound_41 : decode cX1_comesRound 41 = .ok (.goto 4, 3) := by decide +kernel
theorem dX1_comesRound_44 : decode cX1_comesRound 44 = .ok (.iconst 0, 1) := by decide +kernel
theorem dX1_comesRound_45 : decode cX1_comesRound 45 = .ok (.ireturn, 1) := by decide +kernel
theorem dX1_tail_0 : decode cX1_tail 0 = .ok (.aload_n 0, 1) := by decide +kernel
theorem dX1_tail_1 : decode cX1_tail 1 = .ok (.getfield 19, 3) := by decide +kernel
theorem dX1_tail_4 : decode cX1_tail 4 = .ok (.ireturn, 1) := by decide +kernel
theorem dX1_loop_0 : decode cX1_loop 0 = .ok (.aload_n 0, 1) := by decide +kernel
theorem dX1_loop_1 : decode cX1_loop 1 = .ok (.getfield 23, 3) := by decide +kernel
theorem dX1_loop_4 : decode cX1_loop 4 = .ok (.ireturn, 1) := by decide +kernel
theorem dX9_round_0 : decode cX9_round 0 = .ok (.iload_n 1, 1) := by decide +kernel
theorem dX9_round_1 : decode cX9_round 1 = .ok (.ifCond .eq 10, 3) := by decide +kernel
theorem dX9_round_4 : decode cX9_round 4 = .ok (.iload_n 1, 1) := by decide +kernel
theorem dX9_round_5 : decode cX9_round 5 = .ok (.iconst 1, 1) := by decide +kernel
theorem dX9_round_6 : decode cX9_round 6 = .ok (.if_icmp .eq 5, 3) := by decide +kernel
theorem dX9_round_9 : decode cX9_round 9 = .ok (.iconst (-1), 1) := by decide +kernel
theorem dX9_round_10 : decode cX9_round 10 = .ok (.ireturn, 1) := by decide +kernel
theorem dX9_round_11 : decode cX9_round 11 = .ok (.aload_n 0, 1) := by decide +kernel
theorem dX9_round_12 : decode cX9_round 12 = .ok (.getfield 67, 3) := by decide +kernel
theorem dX9_round_15 : decode cX9_round 15 = .ok (.aload_n 0, 1) := by decide +kernel
theorem dX9_round_16 : decode cX9_round 16 = .ok (.getfield 27, 3) := by decide +kernel
theorem dX9_round_19 : decode cX9_round 19 = .ok (.aload_n 0, 1) := by decide +kernel
theorem dX9_round_20 : decode cX9_round 20 = .ok (.getfield 43, 3) := by decide +kernel
theorem dX9_round_23 : decode cX9_round 23 = .ok (.invokevirtual 151, 3) := by decide +kernel
theorem dX9_round_26 : decode cX9_round 26 = .ok (.invokevirtual 198, 3) := by decide +kernel
theorem dX9_round_29 : decode cX9_round 29 = .ok (.ifCond .ne 6, 3) := by decide +kernel
theorem dX9_round_32 : decode cX9_round 32 = .ok (.bipush (-2), 2) := by decide +kernel
theorem dX9_round_34 : decode cX9_round 34 = .ok (.ireturn, 1) := by decide +kernel
theorem dX9_round_35 : decode cX9_round 35 = .ok (.iload_n 1, 1) := by decide +kernel
theorem dX9_round_36 : decode cX9_round 36 = .ok (.ifCond .ne 13, 3) := by decide +kernel
theorem dX9_round_39 : decode cX9_round 39 = .ok (.aload_n 0, 1) := by decide +kernel
theorem dX9_round_40 : decode cX9_round 40 = .ok (.getfield 67, 3) := by decide +kernel
theorem dX9_round_43 : decode cX9_round 43 = .ok (.invokevirtual 202, 3) := by decide +kernel
theorem dX9_round_46 : decode cX9_round 46 = .ok (.goto 10, 3) := by decide +kernel
theorem dX9_round_49 : decode cX9_round 49 = .ok (.aload_n 0, 1) := by decide +kernel
theorem dX9_round_50 : decode cX9_round 50 = .ok (.getfield 67, 3) := by decide +kernel
theorem dX9_round_53 : decode cX9_round 53 = .ok (.invokevirtual 205, 3) := by decide +kernel
theorem dX9_round_56 : decode cX9_round 56 = .ok (.ireturn, 1) := by decide +kernel
theorem dX5_seek_0 : decode cX5_seek 0 = .ok (.aload_n 0, 1) := by decide +kernel
theorem dX5_seek_1 : decode cX5_seek 1 = .ok (.aload_n 1, 1) := by decide +kernel
theorem dX5_seek_2 : decode cX5_seek 2 = .ok (.putfield 22, 3) := by decide +kernel
theorem dX5_seek_5 : decode cX5_seek 5 = .ok (.aload_n 0, 1) := by decide +kernel
theorem dX5_seek_6 : decode cX5_seek 6 = .ok (.lload_n 2, 1) := by decide +kernel
theorem dX5_seek_7 : decode cX5_seek 7 = .ok (.putfield 36, 3) := by decide +kernel
theorem dX5_seek_10 : decode cX5_seek 10 = .ok (.aload_n 0, 1) := by decide +kernel
theorem dX5_seek_11 : decode cX5_seek 11 = .ok (.lconst 0, 1) := by decide +kernel
theorem dX5_seek_12 : decode cX5_seek 12 = .ok (.putfield 15, 3) := by decide +kernel
theorem dX5_seek_15 : decode cX5_seek 15 = .ok (.aload_n 0, 1) := by decide +kernel
theorem dX5_seek_16 : decode cX5_seek 16 = .ok (.ldc2_w 39, 3) := by decide +kernel
theorem dX5_seek_19 : decode cX5_seek 19 = .ok (.putfield 19, 3) := by decide +kernel
theorem dX5_seek_22 : decode cX5_seek 22 = .ok (.aload_n 0, 1) := by decide +kernel
theorem dX5_seek_23 : decode cX5_seek 23 = .ok (.getfield 9, 3) := by decide +kernel
theorem dX5_seek_26 : decode cX5_seek 26 = .ok (.arraylength, 1) := by decide +kernel
theorem dX5_seek_27 : decode cX5_seek 27 = .ok (.ifCond .ne 12, 3) := by decide +kernel
theorem dX5_seek_30 : decode cX5_seek 30 = .ok (.aload_n 0, 1) := by decide +kernel
theorem dX5_seek_31 : decode cX5_seek 31 = .ok (.sipush 480, 3) := by decide +kernel
theorem dX5_seek_34 : decode cX5_seek 34 = .ok (.newarray .long, 2) := by decide +kernel
theorem dX5_seek_36 : decode cX5_seek 36 = .ok (.putfield 9, 3) := by decide +kernel
theorem dX5_seek_39 : decode cX5_seek 39 = .ok (.aload_n 1, 1) := by decide +kernel
theorem dX5_seek_40 : decode cX5_seek 40 = .ok (.getfield 26, 3) := by decide +kernel
theorem dX5_seek_43 : decode cX5_seek 43 = .ok (.ifCond .ne 11, 3) := by decide +kernel
theorem dX5_seek_46 : decode cX5_seek 46 = .ok (.aload_n 0, 1) := by decide +kernel
theorem dX5_seek_47 : decode cX5_seek 47 = .ok (.lconst 1, 1) := by decide +kernel
theorem dX5_seek_48 : decode cX5_seek 48 = .ok (.putfield 15, 3) := by decide +kernel
theorem dX5_seek_51 : decode cX5_seek 51 = .ok (.goto 54, 3) := by decide +kernel
theorem dX5_seek_54 : decode cX5_seek 54 = .ok (.aload_n 1, 1) := by decide +kernel
theorem dX5_seek_55 : decode cX5_seek 55 = .ok (.getfield 41, 3) := by decide +kernel
theorem dX5_seek_58 : decode cX5_seek 58 = .ok (.ifCond .eq 10, 3) := by decide +kernel
theorem dX5_seek_61 : decode cX5_seek 61 = .ok (.aload_n 0, 1) := by decide +kernel
theorem dX5_seek_62 : decode cX5_seek 62 = .ok (.invokevirtual 45, 3) := by decide +kernel
theorem dX5_seek_65 : decode cX5_seek 65 = .ok (.goto 40, 3) := by decide +kernel
theorem dX5_seek_68 : decode cX5_seek 68 = .ok (.aload_n 0, 1) := by decide +kernel
theorem dX5_seek_69 : decode cX5_seek 69 = .ok (.aload_n 1, 1) := by decide +kernel
theorem dX5_seek_70 : decode cX5_seek 70 = .ok (.getfield 48, 3) := by decide +kernel
theorem dX5_seek_73 : decode cX5_seek 73 = .ok (.iconst (-1), 1) := by decide +kernel
theorem dX5_seek_74 : decode cX5_seek 74 = .ok (.invokevirtual 51, 3) := by decide +kernel
theorem dX5_seek_77 : decode cX5_seek 77 = .ok (.iconst 0, 1) := by decide +kernel
theorem dX5_seek_78 : decode cX5_seek 78 = .ok (.istore 4, 2) := by decide +kernel
theorem dX5_seek_80 : decode cX5_seek 80 = .ok (.iload 4, 2) := by decide +kernel
theorem dX5_seek_82 : decode cX5_seek 82 = .ok (.aload_n 1, 1) := by decide +kernel
theorem dX5_seek_83 : decode cX5_seek 83 = .ok (.getfield 55, 3) := by decide +kernel
theorem dX5_seek_86 : decode cX5_seek 86 = .ok (.if_icmp .ge 19, 3) := by decide +kernel
theorem dX5_seek_89 : decode cX5_seek 89 = .ok (.aload_n 0, 1) := by decide +kernel
theorem dX5_seek_90 : decode cX5_seek 90 = .ok (.aload_n 1, 1) := by decide +kernel
theorem dX5_seek_91 : decode cX5_seek 91 = .ok (.getfield 48, 3) := by decide +kernel
theorem dX5_seek_94 : decode cX5_seek 94 = .ok (.iload 4, 2) := by decide +kernel
theorem dX5_seek_96 : decode cX5_seek 96 = .ok (.invokevirtual 58, 3) := by decide +kernel
theorem dX5_seek_99 : decode cX5_seek 99 = .ok (.iinc 4 1, 3) := by decide +kernel
theorem dX5_seek_102 : decode cX5_seek 102 = .ok (.goto (-22), 3) := by decide +kernel
theorem dX5_seek_105 : decode cX5_seek 105 = .ok (.return_, 1) := by decide +kernel
theorem dX5_count_0 : decode cX5_count 0 = .ok (.aload_n 0, 1) := by decide +kernel
theorem dX5_count_1 : decode cX5_count 1 = .ok (.getfield 15, 3) := by decide +kernel
theorem dX5_count_4 : decode cX5_count 4 = .ok (.lreturn, 1) := by decide +kernel
theorem dX9_before_0 : decode cX9_before 0 = .ok (.aload_n 0, 1) := by decide +kernel
theorem dX9_before_1 : decode cX9_before 1 = .ok (.getfield 57, 3) := by decide +kernel
theorem dX9_before_4 : decode cX9_before 4 = .ok (.invokevirtual 137, 3) := by decide +kernel
theorem dX9_before_7 : decode cX9_before 7 = .ok (.aload_n 0, 1) := by decide +kernel
theorem dX9_before_8 : decode cX9_before 8 = .ok (.getfield 74, 3) := by decide +kernel
theorem dX9_before_11 : decode cX9_before 11 = .ok (.aload_n 0, 1) := by decide +kernel
theorem dX9_before_12 : decode cX9_before 12 = .ok (.getfield 27, 3) := by decide +kernel
theorem dX9_before_15 : decode cX9_before 15 = .ok (.aload_n 0, 1) := by decide +kernel
theorem dX9_before_16 : decode cX9_before 16 = .ok (.getfield 43, 3) := by decide +kernel
theorem dX9_before_19 : decode cX9_before 19 = .ok (.invokevirtual 151, 3) := by decide +kernel
theorem dX9_before_22 : decode cX9_before 22 = .ok (.invokevirtual 208, 3) := by decide +kernel
theorem dX9_before_25 : decode cX9_before 25 = .ok (.aload_n 0, 1) := by decide +kernel
theorem dX9_before_26 : decode cX9_before 26 = .ok (.getfield 74, 3) := by decide +kernel
theorem dX9_before_29 : decode cX9_before 29 = .ok (.invokevirtual 212, 3) := by decide +kernel
theorem dX9_before_32 : decode cX9_before 32 = .ok (.lconst 0, 1) := by decide +kernel
theorem dX9_before_33 : decode cX9_before 33 = .ok (.lcmp, 1) := by decide +kernel
theorem dX9_before_34 : decode cX9_before 34 = .ok (.ifCond .le 37, 3) := by decide +kernel
theorem dX9_before_37 : decode cX9_before 37 = .ok (.iconst 0, 1) := by decide +kernel
theorem dX9_before_38 : decode cX9_before 38 = .ok (.istore_n 1, 1) := by decide +kernel
theorem dX9_before_39 : decode cX9_before 39 = .ok (.iload_n 1, 1) := by decide +kernel
theorem dX9_before_40 : decode cX9_before 40 = .ok (.aload_n 0, 1) := by decide +kernel
theorem dX9_before_41 : decode cX9_before 41 = .ok (.getfield 27, 3) := by decide +kernel
theorem dX9_before_44 : decode cX9_before 44 = .ok (.getfield 144, 3) := by decide +kernel
theorem dX9_before_47 : decode cX9_before 47 = .ok (.if_icmp .ge 24, 3) := by decide +kernel
theorem dX9_before_50 : decode cX9_before 50 = .ok (.aload_n 0, 1) := by decide +kernel
theorem dX9_before_51 : decode cX9_before 51 = .ok (.getfield 57, 3) := by decide +kernel
theorem dX9_before_54 : decode cX9_before 54 = .ok (.aload_n 0, 1) := by decide +kernel
theorem dX9_before_55 : decode cX9_before 55 = .ok (.getfield 74, 3) := by decide +kernel
theorem dX9_before_58 : decode cX9_before 58 = .ok (.iload_n 1, 1) := by decide +kernel
theorem dX9_before_59 : decode cX9_before 59 = .ok (.invokevirtual 215, 3) := by decide +kernel
theorem dX9_before_62 : decode cX9_before 62 = .ok (.invokevirtual 219, 3) := by decide +kernel
theorem dX9_before_65 : decode cX9_before 65 = .ok (.iinc 1 1, 3) := by decide +kernel
theorem dX9_before_68 : decode cX9_before 68 = .ok (.goto (-29), 3) := by decide +kernel
theorem dX9_before_71 : decode cX9_before 71 = .ok (.aload_n 0, 1) := by decide +kernel
theorem dX9_before_72 : decode cX9_before 72 = .ok (.getfield 74, 3) := by decide +kernel
theorem dX9_before_75 : decode cX9_before 75 = .ok (.invokevirtual 212, 3) := by decide +kernel
theorem dX9_before_78 : decode cX9_before 78 = .ok (.ldc2_w 222, 3) := by decide +kernel
theorem dX9_before_81 : decode cX9_before 81 = .ok (.invokestatic 224, 3) := by decide +kernel
theorem dX9_before_84 : decode cX9_before 84 = .ok (.lreturn, 1) := by decide +kernel
set_option maxHeartbeats 4000000 in
set_option maxRecDepth 100000 in
theorem k_X2_after (l : Launch) (D : va_G) (cyB cyI cyJ cyZ : ClassId) (sz : Nat) (dd : Nat) (w : Int64) (ds_ : List Value) (hl_ds_ : ds_.length = 15) (h_ds__1 : ds_[1]? = some (.int 0)) : KL l yX2_after cX2_after 3 0 0 0 D (TYS cyB cyI cyJ cyZ) [(dd, .inr (2, ds_))] sz [.ref dd, .long w] (fun (r : Int64) (u : Unit) => r = w) (fun (u : Unit) => ([(dd, .inr (2, ds_))] : va_W)) := by
  refine entL (by decide) (Nat.le_of_ble_eq_true rfl) ?_
  intro p e s m below meth c ls A hC hl hP hK hD hA
  obtain ⟨hx, hb, hr, hml, hown, hts, hlk, hnm⟩ := id hC
  have hS : va_S A s.heap s.heap [] := va_S.rf
  have hl : lv_has ls 3 [(0, .ref dd), (1, .long w)] := hl
  generalize hHe : s.heap = H at hP ⊢
  rw [hHe] at hS
  have hS : va_S A s.heap H [] := by rw [hHe]; exact hS
  refine lv_aload_n hx hb dX2_after_0 rfl (lv_at hl 0 rfl) ?_
  refine gf hC hK hP iX2 0 rfl rfl 1 (by decide) mw_fieldLink_RX2_15_MirrorDrill_Drill_men_I h_ds__1 dX2_after_1 ?_
  refine lv_if_ne (tgt := 11) hx hb dX2_after_4 (by decide) (fun c_1 => absurd (by decide) c_1) (fun c_1 => ?_)
  refine lv_lload_n hx hb dX2_after_7 rfl (lv_at hl 1 rfl) ?_
  refine lv_goto (tgt := 27) hx hb dX2_after_8 (by decide) ?_
  exact retL hC hP hD hS (by decide) (by decide) () [0] rfl rfl rfl dX2_after_27
set_option maxHeartbeats 4000000 in
set_option maxRecDepth 100000 in
theorem k_X2_afterBeats (l : Launch) (D : va_G) (cyB cyI cyJ cyZ : ClassId) (sz : Nat) (dd : Nat) (p0 : Int32) (ds_ : List Value) (k : Nat) (hl_ds_ : ds_.length = 15) (h_ds__1 : ds_[1]? = some (.int 0)) (hk : k ≤ 500) (ek : p0 = nI k) : KL l yX2_afterBeats cX2_afterBeats 7 1 0 0 D (TYS cyB cyI cyJ cyZ) [(dd, .inr (2, ds_))] sz [.ref dd, .long 0, .int p0] (fun (r : Int64) (u : Unit) => r = 0) (fun (u : Unit) => ([(dd, .inr (2, ds_))] : va_W)) := by
  refine entL (by decide) (Nat.le_of_ble_eq_true rfl) ?_
  intro p e s m below meth c ls A hC hl hP hK hD hA
  obtain ⟨hx, hb, hr, hml, hown, hts, hlk, hnm⟩ := id hC
  have hS : va_S A s.heap s.heap [] := va_S.rf
  have hl : lv_has ls 7 [(0, .ref dd), (1, .long 0), (3, .int p0)] := hl
  generalize hHe : s.heap = H at hP ⊢
  rw [hHe] at hS
  have hS : va_S A s.heap H [] := by rw [hHe]; exact hS
  refine lv_lload_n hx hb dX2_afterBeats_0 rfl (lv_at hl 1 rfl) ?_
  refine lv_lstore (lv' := [(4, .long 0), (0, .ref dd), (1, .long 0), (3, .int p0)]) hx hb dX2_afterBeats_1 hl (by decide) rfl (fun ls hl => ?_)
  refine lv_iconst (v := 0) hx hb dX2_afterBeats_3 (by decide) ?_
  refine lv_istore (lv' := [(6, .int 0), (4, .long 0), (0, .ref dd), (1, .long 0), (3, .int p0)]) hx hb dX2_afterBeats_4 hl (by decide) rfl (fun ls hl => ?_)
  have lp : ∀ (n i : Nat)  (H : Heap) (locs : List Loc) (ls : Array Slot), i + n = k → lv_has ls 7 [(6, .int (nI i)), (4, .long 0), (0, .ref dd), (1, .long 0), (3, .int p0)] → va_P D classes [(dd, .inr (2, ds_))] H → va_D A [(dd, .inr (2, ds_))] → va_S A s.heap H locs → W p l e (rmK 1 0 0) s m ([.ref dd, .long 0, .int p0] : List Value).toArray below meth c H locs 0 0 (MQ below (va_Ql (fun (r : Int64) (u : Unit) => r = 0) (fun u => Aft D A ((fun (u : Unit) => ([(dd, .inr (2, ds_))] : va_W)) u)) A) ([.ref dd, .long 0, .int p0] : List Value).toArray s 0 0 A) (F0 m 6 ls []) := by
    intro n
    induction n with
    | zero =>
      intro i  H locs ls hi hl hP hD hS
      have hie : i = k := by omega
      refine lv_iload hx hb dX2_afterBeats_6 (lv_at hl 0 rfl) ?_
      refine lv_iload_n hx hb dX2_afterBeats_8 rfl (lv_at hl 4 rfl) ?_
      refine lv_icmp_ge (tgt := 26) hx hb dX2_afterBeats_9 (by decide) (fun c_1 => ?_) (fun c_1 => absurd (by rw [ek, hie]; exact Int32.le_refl _) c_1)
      refine lv_lload hx hb dX2_afterBeats_26 (lv_at hl 1 rfl) ?_
      exact retL hC hP hD hS (by decide) (by decide) () [0] rfl rfl rfl dX2_afterBeats_28
    | succ n ih =>
      intro i  H locs ls hi hl hP hD hS
      have hlt : i < k := by omega
      refine lv_iload hx hb dX2_afterBeats_6 (lv_at hl 0 rfl) ?_
      refine lv_iload_n hx hb dX2_afterBeats_8 rfl (lv_at hl 4 rfl) ?_
      refine lv_icmp_ge (tgt := 26) hx hb dX2_afterBeats_9 (by decide) (fun c_2 => absurd c_2 (by rw [ek]; exact nI_ge hlt (by omega))) (fun c_2 => ?_)
      refine lv_aload_n hx hb dX2_afterBeats_12 rfl (lv_at hl 2 rfl) ?_
      refine lv_lload hx hb dX2_afterBeats_13 (lv_at hl 1 rfl) ?_
      refine aftL (wr := []) (runV hC hK hP hD hl.1 (k_X2_after l D cyB cyI cyJ cyZ H.size dd 0 ds_ hl_ds_ h_ds__1) cV_X2_after mw_methodLink_RX2_119_yX2_after [0] rfl rfl 0 rfl rfl rfl rfl rfl (Nat.le_of_ble_eq_true rfl) ⟨by decide, by decide⟩ ⟨by decide, by decide⟩ dX2_afterBeats_15) hP hD hS hA [0] [] rfl rfl rfl (by decide) (fun r_3 u_3 H locs hw_3 hP hD hS => ?_)
      have hr_3 := hw_3
      refine lv_cstL (v := 0) hr_3 ?_
      have hP : va_P D classes [(dd, .inr (2, ds_))] H := hP
      have hD : va_D A [(dd, .inr (2, ds_))] := hD
      refine W.widen (k := 0) (n := 0) (by decide) (by decide) ?_
      refine lv_lstore (lv' := [(4, .long 0), (6, .int (nI i)), (0, .ref dd), (1, .long 0), (3, .int p0)]) hx hb dX2_afterBeats_18 hl (by decide) rfl (fun ls hl => ?_)
      refine lv_iinc (v := (nI (i + 1))) (lv' := [(6, .int (nI (i + 1))), (4, .long 0), (0, .ref dd), (1, .long 0), (3, .int p0)]) hx hb dX2_afterBeats_20 hl (k := 1) rfl (nI_1 _) (by decide) rfl (fun ls hl => ?_)
      refine lv_goto (tgt := 6) hx hb dX2_afterBeats_23 (by decide) ?_
      exact ih (i + 1)  _ _ _ (by omega) (lv_sub hl [0, 1, 2, 3, 4] rfl) hP hD hS
  exact lp k 0  _ _ _ (by omega) hl hP hD hS
set_option maxHeartbeats 4000000 in
set_option maxRecDepth 100000 in
theorem k_X3_act (l : Launch) (D : va_G) (cyB cyI cyJ cyZ : ClassId) (sz : Nat) (ea : Nat) (w : Int64) (v : Int32) (fe_ : List Value) (er : Nat) (eb : Nat) (fer : Nat → Int64) (feb : Nat → Int32) (hl_fe_ : fe_.length = 4) (h_fe__0 : fe_[0]? = some (.ref er)) (h_fe__1 : fe_[1]? = some (.ref eb)) (h_fe__2 : fe_[2]? = some (.int 0)) : KV l yX3_act cX3_act 4 0 0 0 D (TYS cyB cyI cyJ cyZ) [(ea, .inr (3, fe_)), (er, .inl (cyJ, 41, .inr (.inl fer))), (eb, .inl (cyI, 41, .inl feb))] sz [.ref ea, .long w, .int v] (fun (u : (Nat → Int64) × (Nat → Int32)) => u.2 1 = v) (fun (u : (Nat → Int64) × (Nat → Int32)) => ([(ea, .inr (3, ((fe_.set 2 (.int 1)).set 3 (.int 1)))), (er, .inl (cyJ, 41, .inr (.inl u.1))), (eb, .inl (cyI, 41, .inl u.2))] : va_W)) := by
  refine entV (by decide) (Nat.le_of_ble_eq_true rfl) ?_
  intro p e s m below meth c ls A hC hl hP hK hD hA
  obtain ⟨hx, hb, hr, hml, hown, hts, hlk, hnm⟩ := id hC
  have hS : va_S A s.heap s.heap [] := va_S.rf
  have hl : lv_has ls 4 [(0, .ref ea), (1, .long w), (3, .int v)] := hl
  generalize hHe : s.heap = H at hP ⊢
  rw [hHe] at hS
  have hS : va_S A s.heap H [] := by rw [hHe]; exact hS
  refine lv_aload_n hx hb dX3_act_0 rfl (lv_at hl 0 rfl) ?_
  refine gf hC hK hP iX3 0 rfl rfl 2 (by decide) mw_fieldLink_RX3_19_MirrorDrill_Earnest_now_I h_fe__2 dX3_act_1 ?_
  refine lv_bipush (v := 40) hx hb dX3_act_4 (by decide) ?_
  refine lv_icmp_ge (tgt := 22) hx hb dX3_act_6 (by decide) (fun c_1 => absurd c_1 (by decide)) (fun c_1 => ?_)
  refine lv_aload_n hx hb dX3_act_9 rfl (lv_at hl 0 rfl) ?_
  refine lv_dup hx hb dX3_act_10 rfl ?_
  refine gf hC hK hP iX3 0 rfl rfl 2 (by decide) mw_fieldLink_RX3_19_MirrorDrill_Earnest_now_I h_fe__2 dX3_act_11 ?_
  refine lv_iconst (v := 1) hx hb dX3_act_14 (by decide) ?_
  refine lv_iadd hx hb dX3_act_15 ?_
  refine lv_cst (v := 1) (by decide) ?_
  refine pf (v := .int 1) hC hK hP hD hS iX3 tyX3_ok nmX3 0 rfl rfl 2 (by decide) mw_fieldLink_RX3_19_MirrorDrill_Earnest_now_I rfl rfl rfl (ln_lt hl_fe_ (by decide)) dX3_act_16 (fun H locs hP hD hS => ?_)
  have hP : va_P D classes [(ea, .inr (3, (fe_.set 2 (.int 1)))), (er, .inl (cyJ, 41, .inr (.inl fer))), (eb, .inl (cyI, 41, .inl feb))] H := hP
  have hD : va_D A [(ea, .inr (3, (fe_.set 2 (.int 1)))), (er, .inl (cyJ, 41, .inr (.inl fer))), (eb, .inl (cyI, 41, .inl feb))] := hD
  refine lv_goto (tgt := 52) hx hb dX3_act_19 (by decide) ?_
  refine lv_aload_n hx hb dX3_act_52 rfl (lv_at hl 0 rfl) ?_
  refine gf hC hK hP iX3 0 rfl rfl 0 (by decide) mw_fieldLink_RX3_9_MirrorDrill_Earnest_rows_J (gs_ne (by decide) h_fe__0) dX3_act_53 ?_
  refine lv_aload_n hx hb dX3_act_56 rfl (lv_at hl 0 rfl) ?_
  refine gf hC hK hP iX3 0 rfl rfl 2 (by decide) mw_fieldLink_RX3_19_MirrorDrill_Earnest_now_I (gs_eq (ln_lt hl_fe_ (by decide))) dX3_act_57 ?_
  refine lv_lload_n hx hb dX3_act_60 rfl (lv_at hl 1 rfl) ?_
  refine va_last hx hb hK hP hD hS 1 2 rfl rfl (vin (by decide)) dX3_act_61 (fun H locs hP hD hS => ?_)
  obtain ⟨f_2, ef_2⟩ : ∃ g : Nat → Int64, g = vp_updL fer ((1 : Int32).toNatClampNeg) w := ⟨_, rfl⟩
  rw [← ef_2] at hP hD
  have hP : va_P D classes [(ea, .inr (3, (fe_.set 2 (.int 1)))), (er, .inl (cyJ, 41, .inr (.inl f_2))), (eb, .inl (cyI, 41, .inl feb))] H := hP
  have hD : va_D A [(ea, .inr (3, (fe_.set 2 (.int 1)))), (er, .inl (cyJ, 41, .inr (.inl f_2))), (eb, .inl (cyI, 41, .inl feb))] := hD
  refine lv_aload_n hx hb dX3_act_62 rfl (lv_at hl 0 rfl) ?_
  refine gf hC hK hP iX3 0 rfl rfl 1 (by decide) mw_fieldLink_RX3_15_MirrorDrill_Earnest_beatsThen_I (gs_ne (by decide) h_fe__1) dX3_act_63 ?_
  refine lv_aload_n hx hb dX3_act_66 rfl (lv_at hl 0 rfl) ?_
  refine gf hC hK hP iX3 0 rfl rfl 2 (by decide) mw_fieldLink_RX3_19_MirrorDrill_Earnest_now_I (gs_eq (ln_lt hl_fe_ (by decide))) dX3_act_67 ?_
  refine lv_iload_n hx hb dX3_act_70 rfl (lv_at hl 2 rfl) ?_
  refine va_iast hx hb hK hP hD hS 2 1 rfl rfl (vin (by decide)) dX3_act_71 (fun H locs hP hD hS => ?_)
  obtain ⟨f_3, ef_3⟩ : ∃ g : Nat → Int32, g = upd feb ((1 : Int32).toNatClampNeg) v := ⟨_, rfl⟩
  rw [← ef_3] at hP hD
  have hP : va_P D classes [(ea, .inr (3, (fe_.set 2 (.int 1)))), (er, .inl (cyJ, 41, .inr (.inl f_2))), (eb, .inl (cyI, 41, .inl f_3))] H := hP
  have hD : va_D A [(ea, .inr (3, (fe_.set 2 (.int 1)))), (er, .inl (cyJ, 41, .inr (.inl f_2))), (eb, .inl (cyI, 41, .inl f_3))] := hD
  refine lv_aload_n hx hb dX3_act_72 rfl (lv_at hl 0 rfl) ?_
  refine lv_aload_n hx hb dX3_act_73 rfl (lv_at hl 0 rfl) ?_
  refine gf hC hK hP iX3 0 rfl rfl 2 (by decide) mw_fieldLink_RX3_19_MirrorDrill_Earnest_now_I (gs_eq (ln_lt hl_fe_ (by decide))) dX3_act_74 ?_
  refine pf (v := .int 1) hC hK hP hD hS iX3 tyX3_ok nmX3 0 rfl rfl 3 (by decide) mw_fieldLink_RX3_23_MirrorDrill_Earnest_last_I rfl rfl rfl (ln_lt (ln_set hl_fe_) (by decide)) dX3_act_77 (fun H locs hP hD hS => ?_)
  have hP : va_P D classes [(ea, .inr (3, ((fe_.set 2 (.int 1)).set 3 (.int 1)))), (er, .inl (cyJ, 41, .inr (.inl f_2))), (eb, .inl (cyI, 41, .inl f_3))] H := hP
  have hD : va_D A [(ea, .inr (3, ((fe_.set 2 (.int 1)).set 3 (.int 1)))), (er, .inl (cyJ, 41, .inr (.inl f_2))), (eb, .inl (cyI, 41, .inl f_3))] := hD
  exact retV hC hP hD hS (by decide) (by decide) (f_2, f_3) [0, 1, 2] rfl rfl (show f_3 1 = v from by rw [ef_3]; exact us_at (by decide)) dX3_act_80
set_option maxHeartbeats 4000000 in
set_option maxRecDepth 100000 in
theorem k_X9_run (l : Launch) (D : va_G) (cyB cyI cyJ cyZ : ClassId) (sz : Nat) (h0 : Nat) (p0 : Int32) (fs : List Value) (dd : Nat) (ea : Nat) (ds_ : List Value) (fe_ : List Value) (er : Nat) (eb : Nat) (fer : Nat → Int64) (feb : Nat → Int32) (hl_fs : fs.length = 17) (h_fs_3 : fs[3]? = some (.ref dd)) (h_fs_7 : fs[7]? = some (.ref ea)) (hl_ds_ : ds_.length = 15) (h_ds__1 : ds_[1]? = some (.int 0)) (hl_fe_ : fe_.length = 4) (h_fe__0 : fe_[0]? = some (.ref er)) (h_fe__1 : fe_[1]? = some (.ref eb)) (h_fe__2 : fe_[2]? = some (.int 0)) (h_fer_0 : fer 0 = 0) (h_feb_0 : feb 0 = 0) : KI l yX9_run cX9_run 2 .int 2 0 0 D (TYS cyB cyI cyJ cyZ) [(h0, .inr (9, fs)), (dd, .inr (2, ds_)), (ea, .inr (3, fe_)), (er, .inl (cyJ, 41, .inr (.inl fer))), (eb, .inl (cyI, 41, .inl feb))] sz [.ref h0, .int p0] (fun (r : Int32) (u : Unit) => r = sp_run p0) (fun (u : Unit) => ([] : va_W)) := by
  refine entI (by decide) (Nat.le_of_ble_eq_true rfl) ?_
  intro p e s m below meth c ls A hC hl hP hK hD hA
  obtain ⟨hx, hb, hr, hml, hown, hts, hlk, hnm⟩ := id hC
  have hS : va_S A s.heap s.heap [] := va_S.rf
  have hl : lv_has ls 2 [(0, .ref h0), (1, .int p0)] := hl
  generalize hHe : s.heap = H at hP ⊢
  rw [hHe] at hS
  have hS : va_S A s.heap H [] := by rw [hHe]; exact hS
  refine lv_iload_n hx hb dX9_run_0 rfl (lv_at hl 1 rfl) ?_
  refine lv_if_lt (tgt := 25) hx hb dX9_run_1 (by decide) (fun c_1 => ?_) (fun c_1 => ?_)
  · refine lv_iconst (v := (-1)) hx hb dX9_run_25 (by decide) ?_
    exact retI hC hP hD hS (by decide) (by decide) () [] rfl rfl (by have z0 := zt_lt c_1; have y0 : ((-1) : Int32).toInt = (-1) := (by decide); have y1 : (0 : Int32).toInt = 0 := (by decide); have y2 : (500 : Int32).toInt = 500 := (by decide); unfold sp_run; (repeat' split) <;> first | rfl | (exact Int32.zero_add _) | (exfalso; omega)) dX9_run_26
  · refine lv_iload_n hx hb dX9_run_4 rfl (lv_at hl 1 rfl) ?_
    refine lv_sipush (v := 500) hx hb dX9_run_5 (by decide) ?_
    refine lv_icmp_gt (tgt := 25) hx hb dX9_run_8 (by decide) (fun c_2 => ?_) (fun c_2 => ?_)
    · refine lv_iconst (v := (-1)) hx hb dX9_run_25 (by decide) ?_
      exact retI hC hP hD hS (by decide) (by decide) () [] rfl rfl (by have z0 := zt_nlt c_1; have z1 := zt_lt c_2; have y0 : ((-1) : Int32).toInt = (-1) := (by decide); have y1 : (0 : Int32).toInt = 0 := (by decide); have y2 : (500 : Int32).toInt = 500 := (by decide); unfold sp_run; (repeat' split) <;> first | rfl | (exact Int32.zero_add _) | (exfalso; omega)) dX9_run_26
    · refine lv_aload_n hx hb dX9_run_11 rfl (lv_at hl 0 rfl) ?_
      refine gf hC hK hP iX9 0 rfl rfl 7 (by decide) mw_fieldLink_RX9_43_MirrorDrill_earnest_LMirrorDrill_Earnest h_fs_7 dX9_run_12 ?_
      refine aftI (wr := [(h0, .inr (9, fs)), (dd, .inr (2, ds_)), (er, .inl (cyJ, 41, .inr (.inl fer)))]) (runV hC hK hP hD hl.1 (k_X3_beats l D cyB cyI cyJ cyZ H.size ea fe_ eb feb hl_fe_ h_fe__1 h_fe__2 h_feb_0) cV_X3_beats mw_methodLink_RX9_173_yX3_beats [2, 4] rfl rfl 2 rfl rfl rfl rfl rfl (Nat.le_of_ble_eq_true rfl) ⟨by decide, by decide⟩ ⟨by decide, by decide⟩ dX9_run_15) hP hD hS hA [2, 4] [0, 1, 3] rfl rfl rfl (by decide) (fun r_3 u_3 H locs hw_3 hP hD hS => ?_)
      have hr_3 := hw_3
      refine lv_cst (v := 0) hr_3 ?_
      have hP : va_P D classes [(h0, .inr (9, fs)), (dd, .inr (2, ds_)), (er, .inl (cyJ, 41, .inr (.inl fer))), (ea, .inr (3, fe_)), (eb, .inl (cyI, 41, .inl feb))] H := hP
      have hD : va_D A [(h0, .inr (9, fs)), (dd, .inr (2, ds_)), (er, .inl (cyJ, 41, .inr (.inl fer))), (ea, .inr (3, fe_)), (eb, .inl (cyI, 41, .inl feb))] := hD
      refine W.widen (k := 0) (n := 0) (by decide) (by decide) ?_
      refine lv_iload_n hx hb dX9_run_18 rfl (lv_at hl 1 rfl) ?_
      refine lv_iadd hx hb dX9_run_19 ?_
      refine lv_cst (v := p0) (Int32.zero_add _) ?_
      refine lv_ldc (v := 100000) hx hb hown (hts _ mw_constant_RX9_176_100000) dX9_run_20 ?_
      refine lv_icmp_le (tgt := 27) hx hb dX9_run_22 (by decide) (fun c_4 => ?_) (fun c_4 => absurd (Int32.not_lt.mp (fun h => by have z0 := zt_nlt c_1; have z1 := zt_nlt c_2; have y0 : ((-1) : Int32).toInt = (-1) := (by decide); have y1 : (0 : Int32).toInt = 0 := (by decide); have y2 : (500 : Int32).toInt = 500 := (by decide); have y3 : (100000 : Int32).toInt = 100000 := (by decide); have zz := zt_lt h; (try rw [Int32.zero_add] at zz); omega)) c_4)
      refine lv_aload_n hx hb dX9_run_27 rfl (lv_at hl 0 rfl) ?_
      refine gf hC hK hP iX9 0 rfl rfl 7 (by decide) mw_fieldLink_RX9_43_MirrorDrill_earnest_LMirrorDrill_Earnest h_fs_7 dX9_run_28 ?_
      refine lv_aload_n hx hb dX9_run_31 rfl (lv_at hl 0 rfl) ?_
      refine gf hC hK hP iX9 0 rfl rfl 3 (by decide) mw_fieldLink_RX9_27_MirrorDrill_drill_LMirrorDrill_Drill h_fs_3 dX9_run_32 ?_
      refine lv_aload_n hx hb dX9_run_35 rfl (lv_at hl 0 rfl) ?_
      refine gf hC hK hP iX9 0 rfl rfl 7 (by decide) mw_fieldLink_RX9_43_MirrorDrill_earnest_LMirrorDrill_Earnest h_fs_7 dX9_run_36 ?_
      refine aftL (wr := [(h0, .inr (9, fs)), (dd, .inr (2, ds_)), (eb, .inl (cyI, 41, .inl feb))]) (runV hC hK hP hD hl.1 (k_X3_row l D cyB cyI cyJ cyZ H.size ea fe_ er fer hl_fe_ h_fe__0 h_fe__2 h_fer_0) cV_X3_row mw_methodLink_RX9_151_yX3_row [3, 2] rfl rfl 3 rfl rfl rfl rfl rfl (Nat.le_of_ble_eq_true rfl) ⟨by decide, by decide⟩ ⟨by decide, by decide⟩ dX9_run_39) hP hD hS hA [3, 2] [0, 1, 4] rfl rfl rfl (by decide) (fun r_5 u_5 H locs hw_5 hP hD hS => ?_)
      have hr_5 := hw_5
      refine lv_cstL (v := 0) hr_5 ?_
      have hP : va_P D classes [(h0, .inr (9, fs)), (dd, .inr (2, ds_)), (eb, .inl (cyI, 41, .inl feb)), (ea, .inr (3, fe_)), (er, .inl (cyJ, 41, .inr (.inl fer)))] H := hP
      have hD : va_D A [(h0, .inr (9, fs)), (dd, .inr (2, ds_)), (eb, .inl (cyI, 41, .inl feb)), (ea, .inr (3, fe_)), (er, .inl (cyJ, 41, .inr (.inl fer)))] := hD
      refine W.widen (k := 0) (n := 0) (by decide) (by decide) ?_
      refine lv_iload_n hx hb dX9_run_42 rfl (lv_at hl 1 rfl) ?_
      obtain ⟨k, hk, ek⟩ := nI_of2 (M := 500) (n := 500) (by decide) (fun h => by have z0 := zt_nlt c_1; have z1 := zt_nlt c_2; have y0 : ((-1) : Int32).toInt = (-1) := (by decide); have y1 : (0 : Int32).toInt = 0 := (by decide); have y2 : (500 : Int32).toInt = 500 := (by decide); have zz := zt_lt h; omega : ¬ p0 < 0) (zu_le (by have z0 := zt_nlt c_1; have z1 := zt_nlt c_2; have y0 : ((-1) : Int32).toInt = (-1) := (by decide); have y1 : (0 : Int32).toInt = 0 := (by decide); have y2 : (500 : Int32).toInt = 500 := (by decide); omega))
      refine aftL (wr := [(h0, .inr (9, fs)), (eb, .inl (cyI, 41, .inl feb)), (ea, .inr (3, fe_)), (er, .inl (cyJ, 41, .inr (.inl fer)))]) (runV hC hK hP hD hl.1 (k_X2_afterBeats l D cyB cyI cyJ cyZ H.size dd p0 ds_ k hl_ds_ h_ds__1 hk ek) cV_X2_afterBeats mw_methodLink_RX9_177_yX2_afterBeats [1] rfl rfl 1 rfl rfl rfl rfl rfl (Nat.le_of_ble_eq_true rfl) ⟨by decide, by decide⟩ ⟨by decide, by decide⟩ dX9_run_43) hP hD hS hA [1] [0, 2, 3, 4] rfl rfl rfl (by decide) (fun r_6 u_6 H locs hw_6 hP hD hS => ?_)
      have hr_6 := hw_6
      refine lv_cstL (v := 0) hr_6 ?_
      have hP : va_P D classes [(h0, .inr (9, fs)), (eb, .inl (cyI, 41, .inl feb)), (ea, .inr (3, fe_)), (er, .inl (cyJ, 41, .inr (.inl fer))), (dd, .inr (2, ds_))] H := hP
      have hD : va_D A [(h0, .inr (9, fs)), (eb, .inl (cyI, 41, .inl feb)), (ea, .inr (3, fe_)), (er, .inl (cyJ, 41, .inr (.inl fer))), (dd, .inr (2, ds_))] := hD
      refine W.widen (k := 0) (n := 0) (by decide) (by decide) ?_
      refine lv_aload_n hx hb dX9_run_46 rfl (lv_at hl 0 rfl) ?_
      refine gf hC hK hP iX9 0 rfl rfl 7 (by decide) mw_fieldLink_RX9_43_MirrorDrill_earnest_LMirrorDrill_Earnest h_fs_7 dX9_run_47 ?_
      refine aftI (wr := [(h0, .inr (9, fs)), (er, .inl (cyJ, 41, .inr (.inl fer))), (dd, .inr (2, ds_))]) (runV hC hK hP hD hl.1 (k_X3_beats l D cyB cyI cyJ cyZ H.size ea fe_ eb feb hl_fe_ h_fe__1 h_fe__2 h_feb_0) cV_X3_beats mw_methodLink_RX9_173_yX3_beats [2, 1] rfl rfl 2 rfl rfl rfl rfl rfl (Nat.le_of_ble_eq_true rfl) ⟨by decide, by decide⟩ ⟨by decide, by decide⟩ dX9_run_50) hP hD hS hA [2, 1] [0, 3, 4] rfl rfl rfl (by decide) (fun r_7 u_7 H locs hw_7 hP hD hS => ?_)
      have hr_7 := hw_7
      refine lv_cst (v := 0) hr_7 ?_
      have hP : va_P D classes [(h0, .inr (9, fs)), (er, .inl (cyJ, 41, .inr (.inl fer))), (dd, .inr (2, ds_)), (ea, .inr (3, fe_)), (eb, .inl (cyI, 41, .inl feb))] H := hP
      have hD : va_D A [(h0, .inr (9, fs)), (er, .inl (cyJ, 41, .inr (.inl fer))), (dd, .inr (2, ds_)), (ea, .inr (3, fe_)), (eb, .inl (cyI, 41, .inl feb))] := hD
      refine W.widen (k := 0) (n := 0) (by decide) (by decide) ?_
      refine lv_iload_n hx hb dX9_run_53 rfl (lv_at hl 1 rfl) ?_
      refine lv_iadd hx hb dX9_run_54 ?_
      refine lv_cst (v := p0) (Int32.zero_add _) ?_
      refine aftV (wr := [(h0, .inr (9, fs)), (dd, .inr (2, ds_))]) (runV hC hK hP hD hl.1 (k_X3_act l D cyB cyI cyJ cyZ H.size ea 0 p0 fe_ er eb fer feb hl_fe_ h_fe__0 h_fe__1 h_fe__2) cV_X3_act mw_methodLink_RX9_181_yX3_act [3, 1, 4] rfl rfl 3 rfl rfl rfl rfl rfl (Nat.le_of_ble_eq_true rfl) ⟨by decide, by decide⟩ ⟨by decide, by decide⟩ dX9_run_55) hP hD hS hA [3, 1, 4] [0, 2] rfl rfl rfl (by decide) (fun u_8 H locs hw_8 hP hD hS => ?_)
      obtain ⟨ger_8, geb_8⟩ := u_8
      try dsimp only at hw_8
      have h_geb_1_8 := hw_8
      have hP : va_P D classes [(h0, .inr (9, fs)), (dd, .inr (2, ds_)), (ea, .inr (3, ((fe_.set 2 (.int 1)).set 3 (.int 1)))), (er, .inl (cyJ, 41, .inr (.inl ger_8))), (eb, .inl (cyI, 41, .inl geb_8))] H := hP
      have hD : va_D A [(h0, .inr (9, fs)), (dd, .inr (2, ds_)), (ea, .inr (3, ((fe_.set 2 (.int 1)).set 3 (.int 1)))), (er, .inl (cyJ, 41, .inr (.inl ger_8))), (eb, .inl (cyI, 41, .inl geb_8))] := hD
      refine W.widen (k := 0) (n := 0) (by decide) (by decide) ?_
      refine lv_aload_n hx hb dX9_run_58 rfl (lv_at hl 0 rfl) ?_
      refine gf hC hK hP iX9 0 rfl rfl 7 (by decide) mw_fieldLink_RX9_43_MirrorDrill_earnest_LMirrorDrill_Earnest h_fs_7 dX9_run_59 ?_
      refine aftI (wr := [(h0, .inr (9, fs)), (dd, .inr (2, ds_)), (er, .inl (cyJ, 41, .inr (.inl ger_8)))]) (runV hC hK hP hD hl.1 (k_X3_beats1 l D cyB cyI cyJ cyZ H.size ea ((fe_.set 2 (.int 1)).set 3 (.int 1)) eb geb_8 p0 (ln_set (ln_set hl_fe_)) (gs_ne (by decide) (gs_ne (by decide) h_fe__1)) (gs_ne (by decide) (gs_eq (ln_lt hl_fe_ (by decide)))) h_geb_1_8) cV_X3_beats mw_methodLink_RX9_173_yX3_beats [2, 4] rfl rfl 2 rfl rfl rfl rfl rfl (Nat.le_of_ble_eq_true rfl) ⟨by decide, by decide⟩ ⟨by decide, by decide⟩ dX9_run_62) hP hD hS hA [2, 4] [0, 1, 3] rfl rfl rfl (by decide) (fun r_9 u_9 H locs hw_9 hP hD hS => ?_)
      have hr_9 := hw_9
      refine lv_cst (v := p0) hr_9 ?_
      have hP : va_P D classes [(h0, .inr (9, fs)), (dd, .inr (2, ds_)), (er, .inl (cyJ, 41, .inr (.inl ger_8))), (ea, .inr (3, ((fe_.set 2 (.int 1)).set 3 (.int 1)))), (eb, .inl (cyI, 41, .inl geb_8))] H := hP
      have hD : va_D A [(h0, .inr (9, fs)), (dd, .inr (2, ds_)), (er, .inl (cyJ, 41, .inr (.inl ger_8))), (ea, .inr (3, ((fe_.set 2 (.int 1)).set 3 (.int 1)))), (eb, .inl (cyI, 41, .inl geb_8))] := hD
      refine W.widen (k := 0) (n := 0) (by decide) (by decide) ?_
      exact retI hC hP hD hS (by decide) (by decide) () [] rfl rfl (by have z0 := zt_nlt c_1; have z1 := zt_nlt c_2; have y0 : ((-1) : Int32).toInt = (-1) := (by decide); have y1 : (0 : Int32).toInt = 0 := (by decide); have y2 : (500 : Int32).toInt = 500 := (by decide); unfold sp_run; (repeat' split) <;> first | rfl | (exact Int32.zero_add _) | (exfalso; omega)) dX9_run_65
set_option maxHeartbeats 4000000 in
set_option maxRecDepth 100000 in
theorem k_X1_findLoop (l : Launch) (D : va_G) (cyB cyI cyJ cyZ : ClassId) (sz : Nat) (cs : Nat) (dd : Nat) (fc_ : List Value) (cr : Nat) (fcr : Nat → Int64) (ds_ : List Value) (hl_fc_ : fc_.length = 5) (h_fc__0 : fc_[0]? = some (.ref cr)) (hl_ds_ : ds_.length = 15) (h_ds__1 : ds_[1]? = some (.int 0)) : KI l yX1_findLoop cX1_findLoop 6 .int 1 0 0 D (TYS cyB cyI cyJ cyZ) [(cs, .inr (1, fc_)), (cr, .inl (cyJ, 3001, .inr (.inl fcr))), (dd, .inr (2, ds_))] sz [.ref cs, .ref dd, .long 0] (fun (r : Int32) (u : (Nat → Int64)) => r = 1 ∧ u 0 = 0 ∧ u 1 = 0) (fun (u : (Nat → Int64)) => ([(cs, .inr (1, fc_)), (cr, .inl (cyJ, 3001, .inr (.inl u))), (dd, .inr (2, ds_))] : va_W)) := by
  refine entI (by decide) (Nat.le_of_ble_eq_true rfl) ?_
  intro p e s m below meth c ls A hC hl hP hK hD hA
  obtain ⟨hx, hb, hr, hml, hown, hts, hlk, hnm⟩ := id hC
  have hS : va_S A s.heap s.heap [] := va_S.rf
  have hl : lv_has ls 6 [(0, .ref cs), (1, .ref dd), (2, .long 0)] := hl
  generalize hHe : s.heap = H at hP ⊢
  rw [hHe] at hS
  have hS : va_S A s.heap H [] := by rw [hHe]; exact hS
  refine lv_aload_n hx hb dX1_findLoop_0 rfl (lv_at hl 0 rfl) ?_
  refine gf hC hK hP iX1 0 rfl rfl 0 (by decide) mw_fieldLink_RX1_9_MirrorDrill_Course_rows_J h_fc__0 dX1_findLoop_1 ?_
  refine lv_iconst (v := 0) hx hb dX1_findLoop_4 (by decide) ?_
  refine lv_lload_n hx hb dX1_findLoop_5 rfl (lv_at hl 2 rfl) ?_
  refine va_last hx hb hK hP hD hS 1 2 rfl rfl (vin (by decide)) dX1_findLoop_6 (fun H locs hP hD hS => ?_)
  obtain ⟨f_1, ef_1⟩ : ∃ g : Nat → Int64, g = vp_updL fcr ((0 : Int32).toNatClampNeg) 0 := ⟨_, rfl⟩
  rw [← ef_1] at hP hD
  have hP : va_P D classes [(cs, .inr (1, fc_)), (cr, .inl (cyJ, 3001, .inr (.inl f_1))), (dd, .inr (2, ds_))] H := hP
  have hD : va_D A [(cs, .inr (1, fc_)), (cr, .inl (cyJ, 3001, .inr (.inl f_1))), (dd, .inr (2, ds_))] := hD
  refine lv_iconst (v := 0) hx hb dX1_findLoop_7 (by decide) ?_
  refine lv_istore (lv' := [(4, .int 0), (0, .ref cs), (1, .ref dd), (2, .long 0)]) hx hb dX1_findLoop_8 hl (by decide) rfl (fun ls hl => ?_)
  refine lv_iconst (v := 1) hx hb dX1_findLoop_10 (by decide) ?_
  refine lv_istore (lv' := [(5, .int 1), (4, .int 0), (0, .ref cs), (1, .ref dd), (2, .long 0)]) hx hb dX1_findLoop_11 hl (by decide) rfl (fun ls hl => ?_)
  refine lv_iload hx hb dX1_findLoop_13 (lv_at hl 0 rfl) ?_
  refine lv_sipush (v := 3000) hx hb dX1_findLoop_15 (by decide) ?_
  refine lv_icmp_gt (tgt := 84) hx hb dX1_findLoop_18 (by decide) (fun c_2 => absurd c_2 (by decide)) (fun c_2 => ?_)
  refine lv_aload_n hx hb dX1_findLoop_21 rfl (lv_at hl 2 rfl) ?_
  refine gf hC hK hP iX1 0 rfl rfl 0 (by decide) mw_fieldLink_RX1_9_MirrorDrill_Course_rows_J h_fc__0 dX1_findLoop_22 ?_
  refine lv_iload hx hb dX1_findLoop_25 (lv_at hl 0 rfl) ?_
  refine lv_aload_n hx hb dX1_findLoop_27 rfl (lv_at hl 3 rfl) ?_
  refine lv_aload_n hx hb dX1_findLoop_28 rfl (lv_at hl 2 rfl) ?_
  refine gf hC hK hP iX1 0 rfl rfl 0 (by decide) mw_fieldLink_RX1_9_MirrorDrill_Course_rows_J h_fc__0 dX1_findLoop_29 ?_
  refine lv_iload hx hb dX1_findLoop_32 (lv_at hl 0 rfl) ?_
  refine lv_iconst (v := 1) hx hb dX1_findLoop_34 (by decide) ?_
  refine lv_isub hx hb dX1_findLoop_35 ?_
  refine lv_cst (v := 0) (by decide) ?_
  refine va_lald hx hb hK hP 1 2 rfl rfl (vin (by decide)) dX1_findLoop_36 ?_
  refine lv_cstL (v := 0) (by rw [ef_1]; exact usL_at (by decide)) ?_
  refine aftL (wr := [(cs, .inr (1, fc_)), (cr, .inl (cyJ, 3001, .inr (.inl f_1)))]) (runV hC hK hP hD hl.1 (k_X2_after l D cyB cyI cyJ cyZ H.size dd 0 ds_ hl_ds_ h_ds__1) cV_X2_after mw_methodLink_RX1_38_yX2_after [2] rfl rfl 2 rfl rfl rfl rfl rfl (Nat.le_of_ble_eq_true rfl) ⟨by decide, by decide⟩ ⟨by decide, by decide⟩ dX1_findLoop_37) hP hD hS hA [2] [0, 1] rfl rfl rfl (by decide) (fun r_3 u_3 H locs hw_3 hP hD hS => ?_)
  have hr_3 := hw_3
  refine lv_cstL (v := 0) hr_3 ?_
  have hP : va_P D classes [(cs, .inr (1, fc_)), (cr, .inl (cyJ, 3001, .inr (.inl f_1))), (dd, .inr (2, ds_))] H := hP
  have hD : va_D A [(cs, .inr (1, fc_)), (cr, .inl (cyJ, 3001, .inr (.inl f_1))), (dd, .inr (2, ds_))] := hD
  refine W.widen (k := 0) (n := 0) (by decide) (by decide) ?_
  refine va_last hx hb hK hP hD hS 1 2 rfl rfl (vin (by decide)) dX1_findLoop_40 (fun H locs hP hD hS => ?_)
  obtain ⟨f_4, ef_4⟩ : ∃ g : Nat → Int64, g = vp_updL f_1 ((1 : Int32).toNatClampNeg) 0 := ⟨_, rfl⟩
  rw [← ef_4] at hP hD
  have hP : va_P D classes [(cs, .inr (1, fc_)), (cr, .inl (cyJ, 3001, .inr (.inl f_4))), (dd, .inr (2, ds_))] H := hP
  have hD : va_D A [(cs, .inr (1, fc_)), (cr, .inl (cyJ, 3001, .inr (.inl f_4))), (dd, .inr (2, ds_))] := hD
  refine lv_aload_n hx hb dX1_findLoop_41 rfl (lv_at hl 2 rfl) ?_
  refine gf hC hK hP iX1 0 rfl rfl 0 (by decide) mw_fieldLink_RX1_9_MirrorDrill_Course_rows_J h_fc__0 dX1_findLoop_42 ?_
  refine lv_iload hx hb dX1_findLoop_45 (lv_at hl 0 rfl) ?_
  refine va_lald hx hb hK hP 1 2 rfl rfl (vin (by decide)) dX1_findLoop_47 ?_
  refine lv_cstL (v := 0) (by rw [ef_4]; exact usL_at (by decide)) ?_
  refine lv_aload_n hx hb dX1_findLoop_48 rfl (lv_at hl 2 rfl) ?_
  refine gf hC hK hP iX1 0 rfl rfl 0 (by decide) mw_fieldLink_RX1_9_MirrorDrill_Course_rows_J h_fc__0 dX1_findLoop_49 ?_
  refine lv_iload hx hb dX1_findLoop_52 (lv_at hl 1 rfl) ?_
  refine va_lald hx hb hK hP 1 2 rfl rfl (vin (by decide)) dX1_findLoop_54 ?_
  refine lv_cstL (v := 0) (by rw [ef_4]; exact (unL_at (by decide)).trans (by rw [ef_1]; exact usL_at (by decide))) ?_
  refine W.lcmp hx hb dX1_findLoop_55 ?_
  refine lv_cst (v := 0) (by decide) ?_
  refine lv_if_ne (tgt := 65) hx hb dX1_findLoop_56 (by decide) (fun c_5 => absurd (by decide) c_5) (fun c_5 => ?_)
  refine lv_iload hx hb dX1_findLoop_59 (lv_at hl 0 rfl) ?_
  refine lv_iload hx hb dX1_findLoop_61 (lv_at hl 1 rfl) ?_
  refine lv_isub hx hb dX1_findLoop_63 ?_
  refine lv_cst (v := 1) (by decide) ?_
  exact retI hC hP hD hS (by decide) (by decide) f_4 [0, 1, 2] rfl rfl ⟨rfl, (show f_4 0 = 0 from by rw [ef_4]; exact (unL_at (by decide)).trans (by rw [ef_1]; exact usL_at (by decide))), (show f_4 1 = 0 from by rw [ef_4]; exact usL_at (by decide))⟩ dX1_findLoop_64
set_option maxHeartbeats 4000000 in
set_option maxRecDepth 100000 in
theorem k_X1_follow (l : Launch) (D : va_G) (cyB cyI cyJ cyZ : ClassId) (sz : Nat) (cs : Nat) (dd : Nat) (fc_ : List Value) (cr : Nat) (fcr : Nat → Int64) (ds_ : List Value) (hl_fc_ : fc_.length = 5) (h_fc__0 : fc_[0]? = some (.ref cr)) (h_fc__1 : fc_[1]? = some (.int 0)) (hl_ds_ : ds_.length = 15) (h_ds__1 : ds_[1]? = some (.int 0)) : KV l yX1_follow cX1_follow 4 2 1 3001 D (TYS cyB cyI cyJ cyZ) [(cs, .inr (1, fc_)), (cr, .inl (cyJ, 0, .inr (.inl fcr))), (dd, .inr (2, ds_))] sz [.ref cs, .ref dd, .long 0] (fun (u : List Value × Nat) => u.1.length = 5 ∧ u.1[0]? = some (.ref u.2) ∧ u.1[3]? = some (.int 0) ∧ u.1[4]? = some (.int 1)) (fun (u : List Value × Nat) => ([(cs, .inr (1, u.1)), (dd, .inr (2, ds_))] : va_W)) := by
  refine entV (by decide) (Nat.le_of_ble_eq_true rfl) ?_
  intro p e s m below meth c ls A hC hl hP hK hD hA
  obtain ⟨hx, hb, hr, hml, hown, hts, hlk, hnm⟩ := id hC
  have hS : va_S A s.heap s.heap [] := va_S.rf
  have hl : lv_has ls 4 [(0, .ref cs), (1, .ref dd), (2, .long 0)] := hl
  generalize hHe : s.heap = H at hP ⊢
  rw [hHe] at hS
  have hS : va_S A s.heap H [] := by rw [hHe]; exact hS
  refine lv_aload_n hx hb dX1_follow_0 rfl (lv_at hl 0 rfl) ?_
  refine gf hC hK hP iX1 0 rfl rfl 0 (by decide) mw_fieldLink_RX1_9_MirrorDrill_Course_rows_J h_fc__0 dX1_follow_1 ?_
  refine va_alen (v := 0) hx hb hK hP 1 2 rfl rfl rfl dX1_follow_4 ?_
  refine lv_if_ne (tgt := 17) hx hb dX1_follow_5 (by decide) (fun c_1 => absurd (by decide) c_1) (fun c_1 => ?_)
  refine lv_aload_n hx hb dX1_follow_8 rfl (lv_at hl 0 rfl) ?_
  refine lv_sipush (v := 3001) hx hb dX1_follow_9 (by decide) ?_
  refine nwJ (N := 3001) hC mw_arrayClass_long hK hP hD hS hA (by decide) (by decide) (by decide) (by decide) (by decide) dX1_follow_12 (fun q2 H hP hD hS => ?_)
  have hP : va_P D classes [(cs, .inr (1, fc_)), (cr, .inl (cyJ, 0, .inr (.inl fcr))), (dd, .inr (2, ds_)), (q2, .inl (cyJ, 3001, .inr (.inl (fun _ => 0))))] H := hP
  have hD : va_D A [(cs, .inr (1, fc_)), (cr, .inl (cyJ, 0, .inr (.inl fcr))), (dd, .inr (2, ds_)), (q2, .inl (cyJ, 3001, .inr (.inl (fun _ => 0))))] := hD
  refine W.widen (k := 1) (n := 3001) (by decide) (by decide) ?_
  refine pf (v := .ref q2) hC hK hP hD hS iX1 tyX1_ok nmX1 0 rfl rfl 0 (by decide) mw_fieldLink_RX1_9_MirrorDrill_Course_rows_J rfl rfl rfl (ln_lt hl_fc_ (by decide)) dX1_follow_14 (fun H locs hP hD hS => ?_)
  have hP : va_P D classes [(cs, .inr (1, (fc_.set 0 (.ref q2)))), (cr, .inl (cyJ, 0, .inr (.inl fcr))), (dd, .inr (2, ds_)), (q2, .inl (cyJ, 3001, .inr (.inl (fun _ => 0))))] H := hP
  have hD : va_D A [(cs, .inr (1, (fc_.set 0 (.ref q2)))), (cr, .inl (cyJ, 0, .inr (.inl fcr))), (dd, .inr (2, ds_)), (q2, .inl (cyJ, 3001, .inr (.inl (fun _ => 0))))] := hD
  refine lv_aload_n hx hb dX1_follow_17 rfl (lv_at hl 0 rfl) ?_
  refine lv_aload_n hx hb dX1_follow_18 rfl (lv_at hl 0 rfl) ?_
  refine lv_aload_n hx hb dX1_follow_19 rfl (lv_at hl 1 rfl) ?_
  refine lv_lload_n hx hb dX1_follow_20 rfl (lv_at hl 2 rfl) ?_
  refine aftI (wr := [(cr, .inl (cyJ, 0, .inr (.inl fcr)))]) (runV hC hK hP hD hl.1 (k_X1_findLoop l D cyB cyI cyJ cyZ H.size cs dd (fc_.set 0 (.ref q2)) q2 (fun _ => 0) ds_ (ln_set hl_fc_) (gs_eq (ln_lt hl_fc_ (by decide))) hl_ds_ h_ds__1) cV_X1_findLoop mw_methodLink_RX1_34_yX1_findLoop [0, 3, 2] rfl rfl 0 rfl rfl rfl rfl rfl (Nat.le_of_ble_eq_true rfl) ⟨by decide, by decide⟩ ⟨by decide, by decide⟩ dX1_follow_21) hP hD hS hA [0, 3, 2] [1] rfl rfl rfl (by decide) (fun r_3 u_3 H locs hw_3 hP hD hS => ?_)
  obtain ⟨gcr_3, rfl⟩ : ∃ z, z = u_3 := ⟨_, rfl⟩
  try dsimp only at hw_3
  obtain ⟨hr_3, h_gcr_0_3, h_gcr_1_3⟩ := hw_3
  refine lv_cst (v := 1) hr_3 ?_
  have hP : va_P D classes [(cr, .inl (cyJ, 0, .inr (.inl fcr))), (cs, .inr (1, (fc_.set 0 (.ref q2)))), (q2, .inl (cyJ, 3001, .inr (.inl gcr_3))), (dd, .inr (2, ds_))] H := hP
  have hD : va_D A [(cr, .inl (cyJ, 0, .inr (.inl fcr))), (cs, .inr (1, (fc_.set 0 (.ref q2)))), (q2, .inl (cyJ, 3001, .inr (.inl gcr_3))), (dd, .inr (2, ds_))] := hD
  refine W.widen (k := 1) (n := 3001) (by decide) (by decide) ?_
  refine pf (v := .int 1) hC hK hP hD hS iX1 tyX1_ok nmX1 1 rfl rfl 4 (by decide) mw_fieldLink_RX1_23_MirrorDrill_Course_loop_I rfl rfl rfl (ln_lt (ln_set hl_fc_) (by decide)) dX1_follow_24 (fun H locs hP hD hS => ?_)
  have hP : va_P D classes [(cr, .inl (cyJ, 0, .inr (.inl fcr))), (cs, .inr (1, ((fc_.set 0 (.ref q2)).set 4 (.int 1)))), (q2, .inl (cyJ, 3001, .inr (.inl gcr_3))), (dd, .inr (2, ds_))] H := hP
  have hD : va_D A [(cr, .inl (cyJ, 0, .inr (.inl fcr))), (cs, .inr (1, ((fc_.set 0 (.ref q2)).set 4 (.int 1)))), (q2, .inl (cyJ, 3001, .inr (.inl gcr_3))), (dd, .inr (2, ds_))] := hD
  refine lv_aload_n hx hb dX1_follow_27 rfl (lv_at hl 0 rfl) ?_
  refine lv_iconst (v := 0) hx hb dX1_follow_28 (by decide) ?_
  refine pf (v := .int 0) hC hK hP hD hS iX1 tyX1_ok nmX1 1 rfl rfl 3 (by decide) mw_fieldLink_RX1_19_MirrorDrill_Course_tail_I rfl rfl rfl (ln_lt (ln_set (ln_set hl_fc_)) (by decide)) dX1_follow_29 (fun H locs hP hD hS => ?_)
  have hP : va_P D classes [(cr, .inl (cyJ, 0, .inr (.inl fcr))), (cs, .inr (1, (((fc_.set 0 (.ref q2)).set 4 (.int 1)).set 3 (.int 0)))), (q2, .inl (cyJ, 3001, .inr (.inl gcr_3))), (dd, .inr (2, ds_))] H := hP
  have hD : va_D A [(cr, .inl (cyJ, 0, .inr (.inl fcr))), (cs, .inr (1, (((fc_.set 0 (.ref q2)).set 4 (.int 1)).set 3 (.int 0)))), (q2, .inl (cyJ, 3001, .inr (.inl gcr_3))), (dd, .inr (2, ds_))] := hD
  refine lv_aload_n hx hb dX1_follow_32 rfl (lv_at hl 0 rfl) ?_
  refine gf hC hK hP iX1 1 rfl rfl 4 (by decide) mw_fieldLink_RX1_23_MirrorDrill_Course_loop_I (gs_ne (by decide) (gs_eq (ln_lt (ln_set hl_fc_) (by decide)))) dX1_follow_33 ?_
  refine lv_iconst (v := (-1)) hx hb dX1_follow_36 (by decide) ?_
  refine lv_icmp_eq (tgt := 95) hx hb dX1_follow_37 (by decide) (fun c_4 => absurd c_4 (by decide)) (fun c_4 => ?_)
  refine lv_aload_n hx hb dX1_follow_40 rfl (lv_at hl 0 rfl) ?_
  refine gf hC hK hP iX1 1 rfl rfl 3 (by decide) mw_fieldLink_RX1_19_MirrorDrill_Course_tail_I (gs_eq (ln_lt (ln_set (ln_set hl_fc_)) (by decide))) dX1_follow_41 ?_
  refine lv_aload_n hx hb dX1_follow_44 rfl (lv_at hl 0 rfl) ?_
  refine gf hC hK hP iX1 1 rfl rfl 4 (by decide) mw_fieldLink_RX1_23_MirrorDrill_Course_loop_I (gs_ne (by decide) (gs_eq (ln_lt (ln_set hl_fc_) (by decide)))) dX1_follow_45 ?_
  refine lv_iadd hx hb dX1_follow_48 ?_
  refine lv_cst (v := 1) (by decide) ?_
  refine lv_sipush (v := 3000) hx hb dX1_follow_49 (by decide) ?_
  refine lv_icmp_ge (tgt := 95) hx hb dX1_follow_52 (by decide) (fun c_5 => absurd c_5 (by decide)) (fun c_5 => ?_)
  refine lv_aload_n hx hb dX1_follow_55 rfl (lv_at hl 0 rfl) ?_
  refine gf hC hK hP iX1 1 rfl rfl 0 (by decide) mw_fieldLink_RX1_9_MirrorDrill_Course_rows_J (gs_ne (by decide) (gs_ne (by decide) (gs_eq (ln_lt hl_fc_ (by decide))))) dX1_follow_56 ?_
  refine lv_aload_n hx hb dX1_follow_59 rfl (lv_at hl 0 rfl) ?_
  refine gf hC hK hP iX1 1 rfl rfl 3 (by decide) mw_fieldLink_RX1_19_MirrorDrill_Course_tail_I (gs_eq (ln_lt (ln_set (ln_set hl_fc_)) (by decide))) dX1_follow_60 ?_
  refine va_lald hx hb hK hP 2 2 rfl rfl (vin (by decide)) dX1_follow_63 ?_
  refine lv_cstL (v := 0) (h_gcr_0_3) ?_
  refine lv_aload_n hx hb dX1_follow_64 rfl (lv_at hl 0 rfl) ?_
  refine gf hC hK hP iX1 1 rfl rfl 0 (by decide) mw_fieldLink_RX1_9_MirrorDrill_Course_rows_J (gs_ne (by decide) (gs_ne (by decide) (gs_eq (ln_lt hl_fc_ (by decide))))) dX1_follow_65 ?_
  refine lv_aload_n hx hb dX1_follow_68 rfl (lv_at hl 0 rfl) ?_
  refine gf hC hK hP iX1 1 rfl rfl 3 (by decide) mw_fieldLink_RX1_19_MirrorDrill_Course_tail_I (gs_eq (ln_lt (ln_set (ln_set hl_fc_)) (by decide))) dX1_follow_69 ?_
  refine lv_aload_n hx hb dX1_follow_72 rfl (lv_at hl 0 rfl) ?_
  refine gf hC hK hP iX1 1 rfl rfl 4 (by decide) mw_fieldLink_RX1_23_MirrorDrill_Course_loop_I (gs_ne (by decide) (gs_eq (ln_lt (ln_set hl_fc_) (by decide)))) dX1_follow_73 ?_
  refine lv_iadd hx hb dX1_follow_76 ?_
  refine lv_cst (v := 1) (by decide) ?_
  refine va_lald hx hb hK hP 2 2 rfl rfl (vin (by decide)) dX1_follow_77 ?_
  refine lv_cstL (v := 0) (h_gcr_1_3) ?_
  refine W.lcmp hx hb dX1_follow_78 ?_
  refine lv_cst (v := 0) (by decide) ?_
  refine lv_if_eq (tgt := 95) hx hb dX1_follow_79 (by decide) (fun c_6 => ?_) (fun c_6 => absurd (by decide) c_6)
  exact retV hC hP hD hS (by decide) (by decide) ((((fc_.set 0 (.ref q2)).set 4 (.int 1)).set 3 (.int 0)), q2) [1, 3] rfl rfl ⟨(ln_set (ln_set (ln_set hl_fc_))), (gs_ne (by decide) (gs_ne (by decide) (gs_eq (ln_lt hl_fc_ (by decide))))), (gs_eq (ln_lt (ln_set (ln_set hl_fc_)) (by decide))), (gs_ne (by decide) (gs_eq (ln_lt (ln_set hl_fc_) (by decide))))⟩ dX1_follow_95
set_option maxHeartbeats 4000000 in
set_option maxRecDepth 100000 in
theorem k_X1_comesRound (l : Launch) (D : va_G) (cyB cyI cyJ cyZ : ClassId) (sz : Nat) (cs : Nat) (dd : Nat) (fc_ : List Value) (cr : Nat) (fcr : Nat → Int64) (ds_ : List Value) (hl_fc_ : fc_.length = 5) (h_fc__0 : fc_[0]? = some (.ref cr)) (h_fc__1 : fc_[1]? = some (.int 0)) (hl_ds_ : ds_.length = 15) (h_ds__1 : ds_[1]? = some (.int 0)) : KI l yX1_comesRound cX1_comesRound 4 .boolean 3 1 3001 D (TYS cyB cyI cyJ cyZ) [(cs, .inr (1, fc_)), (cr, .inl (cyJ, 0, .inr (.inl fcr))), (dd, .inr (2, ds_))] sz [.ref cs, .ref dd, .long 0] (fun (r : Int32) (u : List Value) => r = 1 ∧ u.length = 5 ∧ u[3]? = some (.int 0) ∧ u[4]? = some (.int 1)) (fun (u : List Value) => ([(cs, .inr (1, u))] : va_W)) := by
  refine entI (by decide) (Nat.le_of_ble_eq_true rfl) ?_
  intro p e s m below meth c ls A hC hl hP hK hD hA
  obtain ⟨hx, hb, hr, hml, hown, hts, hlk, hnm⟩ := id hC
  have hS : va_S A s.heap s.heap [] := va_S.rf
  have hl : lv_has ls 4 [(0, .ref cs), (1, .ref dd), (2, .long 0)] := hl
  generalize hHe : s.heap = H at hP ⊢
  rw [hHe] at hS
  have hS : va_S A s.heap H [] := by rw [hHe]; exact hS
  refine lv_aload_n hx hb dX1_comesRound_0 rfl (lv_at hl 0 rfl) ?_
  refine gf hC hK hP iX1 0 rfl rfl 1 (by decide) mw_fieldLink_RX1_15_MirrorDrill_Course_known_Z h_fc__1 dX1_comesRound_1 ?_
  refine lv_if_eq (tgt := 16) hx hb dX1_comesRound_4 (by decide) (fun c_1 => ?_) (fun c_1 => absurd (by decide) c_1)
  refine lv_aload_n hx hb dX1_comesRound_16 rfl (lv_at hl 0 rfl) ?_
  refine lv_aload_n hx hb dX1_comesRound_17 rfl (lv_at hl 1 rfl) ?_
  refine lv_lload_n hx hb dX1_comesRound_18 rfl (lv_at hl 2 rfl) ?_
  refine aftV (wr := []) (runV hC hK hP hD hl.1 (k_X1_follow l D cyB cyI cyJ cyZ H.size cs dd fc_ cr fcr ds_ hl_fc_ h_fc__0 h_fc__1 hl_ds_ h_ds__1) cV_X1_follow mw_methodLink_RX1_30_yX1_follow [0, 1, 2] rfl rfl 0 rfl rfl rfl rfl rfl (Nat.le_of_ble_eq_true rfl) ⟨by decide, by decide⟩ ⟨by decide, by decide⟩ dX1_comesRound_19) hP hD hS hA [0, 1, 2] [] rfl rfl rfl (by decide) (fun u_2 H locs hw_2 hP hD hS => ?_)
  obtain ⟨gc__2, cq_2⟩ := u_2
  try dsimp only at hw_2
  obtain ⟨hl_gc__2, h_gc__0_2, h_gc__3_2, h_gc__4_2⟩ := hw_2
  have hP : va_P D classes [(cs, .inr (1, gc__2)), (dd, .inr (2, ds_))] H := hP
  have hD : va_D A [(cs, .inr (1, gc__2)), (dd, .inr (2, ds_))] := hD
  refine W.widen (k := 1) (n := 3001) (by decide) (by decide) ?_
  refine lv_aload_n hx hb dX1_comesRound_22 rfl (lv_at hl 0 rfl) ?_
  refine lv_iconst (v := 1) hx hb dX1_comesRound_23 (by decide) ?_
  refine pf (v := .int 1) hC hK hP hD hS iX1 tyX1_ok nmX1 0 rfl rfl 1 (by decide) mw_fieldLink_RX1_15_MirrorDrill_Course_known_Z rfl rfl rfl (ln_lt hl_gc__2 (by decide)) dX1_comesRound_24 (fun H locs hP hD hS => ?_)
  have hP : va_P D classes [(cs, .inr (1, (gc__2.set 1 (.int 1)))), (dd, .inr (2, ds_))] H := hP
  have hD : va_D A [(cs, .inr (1, (gc__2.set 1 (.int 1)))), (dd, .inr (2, ds_))] := hD
  refine lv_aload_n hx hb dX1_comesRound_27 rfl (lv_at hl 0 rfl) ?_
  refine lv_lload_n hx hb dX1_comesRound_28 rfl (lv_at hl 2 rfl) ?_
  refine pf (v := .long 0) hC hK hP hD hS iX1 tyX1_ok nmX1 0 rfl rfl 2 (by decide) mw_fieldLink_RX1_26_MirrorDrill_Course_knownRow_J rfl rfl rfl (ln_lt (ln_set hl_gc__2) (by decide)) dX1_comesRound_29 (fun H locs hP hD hS => ?_)
  have hP : va_P D classes [(cs, .inr (1, ((gc__2.set 1 (.int 1)).set 2 (.long 0)))), (dd, .inr (2, ds_))] H := hP
  have hD : va_D A [(cs, .inr (1, ((gc__2.set 1 (.int 1)).set 2 (.long 0)))), (dd, .inr (2, ds_))] := hD
  refine lv_aload_n hx hb dX1_comesRound_32 rfl (lv_at hl 0 rfl) ?_
  refine gf hC hK hP iX1 0 rfl rfl 4 (by decide) mw_fieldLink_RX1_23_MirrorDrill_Course_loop_I (gs_ne (by decide) (gs_ne (by decide) h_gc__4_2)) dX1_comesRound_33 ?_
  refine lv_iconst (v := (-1)) hx hb dX1_comesRound_36 (by decide) ?_
  refine lv_icmp_eq (tgt := 44) hx hb dX1_comesRound_37 (by decide) (fun c_3 => absurd c_3 (by decide)) (fun c_3 => ?_)
  refine lv_iconst (v := 1) hx hb dX1_comesRound_40 (by decide) ?_
  refine lv_goto (tgt := 45) hx hb dX1_comesRound_41 (by decide) ?_
  exact retZ hC hP hD hS (by decide) (by decide) ((gc__2.set 1 (.int 1)).set 2 (.long 0)) [0] rfl rfl ⟨rfl, (ln_set (ln_set hl_gc__2)), (gs_ne (by decide) (gs_ne (by decide) h_gc__3_2)), (gs_ne (by decide) (gs_ne (by decide) h_gc__4_2))⟩ rfl dX1_comesRound_45
set_option maxHeartbeats 4000000 in
set_option maxRecDepth 100000 in
theorem k_X1_tail (l : Launch) (D : va_G) (cyB cyI cyJ cyZ : ClassId) (sz : Nat) (cs : Nat) (fc_ : List Value) (hl_fc_ : fc_.length = 5) (h_fc__3 : fc_[3]? = some (.int 0)) : KI l yX1_tail cX1_tail 1 .int 0 0 0 D (TYS cyB cyI cyJ cyZ) [(cs, .inr (1, fc_))] sz [.ref cs] (fun (r : Int32) (u : Unit) => r = 0) (fun (u : Unit) => ([] : va_W)) := by
  refine entI (by decide) (Nat.le_of_ble_eq_true rfl) ?_
  intro p e s m below meth c ls A hC hl hP hK hD hA
  obtain ⟨hx, hb, hr, hml, hown, hts, hlk, hnm⟩ := id hC
  have hS : va_S A s.heap s.heap [] := va_S.rf
  have hl : lv_has ls 1 [(0, .ref cs)] := hl
  generalize hHe : s.heap = H at hP ⊢
  rw [hHe] at hS
  have hS : va_S A s.heap H [] := by rw [hHe]; exact hS
  refine lv_aload_n hx hb dX1_tail_0 rfl (lv_at hl 0 rfl) ?_
  refine gf hC hK hP iX1 0 rfl rfl 3 (by decide) mw_fieldLink_RX1_19_MirrorDrill_Course_tail_I h_fc__3 dX1_tail_1 ?_
  exact retI hC hP hD hS (by decide) (by decide) () [] rfl rfl rfl dX1_tail_4
set_option maxHeartbeats 4000000 in
set_option maxRecDepth 100000 in
theorem k_X1_loop (l : Launch) (D : va_G) (cyB cyI cyJ cyZ : ClassId) (sz : Nat) (cs : Nat) (fc_ : List Value) (hl_fc_ : fc_.length = 5) (h_fc__4 : fc_[4]? = some (.int 1)) : KI l yX1_loop cX1_loop 1 .int 0 0 0 D (TYS cyB cyI cyJ cyZ) [(cs, .inr (1, fc_))] sz [.ref cs] (fun (r : Int32) (u : Unit) => r = 1) (fun (u : Unit) => ([] : va_W)) := by
  refine entI (by decide) (Nat.le_of_ble_eq_true rfl) ?_
  intro p e s m below meth c ls A hC hl hP hK hD hA
  obtain ⟨hx, hb, hr, hml, hown, hts, hlk, hnm⟩ := id hC
  have hS : va_S A s.heap s.heap [] := va_S.rf
  have hl : lv_has ls 1 [(0, .ref cs)] := hl
  generalize hHe : s.heap = H at hP ⊢
  rw [hHe] at hS
  have hS : va_S A s.heap H [] := by rw [hHe]; exact hS
  refine lv_aload_n hx hb dX1_loop_0 rfl (lv_at hl 0 rfl) ?_
  refine gf hC hK hP iX1 0 rfl rfl 4 (by decide) mw_fieldLink_RX1_23_MirrorDrill_Course_loop_I h_fc__4 dX1_loop_1 ?_
  exact retI hC hP hD hS (by decide) (by decide) () [] rfl rfl rfl dX1_loop_4
set_option maxHeartbeats 4000000 in
set_option maxRecDepth 100000 in
theorem k_X9_round (l : Launch) (D : va_G) (cyB cyI cyJ cyZ : ClassId) (sz : Nat) (h0 : Nat) (p0 : Int32) (fs : List Value) (dd : Nat) (ea : Nat) (cs : Nat) (ds_ : List Value) (fe_ : List Value) (er : Nat) (fer : Nat → Int64) (fc_ : List Value) (cr : Nat) (fcr : Nat → Int64) (hl_fs : fs.length = 17) (h_fs_3 : fs[3]? = some (.ref dd)) (h_fs_7 : fs[7]? = some (.ref ea)) (h_fs_12 : fs[12]? = some (.ref cs)) (hl_ds_ : ds_.length = 15) (h_ds__1 : ds_[1]? = some (.int 0)) (hl_fe_ : fe_.length = 4) (h_fe__0 : fe_[0]? = some (.ref er)) (h_fe__2 : fe_[2]? = some (.int 0)) (h_fer_0 : fer 0 = 0) (hl_fc_ : fc_.length = 5) (h_fc__0 : fc_[0]? = some (.ref cr)) (h_fc__1 : fc_[1]? = some (.int 0)) : KI l yX9_round cX9_round 2 .int 4 1 3001 D (TYS cyB cyI cyJ cyZ) [(h0, .inr (9, fs)), (dd, .inr (2, ds_)), (ea, .inr (3, fe_)), (er, .inl (cyJ, 41, .inr (.inl fer))), (cs, .inr (1, fc_)), (cr, .inl (cyJ, 0, .inr (.inl fcr)))] sz [.ref h0, .int p0] (fun (r : Int32) (u : Unit) => r = sp_round p0) (fun (u : Unit) => ([] : va_W)) := by
  refine entI (by decide) (Nat.le_of_ble_eq_true rfl) ?_
  intro p e s m below meth c ls A hC hl hP hK hD hA
  obtain ⟨hx, hb, hr, hml, hown, hts, hlk, hnm⟩ := id hC
  have hS : va_S A s.heap s.heap [] := va_S.rf
  have hl : lv_has ls 2 [(0, .ref h0), (1, .int p0)] := hl
  generalize hHe : s.heap = H at hP ⊢
  rw [hHe] at hS
  have hS : va_S A s.heap H [] := by rw [hHe]; exact hS
  refine lv_iload_n hx hb dX9_round_0 rfl (lv_at hl 1 rfl) ?_
  refine lv_if_eq (tgt := 11) hx hb dX9_round_1 (by decide) (fun c_1 => ?_) (fun c_1 => ?_)
  · refine lv_aload_n hx hb dX9_round_11 rfl (lv_at hl 0 rfl) ?_
    refine gf hC hK hP iX9 0 rfl rfl 12 (by decide) mw_fieldLink_RX9_67_MirrorDrill_course_LMirrorDrill_Course h_fs_12 dX9_round_12 ?_
    refine lv_aload_n hx hb dX9_round_15 rfl (lv_at hl 0 rfl) ?_
    refine gf hC hK hP iX9 0 rfl rfl 3 (by decide) mw_fieldLink_RX9_27_MirrorDrill_drill_LMirrorDrill_Drill h_fs_3 dX9_round_16 ?_
    refine lv_aload_n hx hb dX9_round_19 rfl (lv_at hl 0 rfl) ?_
    refine gf hC hK hP iX9 0 rfl rfl 7 (by decide) mw_fieldLink_RX9_43_MirrorDrill_earnest_LMirrorDrill_Earnest h_fs_7 dX9_round_20 ?_
    refine aftL (wr := [(h0, .inr (9, fs)), (dd, .inr (2, ds_)), (cs, .inr (1, fc_)), (cr, .inl (cyJ, 0, .inr (.inl fcr)))]) (runV hC hK hP hD hl.1 (k_X3_row l D cyB cyI cyJ cyZ H.size ea fe_ er fer hl_fe_ h_fe__0 h_fe__2 h_fer_0) cV_X3_row mw_methodLink_RX9_151_yX3_row [2, 3] rfl rfl 2 rfl rfl rfl rfl rfl (Nat.le_of_ble_eq_true rfl) ⟨by decide, by decide⟩ ⟨by decide, by decide⟩ dX9_round_23) hP hD hS hA [2, 3] [0, 1, 4, 5] rfl rfl rfl (by decide) (fun r_2 u_2 H locs hw_2 hP hD hS => ?_)
    have hr_2 := hw_2
    refine lv_cstL (v := 0) hr_2 ?_
    have hP : va_P D classes [(h0, .inr (9, fs)), (dd, .inr (2, ds_)), (cs, .inr (1, fc_)), (cr, .inl (cyJ, 0, .inr (.inl fcr))), (ea, .inr (3, fe_)), (er, .inl (cyJ, 41, .inr (.inl fer)))] H := hP
    have hD : va_D A [(h0, .inr (9, fs)), (dd, .inr (2, ds_)), (cs, .inr (1, fc_)), (cr, .inl (cyJ, 0, .inr (.inl fcr))), (ea, .inr (3, fe_)), (er, .inl (cyJ, 41, .inr (.inl fer)))] := hD
    refine W.widen (k := 0) (n := 0) (by decide) (by decide) ?_
    refine aftI (wr := [(h0, .inr (9, fs)), (ea, .inr (3, fe_)), (er, .inl (cyJ, 41, .inr (.inl fer)))]) (runV hC hK hP hD hl.1 (k_X1_comesRound l D cyB cyI cyJ cyZ H.size cs dd fc_ cr fcr ds_ hl_fc_ h_fc__0 h_fc__1 hl_ds_ h_ds__1) cV_X1_comesRound mw_methodLink_RX9_198_yX1_comesRound [2, 3, 1] rfl rfl 2 rfl rfl rfl rfl rfl (Nat.le_of_ble_eq_true rfl) ⟨by decide, by decide⟩ ⟨by decide, by decide⟩ dX9_round_26) hP hD hS hA [2, 3, 1] [0, 4, 5] rfl rfl rfl (by decide) (fun r_3 u_3 H locs hw_3 hP hD hS => ?_)
    obtain ⟨gc__3, rfl⟩ : ∃ z, z = u_3 := ⟨_, rfl⟩
    try dsimp only at hw_3
    obtain ⟨hr_3, hl_gc__3, h_gc__3_3, h_gc__4_3⟩ := hw_3
    refine lv_cst (v := 1) hr_3 ?_
    have hP : va_P D classes [(h0, .inr (9, fs)), (ea, .inr (3, fe_)), (er, .inl (cyJ, 41, .inr (.inl fer))), (cs, .inr (1, gc__3))] H := hP
    have hD : va_D A [(h0, .inr (9, fs)), (ea, .inr (3, fe_)), (er, .inl (cyJ, 41, .inr (.inl fer))), (cs, .inr (1, gc__3))] := hD
    refine W.widen (k := 1) (n := 3001) (by decide) (by decide) ?_
    refine lv_if_ne (tgt := 35) hx hb dX9_round_29 (by decide) (fun c_4 => ?_) (fun c_4 => absurd c_4 (by decide))
    refine lv_iload_n hx hb dX9_round_35 rfl (lv_at hl 1 rfl) ?_
    refine lv_if_ne (tgt := 49) hx hb dX9_round_36 (by decide) (fun c_5 => ?_) (fun c_5 => ?_)
    · refine lv_aload_n hx hb dX9_round_49 rfl (lv_at hl 0 rfl) ?_
      refine gf hC hK hP iX9 0 rfl rfl 12 (by decide) mw_fieldLink_RX9_67_MirrorDrill_course_LMirrorDrill_Course h_fs_12 dX9_round_50 ?_
      refine aftI (wr := [(h0, .inr (9, fs)), (ea, .inr (3, fe_)), (er, .inl (cyJ, 41, .inr (.inl fer)))]) (runV hC hK hP hD hl.1 (k_X1_loop l D cyB cyI cyJ cyZ H.size cs gc__3 hl_gc__3 h_gc__4_3) cV_X1_loop mw_methodLink_RX9_205_yX1_loop [3] rfl rfl 3 rfl rfl rfl rfl rfl (Nat.le_of_ble_eq_true rfl) ⟨by decide, by decide⟩ ⟨by decide, by decide⟩ dX9_round_53) hP hD hS hA [3] [0, 1, 2] rfl rfl rfl (by decide) (fun r_6 u_6 H locs hw_6 hP hD hS => ?_)
      have hr_6 := hw_6
      refine lv_cst (v := 1) hr_6 ?_
      have hP : va_P D classes [(h0, .inr (9, fs)), (ea, .inr (3, fe_)), (er, .inl (cyJ, 41, .inr (.inl fer)))] H := hP
      have hD : va_D A [(h0, .inr (9, fs)), (ea, .inr (3, fe_)), (er, .inl (cyJ, 41, .inr (.inl fer)))] := hD
      refine W.widen (k := 1) (n := 3001) (by decide) (by decide) ?_
      exact retI hC hP hD hS (by decide) (by decide) () [] rfl rfl (by have z0 := zt_eq c_1; have z1 := zt_ne c_5; have y0 : ((-1) : Int32).toInt = (-1) := (by decide); have y1 : (0 : Int32).toInt = 0 := (by decide); have y2 : (1 : Int32).toInt = 1 := (by decide); unfold sp_round; (repeat' split) <;> first | rfl | (exact Int32.zero_add _) | (exfalso; omega)) dX9_round_56
    · refine lv_aload_n hx hb dX9_round_39 rfl (lv_at hl 0 rfl) ?_
      refine gf hC hK hP iX9 0 rfl rfl 12 (by decide) mw_fieldLink_RX9_67_MirrorDrill_course_LMirrorDrill_Course h_fs_12 dX9_round_40 ?_
      refine aftI (wr := [(h0, .inr (9, fs)), (ea, .inr (3, fe_)), (er, .inl (cyJ, 41, .inr (.inl fer)))]) (runV hC hK hP hD hl.1 (k_X1_tail l D cyB cyI cyJ cyZ H.size cs gc__3 hl_gc__3 h_gc__3_3) cV_X1_tail mw_methodLink_RX9_202_yX1_tail [3] rfl rfl 3 rfl rfl rfl rfl rfl (Nat.le_of_ble_eq_true rfl) ⟨by decide, by decide⟩ ⟨by decide, by decide⟩ dX9_round_43) hP hD hS hA [3] [0, 1, 2] rfl rfl rfl (by decide) (fun r_7 u_7 H locs hw_7 hP hD hS => ?_)
      have hr_7 := hw_7
      refine lv_cst (v := 0) hr_7 ?_
      have hP : va_P D classes [(h0, .inr (9, fs)), (ea, .inr (3, fe_)), (er, .inl (cyJ, 41, .inr (.inl fer)))] H := hP
      have hD : va_D A [(h0, .inr (9, fs)), (ea, .inr (3, fe_)), (er, .inl (cyJ, 41, .inr (.inl fer)))] := hD
      refine W.widen (k := 1) (n := 3001) (by decide) (by decide) ?_
      refine lv_goto (tgt := 56) hx hb dX9_round_46 (by decide) ?_
      exact retI hC hP hD hS (by decide) (by decide) () [] rfl rfl (by have z0 := zt_eq c_1; have z1 := zt_eq c_5; have y0 : ((-1) : Int32).toInt = (-1) := (by decide); have y1 : (0 : Int32).toInt = 0 := (by decide); have y2 : (1 : Int32).toInt = 1 := (by decide); unfold sp_round; (repeat' split) <;> first | rfl | (exact Int32.zero_add _) | (exfalso; omega)) dX9_round_56
  · refine lv_iload_n hx hb dX9_round_4 rfl (lv_at hl 1 rfl) ?_
    refine lv_iconst (v := 1) hx hb dX9_round_5 (by decide) ?_
    refine lv_icmp_eq (tgt := 11) hx hb dX9_round_6 (by decide) (fun c_8 => ?_) (fun c_8 => ?_)
    · refine lv_aload_n hx hb dX9_round_11 rfl (lv_at hl 0 rfl) ?_
      refine gf hC hK hP iX9 0 rfl rfl 12 (by decide) mw_fieldLink_RX9_67_MirrorDrill_course_LMirrorDrill_Course h_fs_12 dX9_round_12 ?_
      refine lv_aload_n hx hb dX9_round_15 rfl (lv_at hl 0 rfl) ?_
      refine gf hC hK hP iX9 0 rfl rfl 3 (by decide) mw_fieldLink_RX9_27_MirrorDrill_drill_LMirrorDrill_Drill h_fs_3 dX9_round_16 ?_
      refine lv_aload_n hx hb dX9_round_19 rfl (lv_at hl 0 rfl) ?_
      refine gf hC hK hP iX9 0 rfl rfl 7 (by decide) mw_fieldLink_RX9_43_MirrorDrill_earnest_LMirrorDrill_Earnest h_fs_7 dX9_round_20 ?_
      refine aftL (wr := [(h0, .inr (9, fs)), (dd, .inr (2, ds_)), (cs, .inr (1, fc_)), (cr, .inl (cyJ, 0, .inr (.inl fcr)))]) (runV hC hK hP hD hl.1 (k_X3_row l D cyB cyI cyJ cyZ H.size ea fe_ er fer hl_fe_ h_fe__0 h_fe__2 h_fer_0) cV_X3_row mw_methodLink_RX9_151_yX3_row [2, 3] rfl rfl 2 rfl rfl rfl rfl rfl (Nat.le_of_ble_eq_true rfl) ⟨by decide, by decide⟩ ⟨by decide, by decide⟩ dX9_round_23) hP hD hS hA [2, 3] [0, 1, 4, 5] rfl rfl rfl (by decide) (fun r_9 u_9 H locs hw_9 hP hD hS => ?_)
      have hr_9 := hw_9
      refine lv_cstL (v := 0) hr_9 ?_
      have hP : va_P D classes [(h0, .inr (9, fs)), (dd, .inr (2, ds_)), (cs, .inr (1, fc_)), (cr, .inl (cyJ, 0, .inr (.inl fcr))), (ea, .inr (3, fe_)), (er, .inl (cyJ, 41, .inr (.inl fer)))] H := hP
      have hD : va_D A [(h0, .inr (9, fs)), (dd, .inr (2, ds_)), (cs, .inr (1, fc_)), (cr, .inl (cyJ, 0, .inr (.inl fcr))), (ea, .inr (3, fe_)), (er, .inl (cyJ, 41, .inr (.inl fer)))] := hD
      refine W.widen (k := 0) (n := 0) (by decide) (by decide) ?_
      refine aftI (wr := [(h0, .inr (9, fs)), (ea, .inr (3, fe_)), (er, .inl (cyJ, 41, .inr (.inl fer)))]) (runV hC hK hP hD hl.1 (k_X1_comesRound l D cyB cyI cyJ cyZ H.size cs dd fc_ cr fcr ds_ hl_fc_ h_fc__0 h_fc__1 hl_ds_ h_ds__1) cV_X1_comesRound mw_methodLink_RX9_198_yX1_comesRound [2, 3, 1] rfl rfl 2 rfl rfl rfl rfl rfl (Nat.le_of_ble_eq_true rfl) ⟨by decide, by decide⟩ ⟨by decide, by decide⟩ dX9_round_26) hP hD hS hA [2, 3, 1] [0, 4, 5] rfl rfl rfl (by decide) (fun r_10 u_10 H locs hw_10 hP hD hS => ?_)
      obtain ⟨gc__10, rfl⟩ : ∃ z, z = u_10 := ⟨_, rfl⟩
      try dsimp only at hw_10
      obtain ⟨hr_10, hl_gc__10, h_gc__3_10, h_gc__4_10⟩ := hw_10
      refine lv_cst (v := 1) hr_10 ?_
      have hP : va_P D classes [(h0, .inr (9, fs)), (ea, .inr (3, fe_)), (er, .inl (cyJ, 41, .inr (.inl fer))), (cs, .inr (1, gc__10))] H := hP
      have hD : va_D A [(h0, .inr (9, fs)), (ea, .inr (3, fe_)), (er, .inl (cyJ, 41, .inr (.inl fer))), (cs, .inr (1, gc__10))] := hD
      refine W.widen (k := 1) (n := 3001) (by decide) (by decide) ?_
      refine lv_if_ne (tgt := 35) hx hb dX9_round_29 (by decide) (fun c_11 => ?_) (fun c_11 => absurd c_11 (by decide))
      refine lv_iload_n hx hb dX9_round_35 rfl (lv_at hl 1 rfl) ?_
      refine lv_if_ne (tgt := 49) hx hb dX9_round_36 (by decide) (fun c_12 => ?_) (fun c_12 => ?_)
      · refine lv_aload_n hx hb dX9_round_49 rfl (lv_at hl 0 rfl) ?_
        refine gf hC hK hP iX9 0 rfl rfl 12 (by decide) mw_fieldLink_RX9_67_MirrorDrill_course_LMirrorDrill_Course h_fs_12 dX9_round_50 ?_
        refine aftI (wr := [(h0, .inr (9, fs)), (ea, .inr (3, fe_)), (er, .inl (cyJ, 41, .inr (.inl fer)))]) (runV hC hK hP hD hl.1 (k_X1_loop l D cyB cyI cyJ cyZ H.size cs gc__10 hl_gc__10 h_gc__4_10) cV_X1_loop mw_methodLink_RX9_205_yX1_loop [3] rfl rfl 3 rfl rfl rfl rfl rfl (Nat.le_of_ble_eq_true rfl) ⟨by decide, by decide⟩ ⟨by decide, by decide⟩ dX9_round_53) hP hD hS hA [3] [0, 1, 2] rfl rfl rfl (by decide) (fun r_13 u_13 H locs hw_13 hP hD hS => ?_)
        have hr_13 := hw_13
        refine lv_cst (v := 1) hr_13 ?_
        have hP : va_P D classes [(h0, .inr (9, fs)), (ea, .inr (3, fe_)), (er, .inl (cyJ, 41, .inr (.inl fer)))] H := hP
        have hD : va_D A [(h0, .inr (9, fs)), (ea, .inr (3, fe_)), (er, .inl (cyJ, 41, .inr (.inl fer)))] := hD
        refine W.widen (k := 1) (n := 3001) (by decide) (by decide) ?_
        exact retI hC hP hD hS (by decide) (by decide) () [] rfl rfl (by have z0 := zt_ne c_1; have z1 := zt_eq c_8; have z2 := zt_ne c_12; have y0 : ((-1) : Int32).toInt = (-1) := (by decide); have y1 : (0 : Int32).toInt = 0 := (by decide); have y2 : (1 : Int32).toInt = 1 := (by decide); unfold sp_round; (repeat' split) <;> first | rfl | (exact Int32.zero_add _) | (exfalso; omega)) dX9_round_56
      · refine lv_aload_n hx hb dX9_round_39 rfl (lv_at hl 0 rfl) ?_
        refine gf hC hK hP iX9 0 rfl rfl 12 (by decide) mw_fieldLink_RX9_67_MirrorDrill_course_LMirrorDrill_Course h_fs_12 dX9_round_40 ?_
        refine aftI (wr := [(h0, .inr (9, fs)), (ea, .inr (3, fe_)), (er, .inl (cyJ, 41, .inr (.inl fer)))]) (runV hC hK hP hD hl.1 (k_X1_tail l D cyB cyI cyJ cyZ H.size cs gc__10 hl_gc__10 h_gc__3_10) cV_X1_tail mw_methodLink_RX9_202_yX1_tail [3] rfl rfl 3 rfl rfl rfl rfl rfl (Nat.le_of_ble_eq_true rfl) ⟨by decide, by decide⟩ ⟨by decide, by decide⟩ dX9_round_43) hP hD hS hA [3] [0, 1, 2] rfl rfl rfl (by decide) (fun r_14 u_14 H locs hw_14 hP hD hS => ?_)
        have hr_14 := hw_14
        refine lv_cst (v := 0) hr_14 ?_
        have hP : va_P D classes [(h0, .inr (9, fs)), (ea, .inr (3, fe_)), (er, .inl (cyJ, 41, .inr (.inl fer)))] H := hP
        have hD : va_D A [(h0, .inr (9, fs)), (ea, .inr (3, fe_)), (er, .inl (cyJ, 41, .inr (.inl fer)))] := hD
        refine W.widen (k := 1) (n := 3001) (by decide) (by decide) ?_
        refine lv_goto (tgt := 56) hx hb dX9_round_46 (by decide) ?_
        exact retI hC hP hD hS (by decide) (by decide) () [] rfl rfl (by have z0 := zt_ne c_1; have z1 := zt_eq c_8; have z2 := zt_eq c_12; have y0 : ((-1) : Int32).toInt = (-1) := (by decide); have y1 : (0 : Int32).toInt = 0 := (by decide); have y2 : (1 : Int32).toInt = 1 := (by decide); unfold sp_round; (repeat' split) <;> first | rfl | (exact Int32.zero_add _) | (exfalso; omega)) dX9_round_56
    · refine lv_iconst (v := (-1)) hx hb dX9_round_9 (by decide) ?_
      exact retI hC hP hD hS (by decide) (by decide) () [] rfl rfl (by have z0 := zt_ne c_1; have z1 := zt_ne c_8; have y0 : ((-1) : Int32).toInt = (-1) := (by decide); have y1 : (0 : Int32).toInt = 0 := (by decide); have y2 : (1 : Int32).toInt = 1 := (by decide); unfold sp_round; (repeat' split) <;> first | rfl | (exact Int32.zero_add _) | (exfalso; omega)) dX9_round_10
set_option maxHeartbeats 4000000 in
set_option maxRecDepth 100000 in
theorem k_X5_seek (l : Launch) (D : va_G) (cyB cyI cyJ cyZ : ClassId) (sz : Nat) (fo : Nat) (dd : Nat) (ff_ : List Value) (fw : Nat) (ffw : Nat → Int64) (ds_ : List Value) (hl_ff_ : ff_.length = 5) (h_ff__0 : ff_[0]? = some (.ref fw)) (hl_ds_ : ds_.length = 15) (h_ds__1 : ds_[1]? = some (.int 0)) : KV l yX5_seek cX5_seek 5 0 1 480 D (TYS cyB cyI cyJ cyZ) [(fo, .inr (5, ff_)), (fw, .inl (cyJ, 0, .inr (.inl ffw))), (dd, .inr (2, ds_))] sz [.ref fo, .ref dd, .long 0] (fun (u : List Value) => u.length = 5 ∧ u[3]? = some (.long 1)) (fun (u : List Value) => ([(fo, .inr (5, u)), (dd, .inr (2, ds_))] : va_W)) := by
  refine entV (by decide) (Nat.le_of_ble_eq_true rfl) ?_
  intro p e s m below meth c ls A hC hl hP hK hD hA
  obtain ⟨hx, hb, hr, hml, hown, hts, hlk, hnm⟩ := id hC
  have hS : va_S A s.heap s.heap [] := va_S.rf
  have hl : lv_has ls 5 [(0, .ref fo), (1, .ref dd), (2, .long 0)] := hl
  generalize hHe : s.heap = H at hP ⊢
  rw [hHe] at hS
  have hS : va_S A s.heap H [] := by rw [hHe]; exact hS
  refine lv_aload_n hx hb dX5_seek_0 rfl (lv_at hl 0 rfl) ?_
  refine lv_aload_n hx hb dX5_seek_1 rfl (lv_at hl 1 rfl) ?_
  refine pf (v := .ref dd) hC hK hP hD hS iX5 tyX5_ok nmX5 0 rfl rfl 1 (by decide) mw_fieldLink_RX5_22_MirrorDrill_Forebears_drill_LMirrorDrill_Drill rfl rfl rfl (ln_lt hl_ff_ (by decide)) dX5_seek_2 (fun H locs hP hD hS => ?_)
  have hP : va_P D classes [(fo, .inr (5, (ff_.set 1 (.ref dd)))), (fw, .inl (cyJ, 0, .inr (.inl ffw))), (dd, .inr (2, ds_))] H := hP
  have hD : va_D A [(fo, .inr (5, (ff_.set 1 (.ref dd)))), (fw, .inl (cyJ, 0, .inr (.inl ffw))), (dd, .inr (2, ds_))] := hD
  refine lv_aload_n hx hb dX5_seek_5 rfl (lv_at hl 0 rfl) ?_
  refine lv_lload_n hx hb dX5_seek_6 rfl (lv_at hl 2 rfl) ?_
  refine pf (v := .long 0) hC hK hP hD hS iX5 tyX5_ok nmX5 0 rfl rfl 2 (by decide) mw_fieldLink_RX5_36_MirrorDrill_Forebears_goal_J rfl rfl rfl (ln_lt (ln_set hl_ff_) (by decide)) dX5_seek_7 (fun H locs hP hD hS => ?_)
  have hP : va_P D classes [(fo, .inr (5, ((ff_.set 1 (.ref dd)).set 2 (.long 0)))), (fw, .inl (cyJ, 0, .inr (.inl ffw))), (dd, .inr (2, ds_))] H := hP
  have hD : va_D A [(fo, .inr (5, ((ff_.set 1 (.ref dd)).set 2 (.long 0)))), (fw, .inl (cyJ, 0, .inr (.inl ffw))), (dd, .inr (2, ds_))] := hD
  refine lv_aload_n hx hb dX5_seek_10 rfl (lv_at hl 0 rfl) ?_
  refine lv_lconst (v := 0) hx hb dX5_seek_11 (by decide) ?_
  refine pf (v := .long 0) hC hK hP hD hS iX5 tyX5_ok nmX5 0 rfl rfl 3 (by decide) mw_fieldLink_RX5_15_MirrorDrill_Forebears_count_J rfl rfl rfl (ln_lt (ln_set (ln_set hl_ff_)) (by decide)) dX5_seek_12 (fun H locs hP hD hS => ?_)
  have hP : va_P D classes [(fo, .inr (5, (((ff_.set 1 (.ref dd)).set 2 (.long 0)).set 3 (.long 0)))), (fw, .inl (cyJ, 0, .inr (.inl ffw))), (dd, .inr (2, ds_))] H := hP
  have hD : va_D A [(fo, .inr (5, (((ff_.set 1 (.ref dd)).set 2 (.long 0)).set 3 (.long 0)))), (fw, .inl (cyJ, 0, .inr (.inl ffw))), (dd, .inr (2, ds_))] := hD
  refine lv_aload_n hx hb dX5_seek_15 rfl (lv_at hl 0 rfl) ?_
  refine lv_ldc2 (v := (-1)) hx hb hown (hts _ mw_constantLong_RX5_39_1) dX5_seek_16 ?_
  refine pf (v := .long (-1)) hC hK hP hD hS iX5 tyX5_ok nmX5 0 rfl rfl 4 (by decide) mw_fieldLink_RX5_19_MirrorDrill_Forebears_firstKey_J rfl rfl rfl (ln_lt (ln_set (ln_set (ln_set hl_ff_))) (by decide)) dX5_seek_19 (fun H locs hP hD hS => ?_)
  have hP : va_P D classes [(fo, .inr (5, ((((ff_.set 1 (.ref dd)).set 2 (.long 0)).set 3 (.long 0)).set 4 (.long (-1))))), (fw, .inl (cyJ, 0, .inr (.inl ffw))), (dd, .inr (2, ds_))] H := hP
  have hD : va_D A [(fo, .inr (5, ((((ff_.set 1 (.ref dd)).set 2 (.long 0)).set 3 (.long 0)).set 4 (.long (-1))))), (fw, .inl (cyJ, 0, .inr (.inl ffw))), (dd, .inr (2, ds_))] := hD
  refine lv_aload_n hx hb dX5_seek_22 rfl (lv_at hl 0 rfl) ?_
  refine gf hC hK hP iX5 0 rfl rfl 0 (by decide) mw_fieldLink_RX5_9_MirrorDrill_Forebears_ways_J (gs_ne (by decide) (gs_ne (by decide) (gs_ne (by decide) (gs_ne (by decide) h_ff__0)))) dX5_seek_23 ?_
  refine va_alen (v := 0) hx hb hK hP 1 2 rfl rfl rfl dX5_seek_26 ?_
  refine lv_if_ne (tgt := 39) hx hb dX5_seek_27 (by decide) (fun c_1 => absurd (by decide) c_1) (fun c_1 => ?_)
  refine lv_aload_n hx hb dX5_seek_30 rfl (lv_at hl 0 rfl) ?_
  refine lv_sipush (v := 480) hx hb dX5_seek_31 (by decide) ?_
  refine nwJ (N := 480) hC mw_arrayClass_long hK hP hD hS hA (by decide) (by decide) (by decide) (by decide) (by decide) dX5_seek_34 (fun q2 H hP hD hS => ?_)
  have hP : va_P D classes [(fo, .inr (5, ((((ff_.set 1 (.ref dd)).set 2 (.long 0)).set 3 (.long 0)).set 4 (.long (-1))))), (fw, .inl (cyJ, 0, .inr (.inl ffw))), (dd, .inr (2, ds_)), (q2, .inl (cyJ, 480, .inr (.inl (fun _ => 0))))] H := hP
  have hD : va_D A [(fo, .inr (5, ((((ff_.set 1 (.ref dd)).set 2 (.long 0)).set 3 (.long 0)).set 4 (.long (-1))))), (fw, .inl (cyJ, 0, .inr (.inl ffw))), (dd, .inr (2, ds_)), (q2, .inl (cyJ, 480, .inr (.inl (fun _ => 0))))] := hD
  refine W.widen (k := 1) (n := 480) (by decide) (by decide) ?_
  refine pf (v := .ref q2) hC hK hP hD hS iX5 tyX5_ok nmX5 0 rfl rfl 0 (by decide) mw_fieldLink_RX5_9_MirrorDrill_Forebears_ways_J rfl rfl rfl (ln_lt (ln_set (ln_set (ln_set (ln_set hl_ff_)))) (by decide)) dX5_seek_36 (fun H locs hP hD hS => ?_)
  have hP : va_P D classes [(fo, .inr (5, (((((ff_.set 1 (.ref dd)).set 2 (.long 0)).set 3 (.long 0)).set 4 (.long (-1))).set 0 (.ref q2)))), (fw, .inl (cyJ, 0, .inr (.inl ffw))), (dd, .inr (2, ds_)), (q2, .inl (cyJ, 480, .inr (.inl (fun _ => 0))))] H := hP
  have hD : va_D A [(fo, .inr (5, (((((ff_.set 1 (.ref dd)).set 2 (.long 0)).set 3 (.long 0)).set 4 (.long (-1))).set 0 (.ref q2)))), (fw, .inl (cyJ, 0, .inr (.inl ffw))), (dd, .inr (2, ds_)), (q2, .inl (cyJ, 480, .inr (.inl (fun _ => 0))))] := hD
  refine lv_aload_n hx hb dX5_seek_39 rfl (lv_at hl 1 rfl) ?_
  refine gf hC hK hP iX2 2 rfl rfl 1 (by decide) mw_fieldLink_RX5_26_MirrorDrill_Drill_men_I h_ds__1 dX5_seek_40 ?_
  refine lv_if_ne (tgt := 54) hx hb dX5_seek_43 (by decide) (fun c_3 => absurd (by decide) c_3) (fun c_3 => ?_)
  refine lv_aload_n hx hb dX5_seek_46 rfl (lv_at hl 0 rfl) ?_
  refine lv_lconst (v := 1) hx hb dX5_seek_47 (by decide) ?_
  refine pf (v := .long 1) hC hK hP hD hS iX5 tyX5_ok nmX5 0 rfl rfl 3 (by decide) mw_fieldLink_RX5_15_MirrorDrill_Forebears_count_J rfl rfl rfl (ln_lt (ln_set (ln_set (ln_set (ln_set (ln_set hl_ff_))))) (by decide)) dX5_seek_48 (fun H locs hP hD hS => ?_)
  have hP : va_P D classes [(fo, .inr (5, ((((((ff_.set 1 (.ref dd)).set 2 (.long 0)).set 3 (.long 0)).set 4 (.long (-1))).set 0 (.ref q2)).set 3 (.long 1)))), (fw, .inl (cyJ, 0, .inr (.inl ffw))), (dd, .inr (2, ds_)), (q2, .inl (cyJ, 480, .inr (.inl (fun _ => 0))))] H := hP
  have hD : va_D A [(fo, .inr (5, ((((((ff_.set 1 (.ref dd)).set 2 (.long 0)).set 3 (.long 0)).set 4 (.long (-1))).set 0 (.ref q2)).set 3 (.long 1)))), (fw, .inl (cyJ, 0, .inr (.inl ffw))), (dd, .inr (2, ds_)), (q2, .inl (cyJ, 480, .inr (.inl (fun _ => 0))))] := hD
  refine lv_goto (tgt := 105) hx hb dX5_seek_51 (by decide) ?_
  exact retV hC hP hD hS (by decide) (by decide) ((((((ff_.set 1 (.ref dd)).set 2 (.long 0)).set 3 (.long 0)).set 4 (.long (-1))).set 0 (.ref q2)).set 3 (.long 1)) [0, 2] rfl rfl ⟨(ln_set (ln_set (ln_set (ln_set (ln_set (ln_set hl_ff_)))))), (gs_eq (ln_lt (ln_set (ln_set (ln_set (ln_set (ln_set hl_ff_))))) (by decide)))⟩ dX5_seek_105
set_option maxHeartbeats 4000000 in
set_option maxRecDepth 100000 in
theorem k_X5_count (l : Launch) (D : va_G) (cyB cyI cyJ cyZ : ClassId) (sz : Nat) (fo : Nat) (ff_ : List Value) (hl_ff_ : ff_.length = 5) (h_ff__3 : ff_[3]? = some (.long 1)) : KL l yX5_count cX5_count 1 0 0 0 D (TYS cyB cyI cyJ cyZ) [(fo, .inr (5, ff_))] sz [.ref fo] (fun (r : Int64) (u : Unit) => r = 1) (fun (u : Unit) => ([(fo, .inr (5, ff_))] : va_W)) := by
  refine entL (by decide) (Nat.le_of_ble_eq_true rfl) ?_
  intro p e s m below meth c ls A hC hl hP hK hD hA
  obtain ⟨hx, hb, hr, hml, hown, hts, hlk, hnm⟩ := id hC
  have hS : va_S A s.heap s.heap [] := va_S.rf
  have hl : lv_has ls 1 [(0, .ref fo)] := hl
  generalize hHe : s.heap = H at hP ⊢
  rw [hHe] at hS
  have hS : va_S A s.heap H [] := by rw [hHe]; exact hS
  refine lv_aload_n hx hb dX5_count_0 rfl (lv_at hl 0 rfl) ?_
  refine gf hC hK hP iX5 0 rfl rfl 3 (by decide) mw_fieldLink_RX5_15_MirrorDrill_Forebears_count_J h_ff__3 dX5_count_1 ?_
  exact retL hC hP hD hS (by decide) (by decide) () [0] rfl rfl rfl dX5_count_4
set_option maxHeartbeats 4000000 in
set_option maxRecDepth 100000 in
theorem k_X9_before (l : Launch) (D : va_G) (cyB cyI cyJ cyZ : ClassId) (sz : Nat) (h0 : Nat) (fs : List Value) (dd : Nat) (ea : Nat) (pl : Nat) (fo : Nat) (ds_ : List Value) (fe_ : List Value) (er : Nat) (fer : Nat → Int64) (fp_ : List Value) (ff_ : List Value) (fw : Nat) (ffw : Nat → Int64) (hl_fs : fs.length = 17) (h_fs_3 : fs[3]? = some (.ref dd)) (h_fs_7 : fs[7]? = some (.ref ea)) (h_fs_10 : fs[10]? = some (.ref pl)) (h_fs_13 : fs[13]? = some (.ref fo)) (hl_ds_ : ds_.length = 15) (h_ds__1 : ds_[1]? = some (.int 0)) (hl_fe_ : fe_.length = 4) (h_fe__0 : fe_[0]? = some (.ref er)) (h_fe__2 : fe_[2]? = some (.int 0)) (h_fer_0 : fer 0 = 0) (hl_fp_ : fp_.length = 2) (hl_ff_ : ff_.length = 5) (h_ff__0 : ff_[0]? = some (.ref fw)) : KL l yX9_before cX9_before 2 1 1 480 D (TYS cyB cyI cyJ cyZ) [(h0, .inr (9, fs)), (dd, .inr (2, ds_)), (ea, .inr (3, fe_)), (er, .inl (cyJ, 41, .inr (.inl fer))), (pl, .inr (6, fp_)), (fo, .inr (5, ff_)), (fw, .inl (cyJ, 0, .inr (.inl ffw)))] sz [.ref h0] (fun (r : Int64) (u : Unit) => r = 1) (fun (u : Unit) => ([] : va_W)) := by
  refine entL (by decide) (Nat.le_of_ble_eq_true rfl) ?_
  intro p e s m below meth c ls A hC hl hP hK hD hA
  obtain ⟨hx, hb, hr, hml, hown, hts, hlk, hnm⟩ := id hC
  have hS : va_S A s.heap s.heap [] := va_S.rf
  have hl : lv_has ls 2 [(0, .ref h0)] := hl
  generalize hHe : s.heap = H at hP ⊢
  rw [hHe] at hS
  have hS : va_S A s.heap H [] := by rw [hHe]; exact hS
  refine lv_aload_n hx hb dX9_before_0 rfl (lv_at hl 0 rfl) ?_
  refine gf hC hK hP iX9 0 rfl rfl 10 (by decide) mw_fieldLink_RX9_57_MirrorDrill_pile_LMirrorDrill_Pile h_fs_10 dX9_before_1 ?_
  refine aftV (wr := [(h0, .inr (9, fs)), (dd, .inr (2, ds_)), (ea, .inr (3, fe_)), (er, .inl (cyJ, 41, .inr (.inl fer))), (fo, .inr (5, ff_)), (fw, .inl (cyJ, 0, .inr (.inl ffw)))]) (runV hC hK hP hD hl.1 (k_X6_clear l D cyB cyI cyJ cyZ H.size pl fp_ hl_fp_) cV_X6_clear mw_methodLink_RX9_137_yX6_clear [4] rfl rfl 4 rfl rfl rfl rfl rfl (Nat.le_of_ble_eq_true rfl) ⟨by decide, by decide⟩ ⟨by decide, by decide⟩ dX9_before_4) hP hD hS hA [4] [0, 1, 2, 3, 5, 6] rfl rfl rfl (by decide) (fun u_1 H locs hw_1 hP hD hS => ?_)
  have hP : va_P D classes [(h0, .inr (9, fs)), (dd, .inr (2, ds_)), (ea, .inr (3, fe_)), (er, .inl (cyJ, 41, .inr (.inl fer))), (fo, .inr (5, ff_)), (fw, .inl (cyJ, 0, .inr (.inl ffw))), (pl, .inr (6, (fp_.set 1 (.int 0))))] H := hP
  have hD : va_D A [(h0, .inr (9, fs)), (dd, .inr (2, ds_)), (ea, .inr (3, fe_)), (er, .inl (cyJ, 41, .inr (.inl fer))), (fo, .inr (5, ff_)), (fw, .inl (cyJ, 0, .inr (.inl ffw))), (pl, .inr (6, (fp_.set 1 (.int 0))))] := hD
  refine W.widen (k := 0) (n := 0) (by decide) (by decide) ?_
  refine lv_aload_n hx hb dX9_before_7 rfl (lv_at hl 0 rfl) ?_
  refine gf hC hK hP iX9 0 rfl rfl 13 (by decide) mw_fieldLink_RX9_74_MirrorDrill_forebears_LMirrorDrill_Forebears h_fs_13 dX9_before_8 ?_
  refine lv_aload_n hx hb dX9_before_11 rfl (lv_at hl 0 rfl) ?_
  refine gf hC hK hP iX9 0 rfl rfl 3 (by decide) mw_fieldLink_RX9_27_MirrorDrill_drill_LMirrorDrill_Drill h_fs_3 dX9_before_12 ?_
  refine lv_aload_n hx hb dX9_before_15 rfl (lv_at hl 0 rfl) ?_
  refine gf hC hK hP iX9 0 rfl rfl 7 (by decide) mw_fieldLink_RX9_43_MirrorDrill_earnest_LMirrorDrill_Earnest h_fs_7 dX9_before_16 ?_
  refine aftL (wr := [(h0, .inr (9, fs)), (dd, .inr (2, ds_)), (fo, .inr (5, ff_)), (fw, .inl (cyJ, 0, .inr (.inl ffw))), (pl, .inr (6, (fp_.set 1 (.int 0))))]) (runV hC hK hP hD hl.1 (k_X3_row l D cyB cyI cyJ cyZ H.size ea fe_ er fer hl_fe_ h_fe__0 h_fe__2 h_fer_0) cV_X3_row mw_methodLink_RX9_151_yX3_row [2, 3] rfl rfl 2 rfl rfl rfl rfl rfl (Nat.le_of_ble_eq_true rfl) ⟨by decide, by decide⟩ ⟨by decide, by decide⟩ dX9_before_19) hP hD hS hA [2, 3] [0, 1, 4, 5, 6] rfl rfl rfl (by decide) (fun r_2 u_2 H locs hw_2 hP hD hS => ?_)
  have hr_2 := hw_2
  refine lv_cstL (v := 0) hr_2 ?_
  have hP : va_P D classes [(h0, .inr (9, fs)), (dd, .inr (2, ds_)), (fo, .inr (5, ff_)), (fw, .inl (cyJ, 0, .inr (.inl ffw))), (pl, .inr (6, (fp_.set 1 (.int 0)))), (ea, .inr (3, fe_)), (er, .inl (cyJ, 41, .inr (.inl fer)))] H := hP
  have hD : va_D A [(h0, .inr (9, fs)), (dd, .inr (2, ds_)), (fo, .inr (5, ff_)), (fw, .inl (cyJ, 0, .inr (.inl ffw))), (pl, .inr (6, (fp_.set 1 (.int 0)))), (ea, .inr (3, fe_)), (er, .inl (cyJ, 41, .inr (.inl fer)))] := hD
  refine W.widen (k := 0) (n := 0) (by decide) (by decide) ?_
  refine aftV (wr := [(h0, .inr (9, fs)), (pl, .inr (6, (fp_.set 1 (.int 0)))), (ea, .inr (3, fe_)), (er, .inl (cyJ, 41, .inr (.inl fer)))]) (runV hC hK hP hD hl.1 (k_X5_seek l D cyB cyI cyJ cyZ H.size fo dd ff_ fw ffw ds_ hl_ff_ h_ff__0 hl_ds_ h_ds__1) cV_X5_seek mw_methodLink_RX9_208_yX5_seek [2, 3, 1] rfl rfl 2 rfl rfl rfl rfl rfl (Nat.le_of_ble_eq_true rfl) ⟨by decide, by decide⟩ ⟨by decide, by decide⟩ dX9_before_22) hP hD hS hA [2, 3, 1] [0, 4, 5, 6] rfl rfl rfl (by decide) (fun u_3 H locs hw_3 hP hD hS => ?_)
  obtain ⟨gf__3, rfl⟩ : ∃ z, z = u_3 := ⟨_, rfl⟩
  try dsimp only at hw_3
  obtain ⟨hl_gf__3, h_gf__3_3⟩ := hw_3
  have hP : va_P D classes [(h0, .inr (9, fs)), (pl, .inr (6, (fp_.set 1 (.int 0)))), (ea, .inr (3, fe_)), (er, .inl (cyJ, 41, .inr (.inl fer))), (fo, .inr (5, gf__3)), (dd, .inr (2, ds_))] H := hP
  have hD : va_D A [(h0, .inr (9, fs)), (pl, .inr (6, (fp_.set 1 (.int 0)))), (ea, .inr (3, fe_)), (er, .inl (cyJ, 41, .inr (.inl fer))), (fo, .inr (5, gf__3)), (dd, .inr (2, ds_))] := hD
  refine W.widen (k := 1) (n := 480) (by decide) (by decide) ?_
  refine lv_aload_n hx hb dX9_before_25 rfl (lv_at hl 0 rfl) ?_
  refine gf hC hK hP iX9 0 rfl rfl 13 (by decide) mw_fieldLink_RX9_74_MirrorDrill_forebears_LMirrorDrill_Forebears h_fs_13 dX9_before_26 ?_
  refine aftL (wr := [(h0, .inr (9, fs)), (pl, .inr (6, (fp_.set 1 (.int 0)))), (ea, .inr (3, fe_)), (er, .inl (cyJ, 41, .inr (.inl fer))), (dd, .inr (2, ds_))]) (runV hC hK hP hD hl.1 (k_X5_count l D cyB cyI cyJ cyZ H.size fo gf__3 hl_gf__3 h_gf__3_3) cV_X5_count mw_methodLink_RX9_212_yX5_count [4] rfl rfl 4 rfl rfl rfl rfl rfl (Nat.le_of_ble_eq_true rfl) ⟨by decide, by decide⟩ ⟨by decide, by decide⟩ dX9_before_29) hP hD hS hA [4] [0, 1, 2, 3, 5] rfl rfl rfl (by decide) (fun r_4 u_4 H locs hw_4 hP hD hS => ?_)
  have hr_4 := hw_4
  refine lv_cstL (v := 1) hr_4 ?_
  have hP : va_P D classes [(h0, .inr (9, fs)), (pl, .inr (6, (fp_.set 1 (.int 0)))), (ea, .inr (3, fe_)), (er, .inl (cyJ, 41, .inr (.inl fer))), (dd, .inr (2, ds_)), (fo, .inr (5, gf__3))] H := hP
  have hD : va_D A [(h0, .inr (9, fs)), (pl, .inr (6, (fp_.set 1 (.int 0)))), (ea, .inr (3, fe_)), (er, .inl (cyJ, 41, .inr (.inl fer))), (dd, .inr (2, ds_)), (fo, .inr (5, gf__3))] := hD
  refine W.widen (k := 1) (n := 480) (by decide) (by decide) ?_
  refine lv_lconst (v := 0) hx hb dX9_before_32 (by decide) ?_
  refine W.lcmp hx hb dX9_before_33 ?_
  refine lv_cst (v := 1) (by decide) ?_
  refine lv_if_le (tgt := 71) hx hb dX9_before_34 (by decide) (fun c_5 => absurd c_5 (by decide)) (fun c_5 => ?_)
  refine lv_iconst (v := 0) hx hb dX9_before_37 (by decide) ?_
  refine lv_istore_n (lv' := [(1, .int 0), (0, .ref h0)]) hx hb dX9_before_38 rfl hl (by decide) rfl (fun ls hl => ?_)
  refine lv_iload_n hx hb dX9_before_39 rfl (lv_at hl 0 rfl) ?_
  refine lv_aload_n hx hb dX9_before_40 rfl (lv_at hl 1 rfl) ?_
  refine gf hC hK hP iX9 0 rfl rfl 3 (by decide) mw_fieldLink_RX9_27_MirrorDrill_drill_LMirrorDrill_Drill h_fs_3 dX9_before_41 ?_
  refine gf hC hK hP iX2 4 rfl rfl 1 (by decide) mw_fieldLink_RX9_144_MirrorDrill_Drill_men_I h_ds__1 dX9_before_44 ?_
  refine lv_icmp_ge (tgt := 71) hx hb dX9_before_47 (by decide) (fun c_6 => ?_) (fun c_6 => absurd (by decide) c_6)
  refine lv_aload_n hx hb dX9_before_71 rfl (lv_at hl 1 rfl) ?_
  refine gf hC hK hP iX9 0 rfl rfl 13 (by decide) mw_fieldLink_RX9_74_MirrorDrill_forebears_LMirrorDrill_Forebears h_fs_13 dX9_before_72 ?_
  refine aftL (wr := [(h0, .inr (9, fs)), (pl, .inr (6, (fp_.set 1 (.int 0)))), (ea, .inr (3, fe_)), (er, .inl (cyJ, 41, .inr (.inl fer))), (dd, .inr (2, ds_))]) (runV hC hK hP hD hl.1 (k_X5_count l D cyB cyI cyJ cyZ H.size fo gf__3 hl_gf__3 h_gf__3_3) cV_X5_count mw_methodLink_RX9_212_yX5_count [5] rfl rfl 5 rfl rfl rfl rfl rfl (Nat.le_of_ble_eq_true rfl) ⟨by decide, by decide⟩ ⟨by decide, by decide⟩ dX9_before_75) hP hD hS hA [5] [0, 1, 2, 3, 4] rfl rfl rfl (by decide) (fun r_7 u_7 H locs hw_7 hP hD hS => ?_)
  have hr_7 := hw_7
  refine lv_cstL (v := 1) hr_7 ?_
  have hP : va_P D classes [(h0, .inr (9, fs)), (pl, .inr (6, (fp_.set 1 (.int 0)))), (ea, .inr (3, fe_)), (er, .inl (cyJ, 41, .inr (.inl fer))), (dd, .inr (2, ds_)), (fo, .inr (5, gf__3))] H := hP
  have hD : va_D A [(h0, .inr (9, fs)), (pl, .inr (6, (fp_.set 1 (.int 0)))), (ea, .inr (3, fe_)), (er, .inl (cyJ, 41, .inr (.inl fer))), (dd, .inr (2, ds_)), (fo, .inr (5, gf__3))] := hD
  refine W.widen (k := 1) (n := 480) (by decide) (by decide) ?_
  refine lv_ldc2 (v := 1000000000000000) hx hb hown (hts _ mw_constantLong_RX9_222_1000000000000000) dX9_before_78 ?_
  refine va_mmin_long hx hb (by rw [hml]; exact hl.1.symm) hown (hts _ ml_l) (hts _ ml_s) (hts _ mn_i) (hts _ ml_c) (by decide) (Nat.le_of_ble_eq_true rfl) (by decide) (by decide) dX9_before_81 ?_
  refine lv_cstL (v := 1) (by decide) ?_
  exact retL hC hP hD hS (by decide) (by decide) () [] rfl rfl rfl dX9_before_84
