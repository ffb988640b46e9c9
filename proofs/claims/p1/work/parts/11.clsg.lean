theorem dX8_gather_0 : decode cX8_gather 0 = .ok (.aload_n 0, 1) := by decide +kernel
theorem dX8_gather_1 : decode cX8_gather 1 = .ok (.aload_n 1, 1) := by decide +kernel
theorem dX8_gather_2 : decode cX8_gather 2 = .ok (.putfield 51, 3) := by decide +kernel
theorem dX8_gather_5 : decode cX8_gather 5 = .ok (.aload_n 0, 1) := by decide +kernel
theorem dX8_gather_6 : decode cX8_gather 6 = .ok (.getfield 34, 3) := by decide +kernel
theorem dX8_gather_9 : decode cX8_gather 9 = .ok (.lconst 0, 1) := by decide +kernel
theorem dX8_gather_10 : decode cX8_gather 10 = .ok (.invokestatic 55, 3) := by decide +kernel
theorem dX8_gather_13 : decode cX8_gather 13 = .ok (.aload_n 0, 1) := by decide +kernel
theorem dX8_gather_14 : decode cX8_gather 14 = .ok (.getfield 38, 3) := by decide +kernel
theorem dX8_gather_17 : decode cX8_gather 17 = .ok (.lconst 0, 1) := by decide +kernel
theorem dX8_gather_18 : decode cX8_gather 18 = .ok (.invokestatic 55, 3) := by decide +kernel
theorem dX8_gather_21 : decode cX8_gather 21 = .ok (.aload_n 0, 1) := by decide +kernel
theorem dX8_gather_22 : decode cX8_gather 22 = .ok (.iconst 0, 1) := by decide +kernel
theorem dX8_gather_23 : decode cX8_gather 23 = .ok (.putfield 61, 3) := by decide +kernel
theorem dX8_gather_26 : decode cX8_gather 26 = .ok (.aload_n 0, 1) := by decide +kernel
theorem dX8_gather_27 : decode cX8_gather 27 = .ok (.iconst 0, 1) := by decide +kernel
theorem dX8_gather_28 : decode cX8_gather 28 = .ok (.putfield 64, 3) := by decide +kernel
theorem dX8_gather_31 : decode cX8_gather 31 = .ok (.iconst 0, 1) := by decide +kernel
theorem dX8_gather_32 : decode cX8_gather 32 = .ok (.istore_n 3, 1) := by decide +kernel
theorem dX8_gather_33 : decode cX8_gather 33 = .ok (.iconst 0, 1) := by decide +kernel
theorem dX8_gather_34 : decode cX8_gather 34 = .ok (.istore 4, 2) := by decide +kernel
theorem dX8_gather_36 : decode cX8_gather 36 = .ok (.iload 4, 2) := by decide +kernel
theorem dX8_gather_38 : decode cX8_gather 38 = .ok (.aload_n 0, 1) := by decide +kernel
theorem dX8_gather_39 : decode cX8_gather 39 = .ok (.getfield 27, 3) := by decide +kernel
theorem dX8_gather_42 : decode cX8_gather 42 = .ok (.if_icmp .ge 51, 3) := by decide +kernel
theorem dX8_gather_45 : decode cX8_gather 45 = .ok (.aload_n 0, 1) := by decide +kernel
theorem dX8_gather_46 : decode cX8_gather 46 = .ok (.iload 4, 2) := by decide +kernel
theorem dX8_gather_48 : decode cX8_gather 48 = .ok (.iload_n 2, 1) := by decide +kernel
theorem dX8_gather_49 : decode cX8_gather 49 = .ok (.invokevirtual 67, 3) := by decide +kernel
theorem dX8_gather_52 : decode cX8_gather 52 = .ok (.ifCond .eq 35, 3) := by decide +kernel
theorem dX8_gather_55 : decode cX8_gather 55 = .ok (.iload_n 3, 1) := by decide +kernel
theorem dX8_gather_56 : decode cX8_gather 56 = .ok (.iconst 1, 1) := by decide +kernel
theorem dX8_gather_57 : decode cX8_gather 57 = .ok (.iload 4, 2) := by decide +kernel
theorem dX8_gather_59 : decode cX8_gather 59 = .ok (.ishl, 1) := by decide +kernel
theorem dX8_gather_60 : decode cX8_gather 60 = .ok (.ior, 1) := by decide +kernel
theorem dX8_gather_61 : decode cX8_gather 61 = .ok (.istore_n 3, 1) := by decide +kernel
theorem dX8_gather_62 : decode cX8_gather 62 = .ok (.aload_n 0, 1) := by decide +kernel
theorem dX8_gather_63 : decode cX8_gather 63 = .ok (.aload_n 0, 1) := by decide +kernel
theorem dX8_gather_64 : decode cX8_gather 64 = .ok (.getfield 9, 3) := by decide +kernel
theorem dX8_gather_67 : decode cX8_gather 67 = .ok (.iload 4, 2) := by decide +kernel
theorem dX8_gather_69 : decode cX8_gather 69 = .ok (.iaload, 1) := by decide +kernel
theorem dX8_gather_70 : decode cX8_gather 70 = .ok (.aload_n 0, 1) := by decide +kernel
theorem dX8_gather_71 : decode cX8_gather 71 = .ok (.getfield 15, 3) := by decide +kernel
theorem dX8_gather_74 : decode cX8_gather 74 = .ok (.iload 4, 2) := by decide +kernel
theorem dX8_gather_76 : decode cX8_gather 76 = .ok (.iaload, 1) := by decide +kernel
theorem dX8_gather_77 : decode cX8_gather 77 = .ok (.aload_n 0, 1) := by decide +kernel
theorem dX8_gather_78 : decode cX8_gather 78 = .ok (.getfield 18, 3) := by decide +kernel
theorem dX8_gather_81 : decode cX8_gather 81 = .ok (.iload 4, 2) := by decide +kernel
theorem dX8_gather_83 : decode cX8_gather 83 = .ok (.iaload, 1) := by decide +kernel
theorem dX8_gather_84 : decode cX8_gather 84 = .ok (.invokevirtual 71, 3) := by decide +kernel
theorem dX8_gather_87 : decode cX8_gather 87 = .ok (.iinc 4 1, 3) := by decide +kernel
theorem dX8_gather_90 : decode cX8_gather 90 = .ok (.goto (-54), 3) := by decide +kernel
theorem dX8_gather_93 : decode cX8_gather 93 = .ok (.iload_n 3, 1) := by decide +kernel
theorem dX8_gather_94 : decode cX8_gather 94 = .ok (.ireturn, 1) := by decide +kernel
theorem dX8_isAsSeen_0 : decode cX8_isAsSeen 0 = .ok (.lload_n 1, 1) := by decide +kernel
theorem dX8_isAsSeen_1 : decode cX8_isAsSeen 1 = .ok (.aload_n 0, 1) := by decide +kernel
theorem dX8_isAsSeen_2 : decode cX8_isAsSeen 2 = .ok (.getfield 38, 3) := by decide +kernel
theorem dX8_isAsSeen_5 : decode cX8_isAsSeen 5 = .ok (.iload_n 3, 1) := by decide +kernel
theorem dX8_isAsSeen_6 : decode cX8_isAsSeen 6 = .ok (.laload, 1) := by decide +kernel
theorem dX8_isAsSeen_7 : decode cX8_isAsSeen 7 = .ok (.lxor, 1) := by decide +kernel
theorem dX8_isAsSeen_8 : decode cX8_isAsSeen 8 = .ok (.aload_n 0, 1) := by decide +kernel
theorem dX8_isAsSeen_9 : decode cX8_isAsSeen 9 = .ok (.getfield 34, 3) := by decide +kernel
theorem dX8_isAsSeen_12 : decode cX8_isAsSeen 12 = .ok (.iload_n 3, 1) := by decide +kernel
theorem dX8_isAsSeen_13 : decode cX8_isAsSeen 13 = .ok (.laload, 1) := by decide +kernel
theorem dX8_isAsSeen_14 : decode cX8_isAsSeen 14 = .ok (.land, 1) := by decide +kernel
theorem dX8_isAsSeen_15 : decode cX8_isAsSeen 15 = .ok (.lconst 0, 1) := by decide +kernel
theorem dX8_isAsSeen_16 : decode cX8_isAsSeen 16 = .ok (.lcmp, 1) := by decide +kernel
theorem dX8_isAsSeen_17 : decode cX8_isAsSeen 17 = .ok (.ifCond .ne 7, 3) := by decide +kernel
theorem dX8_isAsSeen_20 : decode cX8_isAsSeen 20 = .ok (.iconst 1, 1) := by decide +kernel
theorem dX8_isAsSeen_21 : decode cX8_isAsSeen 21 = .ok (.goto 4, 3) := by decide +kernel
theorem dX8_isAsSeen_24 : decode cX8_isAsSeen 24 = .ok (.iconst 0, 1) := by decide +kernel
theorem dX8_isAsSeen_25 : decode cX8_isAsSeen 25 = .ok (.ireturn, 1) := by decide +kernel
theorem dX8_holds_0 : decode cX8_holds 0 = .ok (.lload_n 1, 1) := by decide +kernel
theorem dX8_holds_1 : decode cX8_holds 1 = .ok (.lstore 6, 2) := by decide +kernel
theorem dX8_holds_3 : decode cX8_holds 3 = .ok (.aload_n 0, 1) := by decide +kernel
theorem dX8_holds_4 : decode cX8_holds 4 = .ok (.getfield 64, 3) := by decide +kernel
theorem dX8_holds_7 : decode cX8_holds 7 = .ok (.ifCond .ne 17, 3) := by decide +kernel
theorem dX8_holds_10 : decode cX8_holds 10 = .ok (.aload_n 0, 1) := by decide +kernel
theorem dX8_holds_11 : decode cX8_holds 11 = .ok (.lload 6, 2) := by decide +kernel
theorem dX8_holds_13 : decode cX8_holds 13 = .ok (.iconst 0, 1) := by decide +kernel
theorem dX8_holds_14 : decode cX8_holds 14 = .ok (.invokevirtual 89, 3) := by decide +kernel
theorem dX8_holds_17 : decode cX8_holds 17 = .ok (.ifCond .eq 7, 3) := by decide +kernel
theorem dX8_holds_20 : decode cX8_holds 20 = .ok (.iconst 1, 1) := by decide +kernel
theorem dX8_holds_21 : decode cX8_holds 21 = .ok (.goto 4, 3) := by decide +kernel
theorem dX8_holds_24 : decode cX8_holds 24 = .ok (.iconst 0, 1) := by decide +kernel
theorem dX8_holds_25 : decode cX8_holds 25 = .ok (.istore 8, 2) := by decide +kernel
theorem dX8_holds_27 : decode cX8_holds 27 = .ok (.iconst 1, 1) := by decide +kernel
theorem dX8_holds_28 : decode cX8_holds 28 = .ok (.istore 9, 2) := by decide +kernel
theorem dX8_holds_30 : decode cX8_holds 30 = .ok (.iload 9, 2) := by decide +kernel
theorem dX8_holds_32 : decode cX8_holds 32 = .ok (.aload_n 0, 1) := by decide +kernel
theorem dX8_holds_33 : decode cX8_holds 33 = .ok (.getfield 61, 3) := by decide +kernel
theorem dX8_holds_36 : decode cX8_holds 36 = .ok (.if_icmp .gt 91, 3) := by decide +kernel
theorem dX8_holds_39 : decode cX8_holds 39 = .ok (.iload 8, 2) := by decide +kernel
theorem dX8_holds_41 : decode cX8_holds 41 = .ok (.ifCond .eq 86, 3) := by decide +kernel
theorem dX8_holds_44 : decode cX8_holds 44 = .ok (.aload_n 0, 1) := by decide +kernel
theorem dX8_holds_45 : decode cX8_holds 45 = .ok (.getfield 51, 3) := by decide +kernel
theorem dX8_holds_48 : decode cX8_holds 48 = .ok (.lload 6, 2) := by decide +kernel
theorem dX8_holds_50 : decode cX8_holds 50 = .ok (.invokevirtual 93, 3) := by decide +kernel
theorem dX8_holds_53 : decode cX8_holds 53 = .ok (.lstore 10, 2) := by decide +kernel
theorem dX8_holds_55 : decode cX8_holds 55 = .ok (.iload_n 3, 1) := by decide +kernel
theorem dX8_holds_56 : decode cX8_holds 56 = .ok (.iconst (-1), 1) := by decide +kernel
theorem dX8_holds_57 : decode cX8_holds 57 = .ok (.if_icmp .eq 17, 3) := by decide +kernel
theorem dX8_holds_60 : decode cX8_holds 60 = .ok (.lload 10, 2) := by decide +kernel
theorem dX8_holds_62 : decode cX8_holds 62 = .ok (.iload_n 3, 1) := by decide +kernel
theorem dX8_holds_63 : decode cX8_holds 63 = .ok (.lload 6, 2) := by decide +kernel
theorem dX8_holds_65 : decode cX8_holds 65 = .ok (.iload_n 3, 1) := by decide +kernel
theorem dX8_holds_66 : decode cX8_holds 66 = .ok (.invokestatic 75, 3) := by decide +kernel
theorem dX8_holds_69 : decode cX8_holds 69 = .ok (.invokestatic 79, 3) := by decide +kernel
theorem dX8_holds_72 : decode cX8_holds 72 = .ok (.lstore 10, 2) := by decide +kernel
theorem dX8_holds_74 : decode cX8_holds 74 = .ok (.iload 4, 2) := by decide +kernel
theorem dX8_holds_76 : decode cX8_holds 76 = .ok (.iconst (-1), 1) := by decide +kernel
theorem dX8_holds_77 : decode cX8_holds 77 = .ok (.if_icmp .eq 30, 3) := by decide +kernel
theorem dX8_holds_80 : decode cX8_holds 80 = .ok (.lload 10, 2) := by decide +kernel
theorem dX8_holds_82 : decode cX8_holds 82 = .ok (.iload 4, 2) := by decide +kernel
theorem dX8_holds_84 : decode cX8_holds 84 = .ok (.aload_n 0, 1) := by decide +kernel
theorem dX8_holds_85 : decode cX8_holds 85 = .ok (.getfield 51, 3) := by decide +kernel
theorem dX8_holds_88 : decode cX8_holds 88 = .ok (.iload 4, 2) := by decide +kernel
theorem dX8_holds_90 : decode cX8_holds 90 = .ok (.iload 5, 2) := by decide +kernel
theorem dX8_holds_92 : decode cX8_holds 92 = .ok (.lload 6, 2) := by decide +kernel
theorem dX8_holds_94 : decode cX8_holds 94 = .ok (.iload 4, 2) := by decide +kernel
theorem dX8_holds_96 : decode cX8_holds 96 = .ok (.invokestatic 75, 3) := by decide +kernel
theorem dX8_holds_99 : decode cX8_holds 99 = .ok (.invokevirtual 99, 3) := by decide +kernel
theorem dX8_holds_102 : decode cX8_holds 102 = .ok (.invokestatic 79, 3) := by decide +kernel
theorem dX8_holds_105 : decode cX8_holds 105 = .ok (.lstore 10, 2) := by decide +kernel
theorem dX8_holds_107 : decode cX8_holds 107 = .ok (.lload 10, 2) := by decide +kernel
theorem dX8_holds_109 : decode cX8_holds 109 = .ok (.lstore 6, 2) := by decide +kernel
theorem dX8_holds_111 : decode cX8_holds 111 = .ok (.aload_n 0, 1) := by decide +kernel
theorem dX8_holds_112 : decode cX8_holds 112 = .ok (.lload 6, 2) := by decide +kernel
theorem dX8_holds_114 : decode cX8_holds 114 = .ok (.iload 9, 2) := by decide +kernel
theorem dX8_holds_116 : decode cX8_holds 116 = .ok (.invokevirtual 89, 3) := by decide +kernel
theorem dX8_holds_119 : decode cX8_holds 119 = .ok (.istore 8, 2) := by decide +kernel
theorem dX8_holds_121 : decode cX8_holds 121 = .ok (.iinc 9 1, 3) := by decide +kernel
theorem dX8_holds_124 : decode cX8_holds 124 = .ok (.goto (-94), 3) := by decide +kernel
theorem dX8_holds_127 : decode cX8_holds 127 = .ok (.iload 8, 2) := by decide +kernel
theorem dX8_holds_129 : decode cX8_holds 129 = .ok (.ireturn, 1) := by decide +kernel
theorem dX8_listUnsure_0 : decode cX8_listUnsure 0 = .ok (.iconst 0, 1) := by decide +kernel
theorem dX8_listUnsure_1 : decode cX8_listUnsure 1 = .ok (.istore_n 1, 1) := by decide +kernel
theorem dX8_listUnsure_2 : decode cX8_listUnsure 2 = .ok (.iconst 0, 1) := by decide +kernel
theorem dX8_listUnsure_3 : decode cX8_listUnsure 3 = .ok (.istore_n 2, 1) := by decide +kernel
theorem dX8_listUnsure_4 : decode cX8_listUnsure 4 = .ok (.iload_n 2, 1) := by decide +kernel
theorem dX8_listUnsure_5 : decode cX8_listUnsure 5 = .ok (.aload_n 0, 1) := by decide +kernel
theorem dX8_listUnsure_6 : decode cX8_listUnsure 6 = .ok (.getfield 51, 3) := by decide +kernel
theorem dX8_listUnsure_9 : decode cX8_listUnsure 9 = .ok (.getfield 116, 3) := by decide +kernel
theorem dX8_listUnsure_12 : decode cX8_listUnsure 12 = .ok (.if_icmp .ge 33, 3) := by decide +kernel
theorem dX8_listUnsure_15 : decode cX8_listUnsure 15 = .ok (.iload_n 1, 1) := by decide +kernel
theorem dX8_listUnsure_16 : decode cX8_listUnsure 16 = .ok (.bipush 6, 2) := by decide +kernel
theorem dX8_listUnsure_18 : decode cX8_listUnsure 18 = .ok (.if_icmp .ge 27, 3) := by decide +kernel
theorem dX8_listUnsure_21 : decode cX8_listUnsure 21 = .ok (.aload_n 0, 1) := by decide +kernel
theorem dX8_listUnsure_22 : decode cX8_listUnsure 22 = .ok (.iload_n 2, 1) := by decide +kernel
theorem dX8_listUnsure_23 : decode cX8_listUnsure 23 = .ok (.invokevirtual 119, 3) := by decide +kernel
theorem dX8_listUnsure_26 : decode cX8_listUnsure 26 = .ok (.ifCond .eq 13, 3) := by decide +kernel
theorem dX8_listUnsure_29 : decode cX8_listUnsure 29 = .ok (.aload_n 0, 1) := by decide +kernel
theorem dX8_listUnsure_30 : decode cX8_listUnsure 30 = .ok (.getfield 41, 3) := by decide +kernel
theorem dX8_listUnsure_33 : decode cX8_listUnsure 33 = .ok (.iload_n 1, 1) := by decide +kernel
theorem dX8_listUnsure_34 : decode cX8_listUnsure 34 = .ok (.iload_n 2, 1) := by decide +kernel
theorem dX8_listUnsure_35 : decode cX8_listUnsure 35 = .ok (.iastore, 1) := by decide +kernel
theorem dX8_listUnsure_36 : decode cX8_listUnsure 36 = .ok (.iinc 1 1, 3) := by decide +kernel
theorem dX8_listUnsure_39 : decode cX8_listUnsure 39 = .ok (.iinc 2 1, 3) := by decide +kernel
theorem dX8_listUnsure_42 : decode cX8_listUnsure 42 = .ok (.goto (-38), 3) := by decide +kernel
theorem dX8_listUnsure_45 : decode cX8_listUnsure 45 = .ok (.iload_n 1, 1) := by decide +kernel
theorem dX8_listUnsure_46 : decode cX8_listUnsure 46 = .ok (.ireturn, 1) := by decide +kernel
theorem dX8_rowOfCase_0 : decode cX8_rowOfCase 0 = .ok (.aload_n 0, 1) := by decide +kernel
theorem dX8_rowOfCase_1 : decode cX8_rowOfCase 1 = .ok (.getfield 51, 3) := by decide +kernel
theorem dX8_rowOfCase_4 : decode cX8_rowOfCase 4 = .ok (.getfield 145, 3) := by decide +kernel
theorem dX8_rowOfCase_7 : decode cX8_rowOfCase 7 = .ok (.lstore_n 3, 1) := by decide +kernel
theorem dX8_rowOfCase_8 : decode cX8_rowOfCase 8 = .ok (.iload_n 1, 1) := by decide +kernel
theorem dX8_rowOfCase_9 : decode cX8_rowOfCase 9 = .ok (.istore 5, 2) := by decide +kernel
theorem dX8_rowOfCase_11 : decode cX8_rowOfCase 11 = .ok (.iconst 0, 1) := by decide +kernel
theorem dX8_rowOfCase_12 : decode cX8_rowOfCase 12 = .ok (.istore 6, 2) := by decide +kernel
theorem dX8_rowOfCase_14 : decode cX8_rowOfCase 14 = .ok (.iload 6, 2) := by decide +kernel
theorem dX8_rowOfCase_16 : decode cX8_rowOfCase 16 = .ok (.iload_n 2, 1) := by decide +kernel
theorem dX8_rowOfCase_17 : decode cX8_rowOfCase 17 = .ok (.if_icmp .ge 53, 3) := by decide +kernel
theorem dX8_rowOfCase_20 : decode cX8_rowOfCase 20 = .ok (.aload_n 0, 1) := by decide +kernel
theorem dX8_rowOfCase_21 : decode cX8_rowOfCase 21 = .ok (.getfield 51, 3) := by decide +kernel
theorem dX8_rowOfCase_24 : decode cX8_rowOfCase 24 = .ok (.getfield 127, 3) := by decide +kernel
theorem dX8_rowOfCase_27 : decode cX8_rowOfCase 27 = .ok (.ifCond .le 43, 3) := by decide +kernel
theorem dX8_rowOfCase_30 : decode cX8_rowOfCase 30 = .ok (.lload_n 3, 1) := by decide +kernel
theorem dX8_rowOfCase_31 : decode cX8_rowOfCase 31 = .ok (.aload_n 0, 1) := by decide +kernel
theorem dX8_rowOfCase_32 : decode cX8_rowOfCase 32 = .ok (.getfield 41, 3) := by decide +kernel
theorem dX8_rowOfCase_35 : decode cX8_rowOfCase 35 = .ok (.iload 6, 2) := by decide +kernel
theorem dX8_rowOfCase_37 : decode cX8_rowOfCase 37 = .ok (.iaload, 1) := by decide +kernel
theorem dX8_rowOfCase_38 : decode cX8_rowOfCase 38 = .ok (.iload 5, 2) := by decide +kernel
theorem dX8_rowOfCase_40 : decode cX8_rowOfCase 40 = .ok (.aload_n 0, 1) := by decide +kernel
theorem dX8_rowOfCase_41 : decode cX8_rowOfCase 41 = .ok (.getfield 51, 3) := by decide +kernel
theorem dX8_rowOfCase_44 : decode cX8_rowOfCase 44 = .ok (.getfield 127, 3) := by decide +kernel
theorem dX8_rowOfCase_47 : decode cX8_rowOfCase 47 = .ok (.irem, 1) := by decide +kernel
theorem dX8_rowOfCase_48 : decode cX8_rowOfCase 48 = .ok (.invokestatic 79, 3) := by decide +kernel
theorem dX8_rowOfCase_51 : decode cX8_rowOfCase 51 = .ok (.lstore_n 3, 1) := by decide +kernel
theorem dX8_rowOfCase_52 : decode cX8_rowOfCase 52 = .ok (.iload 5, 2) := by decide +kernel
theorem dX8_rowOfCase_54 : decode cX8_rowOfCase 54 = .ok (.aload_n 0, 1) := by decide +kernel
theorem dX8_rowOfCase_55 : decode cX8_rowOfCase 55 = .ok (.getfield 51, 3) := by decide +kernel
theorem dX8_rowOfCase_58 : decode cX8_rowOfCase 58 = .ok (.getfield 127, 3) := by decide +kernel
theorem dX8_rowOfCase_61 : decode cX8_rowOfCase 61 = .ok (.idiv, 1) := by decide +kernel
theorem dX8_rowOfCase_62 : decode cX8_rowOfCase 62 = .ok (.istore 5, 2) := by decide +kernel
theorem dX8_rowOfCase_64 : decode cX8_rowOfCase 64 = .ok (.iinc 6 1, 3) := by decide +kernel
theorem dX8_rowOfCase_67 : decode cX8_rowOfCase 67 = .ok (.goto (-53), 3) := by decide +kernel
theorem dX8_rowOfCase_70 : decode cX8_rowOfCase 70 = .ok (.lload_n 3, 1) := by decide +kernel
theorem dX8_rowOfCase_71 : decode cX8_rowOfCase 71 = .ok (.lreturn, 1) := by decide +kernel
theorem dX8_noteMoves_0 : decode cX8_noteMoves 0 = .ok (.iconst 0, 1) := by decide +kernel
theorem dX8_noteMoves_1 : decode cX8_noteMoves 1 = .ok (.istore 4, 2) := by decide +kernel
theorem dX8_noteMoves_3 : decode cX8_noteMoves 3 = .ok (.iload 4, 2) := by decide +kernel
theorem dX8_noteMoves_5 : decode cX8_noteMoves 5 = .ok (.iload_n 3, 1) := by decide +kernel
theorem dX8_noteMoves_6 : decode cX8_noteMoves 6 = .ok (.if_icmp .ge 37, 3) := by decide +kernel
theorem dX8_noteMoves_9 : decode cX8_noteMoves 9 = .ok (.aload_n 0, 1) := by decide +kernel
theorem dX8_noteMoves_10 : decode cX8_noteMoves 10 = .ok (.getfield 48, 3) := by decide +kernel
theorem dX8_noteMoves_13 : decode cX8_noteMoves 13 = .ok (.aload_n 0, 1) := by decide +kernel
theorem dX8_noteMoves_14 : decode cX8_noteMoves 14 = .ok (.getfield 41, 3) := by decide +kernel
theorem dX8_noteMoves_17 : decode cX8_noteMoves 17 = .ok (.iload 4, 2) := by decide +kernel
theorem dX8_noteMoves_19 : decode cX8_noteMoves 19 = .ok (.iaload, 1) := by decide +kernel
theorem dX8_noteMoves_20 : decode cX8_noteMoves 20 = .ok (.dup2, 1) := by decide +kernel
theorem dX8_noteMoves_21 : decode cX8_noteMoves 21 = .ok (.iaload, 1) := by decide +kernel
theorem dX8_noteMoves_22 : decode cX8_noteMoves 22 = .ok (.iconst 1, 1) := by decide +kernel
theorem dX8_noteMoves_23 : decode cX8_noteMoves 23 = .ok (.lload_n 1, 1) := by decide +kernel
theorem dX8_noteMoves_24 : decode cX8_noteMoves 24 = .ok (.aload_n 0, 1) := by decide +kernel
theorem dX8_noteMoves_25 : decode cX8_noteMoves 25 = .ok (.getfield 41, 3) := by decide +kernel
theorem dX8_noteMoves_28 : decode cX8_noteMoves 28 = .ok (.iload 4, 2) := by decide +kernel
theorem dX8_noteMoves_30 : decode cX8_noteMoves 30 = .ok (.iaload, 1) := by decide +kernel
theorem dX8_noteMoves_31 : decode cX8_noteMoves 31 = .ok (.invokestatic 75, 3) := by decide +kernel
theorem dX8_noteMoves_34 : decode cX8_noteMoves 34 = .ok (.ishl, 1) := by decide +kernel
theorem dX8_noteMoves_35 : decode cX8_noteMoves 35 = .ok (.ior, 1) := by decide +kernel
theorem dX8_noteMoves_36 : decode cX8_noteMoves 36 = .ok (.iastore, 1) := by decide +kernel
theorem dX8_noteMoves_37 : decode cX8_noteMoves 37 = .ok (.iinc 4 1, 3) := by decide +kernel
theorem dX8_noteMoves_40 : decode cX8_noteMoves 40 = .ok (.goto (-37), 3) := by decide +kernel
theorem dX8_noteMoves_43 : decode cX8_noteMoves 43 = .ok (.return_, 1) := by decide +kernel
theorem dX8_tryAll_0 : decode cX8_tryAll 0 = .ok (.aload_n 0, 1) := by decide +kernel
theorem dX8_tryAll_1 : decode cX8_tryAll 1 = .ok (.invokevirtual 123, 3) := by decide +kernel
theorem dX8_tryAll_4 : decode cX8_tryAll 4 = .ok (.istore_n 1, 1) := by decide +kernel
theorem dX8_tryAll_5 : decode cX8_tryAll 5 = .ok (.iconst 1, 1) := by decide +kernel
theorem dX8_tryAll_6 : decode cX8_tryAll 6 = .ok (.istore_n 2, 1) := by decide +kernel
theorem dX8_tryAll_7 : decode cX8_tryAll 7 = .ok (.iconst 0, 1) := by decide +kernel
theorem dX8_tryAll_8 : decode cX8_tryAll 8 = .ok (.istore_n 3, 1) := by decide +kernel
theorem dX8_tryAll_9 : decode cX8_tryAll 9 = .ok (.iload_n 3, 1) := by decide +kernel
theorem dX8_tryAll_10 : decode cX8_tryAll 10 = .ok (.iload_n 1, 1) := by decide +kernel
theorem dX8_tryAll_11 : decode cX8_tryAll 11 = .ok (.if_icmp .ge 19, 3) := by decide +kernel
theorem dX8_tryAll_14 : decode cX8_tryAll 14 = .ok (.iload_n 2, 1) := by decide +kernel
theorem dX8_tryAll_15 : decode cX8_tryAll 15 = .ok (.aload_n 0, 1) := by decide +kernel
theorem dX8_tryAll_16 : decode cX8_tryAll 16 = .ok (.getfield 51, 3) := by decide +kernel
theorem dX8_tryAll_19 : decode cX8_tryAll 19 = .ok (.getfield 127, 3) := by decide +kernel
theorem dX8_tryAll_22 : decode cX8_tryAll 22 = .ok (.imul, 1) := by decide +kernel
theorem dX8_tryAll_23 : decode cX8_tryAll 23 = .ok (.istore_n 2, 1) := by decide +kernel
theorem dX8_tryAll_24 : decode cX8_tryAll 24 = .ok (.iinc 3 1, 3) := by decide +kernel
theorem dX8_tryAll_27 : decode cX8_tryAll 27 = .ok (.goto (-18), 3) := by decide +kernel
theorem dX8_tryAll_30 : decode cX8_tryAll 30 = .ok (.aload_n 0, 1) := by decide +kernel
theorem dX8_tryAll_31 : decode cX8_tryAll 31 = .ok (.iconst 0, 1) := by decide +kernel
theorem dX8_tryAll_32 : decode cX8_tryAll 32 = .ok (.putfield 113, 3) := by decide +kernel
theorem dX8_tryAll_35 : decode cX8_tryAll 35 = .ok (.aload_n 0, 1) := by decide +kernel
theorem dX8_tryAll_36 : decode cX8_tryAll 36 = .ok (.getfield 48, 3) := by decide +kernel
theorem dX8_tryAll_39 : decode cX8_tryAll 39 = .ok (.iconst 0, 1) := by decide +kernel
theorem dX8_tryAll_40 : decode cX8_tryAll 40 = .ok (.invokestatic 130, 3) := by decide +kernel
theorem dX8_tryAll_43 : decode cX8_tryAll 43 = .ok (.iconst 0, 1) := by decide +kernel
theorem dX8_tryAll_44 : decode cX8_tryAll 44 = .ok (.istore_n 3, 1) := by decide +kernel
theorem dX8_tryAll_45 : decode cX8_tryAll 45 = .ok (.iload_n 3, 1) := by decide +kernel
theorem dX8_tryAll_46 : decode cX8_tryAll 46 = .ok (.iload_n 2, 1) := by decide +kernel
theorem dX8_tryAll_47 : decode cX8_tryAll 47 = .ok (.if_icmp .ge 46, 3) := by decide +kernel
theorem dX8_tryAll_50 : decode cX8_tryAll 50 = .ok (.aload_n 0, 1) := by decide +kernel
theorem dX8_tryAll_51 : decode cX8_tryAll 51 = .ok (.iload_n 3, 1) := by decide +kernel
theorem dX8_tryAll_52 : decode cX8_tryAll 52 = .ok (.iload_n 1, 1) := by decide +kernel
theorem dX8_tryAll_53 : decode cX8_tryAll 53 = .ok (.invokevirtual 133, 3) := by decide +kernel
theorem dX8_tryAll_56 : decode cX8_tryAll 56 = .ok (.lstore 4, 2) := by decide +kernel
theorem dX8_tryAll_58 : decode cX8_tryAll 58 = .ok (.aload_n 0, 1) := by decide +kernel
theorem dX8_tryAll_59 : decode cX8_tryAll 59 = .ok (.lload 4, 2) := by decide +kernel
theorem dX8_tryAll_61 : decode cX8_tryAll 61 = .ok (.iconst (-1), 1) := by decide +kernel
theorem dX8_tryAll_62 : decode cX8_tryAll 62 = .ok (.iconst (-1), 1) := by decide +kernel
theorem dX8_tryAll_63 : decode cX8_tryAll 63 = .ok (.iconst (-1), 1) := by decide +kernel
theorem dX8_tryAll_64 : decode cX8_tryAll 64 = .ok (.invokevirtual 137, 3) := by decide +kernel
theorem dX8_tryAll_67 : decode cX8_tryAll 67 = .ok (.ifCond .eq 20, 3) := by decide +kernel
theorem dX8_tryAll_70 : decode cX8_tryAll 70 = .ok (.aload_n 0, 1) := by decide +kernel
theorem dX8_tryAll_71 : decode cX8_tryAll 71 = .ok (.dup, 1) := by decide +kernel
theorem dX8_tryAll_72 : decode cX8_tryAll 72 = .ok (.getfield 113, 3) := by decide +kernel
theorem dX8_tryAll_75 : decode cX8_tryAll 75 = .ok (.iconst 1, 1) := by decide +kernel
theorem dX8_tryAll_76 : decode cX8_tryAll 76 = .ok (.iadd, 1) := by decide +kernel
theorem dX8_tryAll_77 : decode cX8_tryAll 77 = .ok (.putfield 113, 3) := by decide +kernel
theorem dX8_tryAll_80 : decode cX8_tryAll 80 = .ok (.aload_n 0, 1) := by decide +kernel
theorem dX8_tryAll_81 : decode cX8_tryAll 81 = .ok (.lload 4, 2) := by decide +kernel
theorem dX8_tryAll_83 : decode cX8_tryAll 83 = .ok (.iload_n 1, 1) := by decide +kernel
theorem dX8_tryAll_84 : decode cX8_tryAll 84 = .ok (.invokevirtual 141, 3) := by decide +kernel
theorem dX8_tryAll_87 : decode cX8_tryAll 87 = .ok (.iinc 3 1, 3) := by decide +kernel
theorem dX8_tryAll_90 : decode cX8_tryAll 90 = .ok (.goto (-45), 3) := by decide +kernel
theorem dX8_tryAll_93 : decode cX8_tryAll 93 = .ok (.return_, 1) := by decide +kernel
theorem dX8_fitting_0 : decode cX8_fitting 0 = .ok (.aload_n 0, 1) := by decide +kernel
theorem dX8_fitting_1 : decode cX8_fitting 1 = .ok (.aload_n 1, 1) := by decide +kernel
theorem dX8_fitting_2 : decode cX8_fitting 2 = .ok (.iload_n 2, 1) := by decide +kernel
theorem dX8_fitting_3 : decode cX8_fitting 3 = .ok (.invokevirtual 103, 3) := by decide +kernel
theorem dX8_fitting_6 : decode cX8_fitting 6 = .ok (.istore_n 3, 1) := by decide +kernel
theorem dX8_fitting_7 : decode cX8_fitting 7 = .ok (.aload_n 0, 1) := by decide +kernel
theorem dX8_fitting_8 : decode cX8_fitting 8 = .ok (.getfield 44, 3) := by decide +kernel
theorem dX8_fitting_11 : decode cX8_fitting 11 = .ok (.ifCond .eq 11, 3) := by decide +kernel
theorem dX8_fitting_14 : decode cX8_fitting 14 = .ok (.iload_n 3, 1) := by decide +kernel
theorem dX8_fitting_15 : decode cX8_fitting 15 = .ok (.aload_n 0, 1) := by decide +kernel
theorem dX8_fitting_16 : decode cX8_fitting 16 = .ok (.getfield 107, 3) := by decide +kernel
theorem dX8_fitting_19 : decode cX8_fitting 19 = .ok (.if_icmp .eq 17, 3) := by decide +kernel
theorem dX8_fitting_22 : decode cX8_fitting 22 = .ok (.aload_n 0, 1) := by decide +kernel
theorem dX8_fitting_23 : decode cX8_fitting 23 = .ok (.invokevirtual 110, 3) := by decide +kernel
theorem dX8_fitting_26 : decode cX8_fitting 26 = .ok (.aload_n 0, 1) := by decide +kernel
theorem dX8_fitting_27 : decode cX8_fitting 27 = .ok (.iconst 1, 1) := by decide +kernel
theorem dX8_fitting_28 : decode cX8_fitting 28 = .ok (.putfield 44, 3) := by decide +kernel
theorem dX8_fitting_31 : decode cX8_fitting 31 = .ok (.aload_n 0, 1) := by decide +kernel
theorem dX8_fitting_32 : decode cX8_fitting 32 = .ok (.iload_n 3, 1) := by decide +kernel
theorem dX8_fitting_33 : decode cX8_fitting 33 = .ok (.putfield 107, 3) := by decide +kernel
theorem dX8_fitting_36 : decode cX8_fitting 36 = .ok (.aload_n 0, 1) := by decide +kernel
theorem dX8_fitting_37 : decode cX8_fitting 37 = .ok (.getfield 113, 3) := by decide +kernel
theorem dX8_fitting_40 : decode cX8_fitting 40 = .ok (.ireturn, 1) := by decide +kernel
theorem dX9_fits_0 : decode cX9_fits 0 = .ok (.aload_n 0, 1) := by decide +kernel
theorem dX9_fits_1 : decode cX9_fits 1 = .ok (.getfield 95, 3) := by decide +kernel
theorem dX9_fits_4 : decode cX9_fits 4 = .ok (.aload_n 0, 1) := by decide +kernel
theorem dX9_fits_5 : decode cX9_fits 5 = .ok (.getfield 27, 3) := by decide +kernel
theorem dX9_fits_8 : decode cX9_fits 8 = .ok (.iload_n 1, 1) := by decide +kernel
theorem dX9_fits_9 : decode cX9_fits 9 = .ok (.invokevirtual 275, 3) := by decide +kernel
theorem dX9_fits_12 : decode cX9_fits 12 = .ok (.ireturn, 1) := by decide +kernel
theorem dX8_nothingWrong_0 : decode cX8_nothingWrong 0 = .ok (.aload_n 0, 1) := by decide +kernel
theorem dX8_nothingWrong_1 : decode cX8_nothingWrong 1 = .ok (.aload_n 1, 1) := by decide +kernel
theorem dX8_nothingWrong_2 : decode cX8_nothingWrong 2 = .ok (.iload_n 2, 1) := by decide +kernel
theorem dX8_nothingWrong_3 : decode cX8_nothingWrong 3 = .ok (.invokevirtual 103, 3) := by decide +kernel
theorem dX8_nothingWrong_6 : decode cX8_nothingWrong 6 = .ok (.pop, 1) := by decide +kernel
theorem dX8_nothingWrong_7 : decode cX8_nothingWrong 7 = .ok (.aload_n 0, 1) := by decide +kernel
theorem dX8_nothingWrong_8 : decode cX8_nothingWrong 8 = .ok (.aload_n 1, 1) := by decide +kernel
theorem dX8_nothingWrong_9 : decode cX8_nothingWrong 9 = .ok (.getfield 145, 3) := by decide +kernel
theorem dX8_nothingWrong_12 : decode cX8_nothingWrong 12 = .ok (.iconst (-1), 1) := by decide +kernel
theorem dX8_nothingWrong_13 : decode cX8_nothingWrong 13 = .ok (.iconst (-1), 1) := by decide +kernel
theorem dX8_nothingWrong_14 : decode cX8_nothingWrong 14 = .ok (.iconst (-1), 1) := by decide +kernel
theorem dX8_nothingWrong_15 : decode cX8_nothingWrong 15 = .ok (.invokevirtual 137, 3) := by decide +kernel
theorem dX8_nothingWrong_18 : decode cX8_nothingWrong 18 = .ok (.ireturn, 1) := by decide +kernel
theorem dX8_menMaybeCracked_0 : decode cX8_menMaybeCracked 0 = .ok (.aload_n 0, 1) := by decide +kernel
theorem dX8_menMaybeCracked_1 : decode cX8_menMaybeCracked 1 = .ok (.aload_n 1, 1) := by decide +kernel
theorem dX8_menMaybeCracked_2 : decode cX8_menMaybeCracked 2 = .ok (.iload_n 2, 1) := by decide +kernel
theorem dX8_menMaybeCracked_3 : decode cX8_menMaybeCracked 3 = .ok (.invokevirtual 103, 3) := by decide +kernel
theorem dX8_menMaybeCracked_6 : decode cX8_menMaybeCracked 6 = .ok (.pop, 1) := by decide +kernel
theorem dX8_menMaybeCracked_7 : decode cX8_menMaybeCracked 7 = .ok (.iconst 0, 1) := by decide +kernel
theorem dX8_menMaybeCracked_8 : decode cX8_menMaybeCracked 8 = .ok (.istore_n 3, 1) := by decide +kernel
theorem dX8_menMaybeCracked_9 : decode cX8_menMaybeCracked 9 = .ok (.iconst 0, 1) := by decide +kernel
theorem dX8_menMaybeCracked_10 : decode cX8_menMaybeCracked 10 = .ok (.istore 4, 2) := by decide +kernel
theorem dX8_menMaybeCracked_12 : decode cX8_menMaybeCracked 12 = .ok (.iload 4, 2) := by decide +kernel
theorem dX8_menMaybeCracked_14 : decode cX8_menMaybeCracked 14 = .ok (.aload_n 1, 1) := by decide +kernel
theorem dX8_menMaybeCracked_15 : decode cX8_menMaybeCracked 15 = .ok (.getfield 116, 3) := by decide +kernel
theorem dX8_menMaybeCracked_18 : decode cX8_menMaybeCracked 18 = .ok (.if_icmp .ge 40, 3) := by decide +kernel
theorem dX8_menMaybeCracked_21 : decode cX8_menMaybeCracked 21 = .ok (.aload_n 1, 1) := by decide +kernel
theorem dX8_menMaybeCracked_22 : decode cX8_menMaybeCracked 22 = .ok (.iload 4, 2) := by decide +kernel
theorem dX8_menMaybeCracked_24 : decode cX8_menMaybeCracked 24 = .ok (.invokevirtual 149, 3) := by decide +kernel
theorem dX8_menMaybeCracked_27 : decode cX8_menMaybeCracked 27 = .ok (.ifCond .ne 25, 3) := by decide +kernel
theorem dX8_menMaybeCracked_30 : decode cX8_menMaybeCracked 30 = .ok (.aload_n 0, 1) := by decide +kernel
theorem dX8_menMaybeCracked_31 : decode cX8_menMaybeCracked 31 = .ok (.aload_n 1, 1) := by decide +kernel
theorem dX8_menMaybeCracked_32 : decode cX8_menMaybeCracked 32 = .ok (.getfield 145, 3) := by decide +kernel
theorem dX8_menMaybeCracked_35 : decode cX8_menMaybeCracked 35 = .ok (.iload 4, 2) := by decide +kernel
theorem dX8_menMaybeCracked_37 : decode cX8_menMaybeCracked 37 = .ok (.iconst (-1), 1) := by decide +kernel
theorem dX8_menMaybeCracked_38 : decode cX8_menMaybeCracked 38 = .ok (.iconst (-1), 1) := by decide +kernel
theorem dX8_menMaybeCracked_39 : decode cX8_menMaybeCracked 39 = .ok (.invokevirtual 137, 3) := by decide +kernel
theorem dX8_menMaybeCracked_42 : decode cX8_menMaybeCracked 42 = .ok (.ifCond .eq 10, 3) := by decide +kernel
theorem dX8_menMaybeCracked_45 : decode cX8_menMaybeCracked 45 = .ok (.iload_n 3, 1) := by decide +kernel
theorem dX8_menMaybeCracked_46 : decode cX8_menMaybeCracked 46 = .ok (.iconst 1, 1) := by decide +kernel
theorem dX8_menMaybeCracked_47 : decode cX8_menMaybeCracked 47 = .ok (.iload 4, 2) := by decide +kernel
theorem dX8_menMaybeCracked_49 : decode cX8_menMaybeCracked 49 = .ok (.ishl, 1) := by decide +kernel
theorem dX8_menMaybeCracked_50 : decode cX8_menMaybeCracked 50 = .ok (.ior, 1) := by decide +kernel
theorem dX8_menMaybeCracked_51 : decode cX8_menMaybeCracked 51 = .ok (.istore_n 3, 1) := by decide +kernel
theorem dX8_menMaybeCracked_52 : decode cX8_menMaybeCracked 52 = .ok (.iinc 4 1, 3) := by decide +kernel
theorem dX8_menMaybeCracked_55 : decode cX8_menMaybeCracked 55 = .ok (.goto (-43), 3) := by decide +kernel
theorem dX8_menMaybeCracked_58 : decode cX8_menMaybeCracked 58 = .ok (.iload_n 3, 1) := by decide +kernel
theorem dX8_menMaybeCracked_59 : decode cX8_menMaybeCracked 59 = .ok (.ireturn, 1) := by decide +kernel
theorem dX8_menMaybeWindowed_0 : decode cX8_menMaybeWindowed 0 = .ok (.aload_n 0, 1) := by decide +kernel
theorem dX8_menMaybeWindowed_1 : decode cX8_menMaybeWindowed 1 = .ok (.aload_n 1, 1) := by decide +kernel
theorem dX8_menMaybeWindowed_2 : decode cX8_menMaybeWindowed 2 = .ok (.iload_n 2, 1) := by decide +kernel
theorem dX8_menMaybeWindowed_3 : decode cX8_menMaybeWindowed 3 = .ok (.invokevirtual 103, 3) := by decide +kernel
theorem dX8_menMaybeWindowed_6 : decode cX8_menMaybeWindowed 6 = .ok (.pop, 1) := by decide +kernel
theorem dX8_menMaybeWindowed_7 : decode cX8_menMaybeWindowed 7 = .ok (.iconst 0, 1) := by decide +kernel
theorem dX8_menMaybeWindowed_8 : decode cX8_menMaybeWindowed 8 = .ok (.istore_n 3, 1) := by decide +kernel
theorem dX8_menMaybeWindowed_9 : decode cX8_menMaybeWindowed 9 = .ok (.iconst 0, 1) := by decide +kernel
theorem dX8_menMaybeWindowed_10 : decode cX8_menMaybeWindowed 10 = .ok (.istore 4, 2) := by decide +kernel
theorem dX8_menMaybeWindowed_12 : decode cX8_menMaybeWindowed 12 = .ok (.iload 4, 2) := by decide +kernel
theorem dX8_menMaybeWindowed_14 : decode cX8_menMaybeWindowed 14 = .ok (.aload_n 1, 1) := by decide +kernel
theorem dX8_menMaybeWindowed_15 : decode cX8_menMaybeWindowed 15 = .ok (.getfield 116, 3) := by decide +kernel
theorem dX8_menMaybeWindowed_18 : decode cX8_menMaybeWindowed 18 = .ok (.if_icmp .ge 62, 3) := by decide +kernel
theorem dX8_menMaybeWindowed_21 : decode cX8_menMaybeWindowed 21 = .ok (.iconst 0, 1) := by decide +kernel
theorem dX8_menMaybeWindowed_22 : decode cX8_menMaybeWindowed 22 = .ok (.istore 5, 2) := by decide +kernel
theorem dX8_menMaybeWindowed_24 : decode cX8_menMaybeWindowed 24 = .ok (.iload 5, 2) := by decide +kernel
theorem dX8_menMaybeWindowed_26 : decode cX8_menMaybeWindowed 26 = .ok (.aload_n 1, 1) := by decide +kernel
theorem dX8_menMaybeWindowed_27 : decode cX8_menMaybeWindowed 27 = .ok (.getfield 127, 3) := by decide +kernel
theorem dX8_menMaybeWindowed_30 : decode cX8_menMaybeWindowed 30 = .ok (.if_icmp .ge 44, 3) := by decide +kernel
theorem dX8_menMaybeWindowed_33 : decode cX8_menMaybeWindowed 33 = .ok (.iload 5, 2) := by decide +kernel
theorem dX8_menMaybeWindowed_35 : decode cX8_menMaybeWindowed 35 = .ok (.aload_n 1, 1) := by decide +kernel
theorem dX8_menMaybeWindowed_36 : decode cX8_menMaybeWindowed 36 = .ok (.getfield 152, 3) := by decide +kernel
theorem dX8_menMaybeWindowed_39 : decode cX8_menMaybeWindowed 39 = .ok (.iload 4, 2) := by decide +kernel
theorem dX8_menMaybeWindowed_41 : decode cX8_menMaybeWindowed 41 = .ok (.iaload, 1) := by decide +kernel
theorem dX8_menMaybeWindowed_42 : decode cX8_menMaybeWindowed 42 = .ok (.if_icmp .eq 26, 3) := by decide +kernel
theorem dX8_menMaybeWindowed_45 : decode cX8_menMaybeWindowed 45 = .ok (.aload_n 0, 1) := by decide +kernel
theorem dX8_menMaybeWindowed_46 : decode cX8_menMaybeWindowed 46 = .ok (.aload_n 1, 1) := by decide +kernel
theorem dX8_menMaybeWindowed_47 : decode cX8_menMaybeWindowed 47 = .ok (.getfield 145, 3) := by decide +kernel
theorem dX8_menMaybeWindowed_50 : decode cX8_menMaybeWindowed 50 = .ok (.iconst (-1), 1) := by decide +kernel
theorem dX8_menMaybeWindowed_51 : decode cX8_menMaybeWindowed 51 = .ok (.iload 4, 2) := by decide +kernel
theorem dX8_menMaybeWindowed_53 : decode cX8_menMaybeWindowed 53 = .ok (.iload 5, 2) := by decide +kernel
theorem dX8_menMaybeWindowed_55 : decode cX8_menMaybeWindowed 55 = .ok (.invokevirtual 137, 3) := by decide +kernel
theorem dX8_menMaybeWindowed_58 : decode cX8_menMaybeWindowed 58 = .ok (.ifCond .eq 10, 3) := by decide +kernel
theorem dX8_menMaybeWindowed_61 : decode cX8_menMaybeWindowed 61 = .ok (.iload_n 3, 1) := by decide +kernel
theorem dX8_menMaybeWindowed_62 : decode cX8_menMaybeWindowed 62 = .ok (.iconst 1, 1) := by decide +kernel
theorem dX8_menMaybeWindowed_63 : decode cX8_menMaybeWindowed 63 = .ok (.iload 4, 2) := by decide +kernel
theorem dX8_menMaybeWindowed_65 : decode cX8_menMaybeWindowed 65 = .ok (.ishl, 1) := by decide +kernel
theorem dX8_menMaybeWindowed_66 : decode cX8_menMaybeWindowed 66 = .ok (.ior, 1) := by decide +kernel
theorem dX8_menMaybeWindowed_67 : decode cX8_menMaybeWindowed 67 = .ok (.istore_n 3, 1) := by decide +kernel
theorem dX8_menMaybeWindowed_68 : decode cX8_menMaybeWindowed 68 = .ok (.iinc 5 1, 3) := by decide +kernel
theorem dX8_menMaybeWindowed_71 : decode cX8_menMaybeWindowed 71 = .ok (.goto (-47), 3) := by decide +kernel
theorem dX8_menMaybeWindowed_74 : decode cX8_menMaybeWindowed 74 = .ok (.iinc 4 1, 3) := by decide +kernel
theorem dX8_menMaybeWindowed_77 : decode cX8_menMaybeWindowed 77 = .ok (.goto (-65), 3) := by decide +kernel
theorem dX8_menMaybeWindowed_80 : decode cX8_menMaybeWindowed 80 = .ok (.iload_n 3, 1) := by decide +kernel
theorem dX8_menMaybeWindowed_81 : decode cX8_menMaybeWindowed 81 = .ok (.ireturn, 1) := by decide +kernel
theorem dX9_wrong_0 : decode cX9_wrong 0 = .ok (.iload_n 1, 1) := by decide +kernel
theorem dX9_wrong_1 : decode cX9_wrong 1 = .ok (.tableswitch 74 0 2 #[27, 48, 61], 27) := by decide +kernel
theorem dX9_wrong_28 : decode cX9_wrong 28 = .ok (.aload_n 0, 1) := by decide +kernel
theorem dX9_wrong_29 : decode cX9_wrong 29 = .ok (.getfield 95, 3) := by decide +kernel
theorem dX9_wrong_32 : decode cX9_wrong 32 = .ok (.aload_n 0, 1) := by decide +kernel
theorem dX9_wrong_33 : decode cX9_wrong 33 = .ok (.getfield 27, 3) := by decide +kernel
theorem dX9_wrong_36 : decode cX9_wrong 36 = .ok (.iload_n 2, 1) := by decide +kernel
theorem dX9_wrong_37 : decode cX9_wrong 37 = .ok (.invokevirtual 288, 3) := by decide +kernel
theorem dX9_wrong_40 : decode cX9_wrong 40 = .ok (.ifCond .eq 7, 3) := by decide +kernel
theorem dX9_wrong_43 : decode cX9_wrong 43 = .ok (.iconst 1, 1) := by decide +kernel
theorem dX9_wrong_44 : decode cX9_wrong 44 = .ok (.goto 4, 3) := by decide +kernel
theorem dX9_wrong_47 : decode cX9_wrong 47 = .ok (.iconst 0, 1) := by decide +kernel
theorem dX9_wrong_48 : decode cX9_wrong 48 = .ok (.ireturn, 1) := by decide +kernel
theorem dX9_wrong_49 : decode cX9_wrong 49 = .ok (.aload_n 0, 1) := by decide +kernel
theorem dX9_wrong_50 : decode cX9_wrong 50 = .ok (.getfield 95, 3) := by decide +kernel
theorem dX9_wrong_53 : decode cX9_wrong 53 = .ok (.aload_n 0, 1) := by decide +kernel
theorem dX9_wrong_54 : decode cX9_wrong 54 = .ok (.getfield 27, 3) := by decide +kernel
theorem dX9_wrong_57 : decode cX9_wrong 57 = .ok (.iload_n 2, 1) := by decide +kernel
theorem dX9_wrong_58 : decode cX9_wrong 58 = .ok (.invokevirtual 291, 3) := by decide +kernel
theorem dX9_wrong_61 : decode cX9_wrong 61 = .ok (.ireturn, 1) := by decide +kernel
theorem dX9_wrong_62 : decode cX9_wrong 62 = .ok (.aload_n 0, 1) := by decide +kernel
theorem dX9_wrong_63 : decode cX9_wrong 63 = .ok (.getfield 95, 3) := by decide +kernel
theorem dX9_wrong_66 : decode cX9_wrong 66 = .ok (.aload_n 0, 1) := by decide +kernel
theorem dX9_wrong_67 : decode cX9_wrong 67 = .ok (.getfield 27, 3) := by decide +kernel
theorem dX9_wrong_70 : decode cX9_wrong 70 = .ok (.iload_n 2, 1) := by decide +kernel
theorem dX9_wrong_71 : decode cX9_wrong 71 = .ok (.invokevirtual 294, 3) := by decide +kernel
theorem dX9_wrong_74 : decode cX9_wrong 74 = .ok (.ireturn, 1) := by decide +kernel
theorem dX9_wrong_75 : decode cX9_wrong 75 = .ok (.iconst (-1), 1) := by decide +kernel
theorem dX9_wrong_76 : decode cX9_wrong 76 = .ok (.ireturn, 1) := by decide +kernel
set_option maxHeartbeats 4000000 in
set_option maxRecDepth 100000 in
theorem k_X8_gather (l : Launch) (D : va_G) (cyB cyI cyJ cyZ : ClassId) (sz : Nat) (wt : Nat) (dd : Nat) (p0 : Int32) (fw_ : List Value) (wc : Nat) (wn : Nat) (fwc : Nat → Int64) (fwn : Nat → Int64) (hl_fw_ : fw_.length = 17) (h_fw__7 : fw_[7]? = some (.ref wc)) (h_fw__8 : fw_[8]? = some (.ref wn)) (h_fw__5 : fw_[5]? = some (.int 0)) : KI l yX8_gather cX8_gather 5 .int 1 0 0 D (TYS cyB cyI cyJ cyZ) [(wt, .inr (8, fw_)), (wc, .inl (cyJ, 31, .inr (.inl fwc))), (wn, .inl (cyJ, 31, .inr (.inl fwn)))] sz [.ref wt, .ref dd, .int p0] (fun (r : Int32) (u : (Nat → Int64) × (Nat → Int64)) => r = 0 ∧ u.1 0 = 0 ∧ u.2 0 = 0) (fun (u : (Nat → Int64) × (Nat → Int64)) => ([(wt, .inr (8, (((fw_.set 11 (.ref dd)).set 9 (.int 0)).set 10 (.int 0)))), (wc, .inl (cyJ, 31, .inr (.inl u.1))), (wn, .inl (cyJ, 31, .inr (.inl u.2)))] : va_W)) := by
  refine entI (by decide) (Nat.le_of_ble_eq_true rfl) ?_
  intro p e s m below meth c ls A hC hl hP hK hD hA
  obtain ⟨hx, hb, hr, hml, hown, hts, hlk, hnm⟩ := id hC
  have hS : va_S A s.heap s.heap [] := va_S.rf
  have hl : lv_has ls 5 [(0, .ref wt), (1, .ref dd), (2, .int p0)] := hl
  generalize hHe : s.heap = H at hP ⊢
  rw [hHe] at hS
  have hS : va_S A s.heap H [] := by rw [hHe]; exact hS
  refine lv_aload_n hx hb dX8_gather_0 rfl (lv_at hl 0 rfl) ?_
  refine lv_aload_n hx hb dX8_gather_1 rfl (lv_at hl 1 rfl) ?_
  refine pf (v := .ref dd) hC hK hP hD hS iX8 tyX8_ok nmX8 0 rfl rfl 11 (by decide) mw_fieldLink_RX8_51_MirrorDrill_Witness_drill_LMirrorDrill_Drill rfl rfl rfl (ln_lt hl_fw_ (by decide)) dX8_gather_2 (fun H locs hP hD hS => ?_)
  have hP : va_P D classes [(wt, .inr (8, (fw_.set 11 (.ref dd)))), (wc, .inl (cyJ, 31, .inr (.inl fwc))), (wn, .inl (cyJ, 31, .inr (.inl fwn)))] H := hP
  have hD : va_D A [(wt, .inr (8, (fw_.set 11 (.ref dd)))), (wc, .inl (cyJ, 31, .inr (.inl fwc))), (wn, .inl (cyJ, 31, .inr (.inl fwn)))] := hD
  refine lv_aload_n hx hb dX8_gather_5 rfl (lv_at hl 0 rfl) ?_
  refine gf hC hK hP iX8 0 rfl rfl 7 (by decide) mw_fieldLink_RX8_34_MirrorDrill_Witness_cells_J (gs_ne (by decide) h_fw__7) dX8_gather_6 ?_
  refine lv_lconst (v := 0) hx hb dX8_gather_9 (by decide) ?_
  refine aftV (wr := [(wt, .inr (8, (fw_.set 11 (.ref dd)))), (wn, .inl (cyJ, 31, .inr (.inl fwn)))]) (runS hC hK hP hD hl.1 (k_J7_fill_d0a16 l D cyB cyI cyJ cyZ H.size wc 0 fwc ) cS_J7_fill_d0a16 mw_methodLink_RX8_55_yJ7_fill_d0a16 [1] rfl rfl rfl rfl (Nat.le_of_ble_eq_true rfl) ⟨by decide, by decide⟩ ⟨by decide, by decide⟩ dX8_gather_10) hP hD hS hA [1] [0, 2] rfl rfl rfl (by decide) (fun u_1 H locs hw_1 hP hD hS => ?_)
  obtain ⟨g_1, rfl⟩ : ∃ z, z = u_1 := ⟨_, rfl⟩
  try dsimp only at hw_1
  have hall_1 := hw_1
  have hP : va_P D classes [(wt, .inr (8, (fw_.set 11 (.ref dd)))), (wn, .inl (cyJ, 31, .inr (.inl fwn))), (wc, .inl (cyJ, 31, .inr (.inl g_1)))] H := hP
  have hD : va_D A [(wt, .inr (8, (fw_.set 11 (.ref dd)))), (wn, .inl (cyJ, 31, .inr (.inl fwn))), (wc, .inl (cyJ, 31, .inr (.inl g_1)))] := hD
  refine W.widen (k := 0) (n := 0) (by decide) (by decide) ?_
  refine lv_aload_n hx hb dX8_gather_13 rfl (lv_at hl 0 rfl) ?_
  refine gf hC hK hP iX8 0 rfl rfl 8 (by decide) mw_fieldLink_RX8_38_MirrorDrill_Witness_contents_J (gs_ne (by decide) h_fw__8) dX8_gather_14 ?_
  refine lv_lconst (v := 0) hx hb dX8_gather_17 (by decide) ?_
  refine aftV (wr := [(wt, .inr (8, (fw_.set 11 (.ref dd)))), (wc, .inl (cyJ, 31, .inr (.inl g_1)))]) (runS hC hK hP hD hl.1 (k_J7_fill_d0a16 l D cyB cyI cyJ cyZ H.size wn 0 fwn ) cS_J7_fill_d0a16 mw_methodLink_RX8_55_yJ7_fill_d0a16 [1] rfl rfl rfl rfl (Nat.le_of_ble_eq_true rfl) ⟨by decide, by decide⟩ ⟨by decide, by decide⟩ dX8_gather_18) hP hD hS hA [1] [0, 2] rfl rfl rfl (by decide) (fun u_2 H locs hw_2 hP hD hS => ?_)
  obtain ⟨g_2, rfl⟩ : ∃ z, z = u_2 := ⟨_, rfl⟩
  try dsimp only at hw_2
  have hall_2 := hw_2
  have hP : va_P D classes [(wt, .inr (8, (fw_.set 11 (.ref dd)))), (wc, .inl (cyJ, 31, .inr (.inl g_1))), (wn, .inl (cyJ, 31, .inr (.inl g_2)))] H := hP
  have hD : va_D A [(wt, .inr (8, (fw_.set 11 (.ref dd)))), (wc, .inl (cyJ, 31, .inr (.inl g_1))), (wn, .inl (cyJ, 31, .inr (.inl g_2)))] := hD
  refine W.widen (k := 0) (n := 0) (by decide) (by decide) ?_
  refine lv_aload_n hx hb dX8_gather_21 rfl (lv_at hl 0 rfl) ?_
  refine lv_iconst (v := 0) hx hb dX8_gather_22 (by decide) ?_
  refine pf (v := .int 0) hC hK hP hD hS iX8 tyX8_ok nmX8 0 rfl rfl 9 (by decide) mw_fieldLink_RX8_61_MirrorDrill_Witness_lastBeat_I rfl rfl rfl (ln_lt (ln_set hl_fw_) (by decide)) dX8_gather_23 (fun H locs hP hD hS => ?_)
  have hP : va_P D classes [(wt, .inr (8, ((fw_.set 11 (.ref dd)).set 9 (.int 0)))), (wc, .inl (cyJ, 31, .inr (.inl g_1))), (wn, .inl (cyJ, 31, .inr (.inl g_2)))] H := hP
  have hD : va_D A [(wt, .inr (8, ((fw_.set 11 (.ref dd)).set 9 (.int 0)))), (wc, .inl (cyJ, 31, .inr (.inl g_1))), (wn, .inl (cyJ, 31, .inr (.inl g_2)))] := hD
  refine lv_aload_n hx hb dX8_gather_26 rfl (lv_at hl 0 rfl) ?_
  refine lv_iconst (v := 0) hx hb dX8_gather_27 (by decide) ?_
  refine pf (v := .int 0) hC hK hP hD hS iX8 tyX8_ok nmX8 0 rfl rfl 10 (by decide) mw_fieldLink_RX8_64_MirrorDrill_Witness_clash_Z rfl rfl rfl (ln_lt (ln_set (ln_set hl_fw_)) (by decide)) dX8_gather_28 (fun H locs hP hD hS => ?_)
  have hP : va_P D classes [(wt, .inr (8, (((fw_.set 11 (.ref dd)).set 9 (.int 0)).set 10 (.int 0)))), (wc, .inl (cyJ, 31, .inr (.inl g_1))), (wn, .inl (cyJ, 31, .inr (.inl g_2)))] H := hP
  have hD : va_D A [(wt, .inr (8, (((fw_.set 11 (.ref dd)).set 9 (.int 0)).set 10 (.int 0)))), (wc, .inl (cyJ, 31, .inr (.inl g_1))), (wn, .inl (cyJ, 31, .inr (.inl g_2)))] := hD
  refine lv_iconst (v := 0) hx hb dX8_gather_31 (by decide) ?_
  refine lv_istore_n (lv' := [(3, .int 0), (0, .ref wt), (1, .ref dd), (2, .int p0)]) hx hb dX8_gather_32 rfl hl (by decide) rfl (fun ls hl => ?_)
  refine lv_iconst (v := 0) hx hb dX8_gather_33 (by decide) ?_
  refine lv_istore (lv' := [(4, .int 0), (3, .int 0), (0, .ref wt), (1, .ref dd), (2, .int p0)]) hx hb dX8_gather_34 hl (by decide) rfl (fun ls hl => ?_)
  refine lv_iload hx hb dX8_gather_36 (lv_at hl 0 rfl) ?_
  refine lv_aload_n hx hb dX8_gather_38 rfl (lv_at hl 2 rfl) ?_
  refine gf hC hK hP iX8 0 rfl rfl 5 (by decide) mw_fieldLink_RX8_27_MirrorDrill_Witness_sights_I (gs_ne (by decide) (gs_ne (by decide) (gs_ne (by decide) h_fw__5))) dX8_gather_39 ?_
  refine lv_icmp_ge (tgt := 93) hx hb dX8_gather_42 (by decide) (fun c_3 => ?_) (fun c_3 => absurd (by decide) c_3)
  refine lv_iload_n hx hb dX8_gather_93 rfl (lv_at hl 1 rfl) ?_
  exact retI hC hP hD hS (by decide) (by decide) (g_1, g_2) [0, 1, 2] rfl rfl ⟨rfl, (hall_1 0 (by decide)), (hall_2 0 (by decide))⟩ dX8_gather_94
set_option maxHeartbeats 4000000 in
set_option maxRecDepth 100000 in
theorem k_X8_isAsSeen (l : Launch) (D : va_G) (cyB cyI cyJ cyZ : ClassId) (sz : Nat) (wt : Nat) (fw_ : List Value) (wc : Nat) (wn : Nat) (fwc : Nat → Int64) (fwn : Nat → Int64) (hl_fw_ : fw_.length = 17) (h_fw__7 : fw_[7]? = some (.ref wc)) (h_fw__8 : fw_[8]? = some (.ref wn)) (h_fwc_0 : fwc 0 = 0) (h_fwn_0 : fwn 0 = 0) : KI l yX8_isAsSeen cX8_isAsSeen 4 .boolean 0 0 0 D (TYS cyB cyI cyJ cyZ) [(wt, .inr (8, fw_)), (wc, .inl (cyJ, 31, .inr (.inl fwc))), (wn, .inl (cyJ, 31, .inr (.inl fwn)))] sz [.ref wt, .long 0, .int 0] (fun (r : Int32) (u : Unit) => r = 1) (fun (u : Unit) => ([(wt, .inr (8, fw_)), (wc, .inl (cyJ, 31, .inr (.inl fwc))), (wn, .inl (cyJ, 31, .inr (.inl fwn)))] : va_W)) := by
  refine entI (by decide) (Nat.le_of_ble_eq_true rfl) ?_
  intro p e s m below meth c ls A hC hl hP hK hD hA
  obtain ⟨hx, hb, hr, hml, hown, hts, hlk, hnm⟩ := id hC
  have hS : va_S A s.heap s.heap [] := va_S.rf
  have hl : lv_has ls 4 [(0, .ref wt), (1, .long 0), (3, .int 0)] := hl
  generalize hHe : s.heap = H at hP ⊢
  rw [hHe] at hS
  have hS : va_S A s.heap H [] := by rw [hHe]; exact hS
  refine lv_lload_n hx hb dX8_isAsSeen_0 rfl (lv_at hl 1 rfl) ?_
  refine lv_aload_n hx hb dX8_isAsSeen_1 rfl (lv_at hl 0 rfl) ?_
  refine gf hC hK hP iX8 0 rfl rfl 8 (by decide) mw_fieldLink_RX8_38_MirrorDrill_Witness_contents_J h_fw__8 dX8_isAsSeen_2 ?_
  refine lv_iload_n hx hb dX8_isAsSeen_5 rfl (lv_at hl 2 rfl) ?_
  refine va_lald hx hb hK hP 2 2 rfl rfl (vin (by decide)) dX8_isAsSeen_6 ?_
  refine lv_cstL (v := 0) (h_fwn_0) ?_
  refine lv_lxor hx hb dX8_isAsSeen_7 ?_
  refine lv_cstL (v := 0) (by decide) ?_
  refine lv_aload_n hx hb dX8_isAsSeen_8 rfl (lv_at hl 0 rfl) ?_
  refine gf hC hK hP iX8 0 rfl rfl 7 (by decide) mw_fieldLink_RX8_34_MirrorDrill_Witness_cells_J h_fw__7 dX8_isAsSeen_9 ?_
  refine lv_iload_n hx hb dX8_isAsSeen_12 rfl (lv_at hl 2 rfl) ?_
  refine va_lald hx hb hK hP 1 2 rfl rfl (vin (by decide)) dX8_isAsSeen_13 ?_
  refine lv_cstL (v := 0) (h_fwc_0) ?_
  refine lv_land hx hb dX8_isAsSeen_14 ?_
  refine lv_cstL (v := 0) (by decide) ?_
  refine lv_lconst (v := 0) hx hb dX8_isAsSeen_15 (by decide) ?_
  refine W.lcmp hx hb dX8_isAsSeen_16 ?_
  refine lv_cst (v := 0) (by decide) ?_
  refine lv_if_ne (tgt := 24) hx hb dX8_isAsSeen_17 (by decide) (fun c_1 => absurd (by decide) c_1) (fun c_1 => ?_)
  refine lv_iconst (v := 1) hx hb dX8_isAsSeen_20 (by decide) ?_
  refine lv_goto (tgt := 25) hx hb dX8_isAsSeen_21 (by decide) ?_
  exact retZ hC hP hD hS (by decide) (by decide) () [0, 1, 2] rfl rfl rfl rfl dX8_isAsSeen_25
set_option maxHeartbeats 4000000 in
set_option maxRecDepth 100000 in
theorem k_X8_holds (l : Launch) (D : va_G) (cyB cyI cyJ cyZ : ClassId) (sz : Nat) (wt : Nat) (fw_ : List Value) (wc : Nat) (wn : Nat) (fwc : Nat → Int64) (fwn : Nat → Int64) (hl_fw_ : fw_.length = 17) (h_fw__7 : fw_[7]? = some (.ref wc)) (h_fw__8 : fw_[8]? = some (.ref wn)) (h_fw__9 : fw_[9]? = some (.int 0)) (h_fw__10 : fw_[10]? = some (.int 0)) (h_fwc_0 : fwc 0 = 0) (h_fwn_0 : fwn 0 = 0) : KI l yX8_holds cX8_holds 12 .boolean 1 0 0 D (TYS cyB cyI cyJ cyZ) [(wt, .inr (8, fw_)), (wc, .inl (cyJ, 31, .inr (.inl fwc))), (wn, .inl (cyJ, 31, .inr (.inl fwn)))] sz [.ref wt, .long 0, .int (-1), .int (-1), .int (-1)] (fun (r : Int32) (u : Unit) => r = 1) (fun (u : Unit) => ([(wt, .inr (8, fw_)), (wc, .inl (cyJ, 31, .inr (.inl fwc))), (wn, .inl (cyJ, 31, .inr (.inl fwn)))] : va_W)) := by
  refine entI (by decide) (Nat.le_of_ble_eq_true rfl) ?_
  intro p e s m below meth c ls A hC hl hP hK hD hA
  obtain ⟨hx, hb, hr, hml, hown, hts, hlk, hnm⟩ := id hC
  have hS : va_S A s.heap s.heap [] := va_S.rf
  have hl : lv_has ls 12 [(0, .ref wt), (1, .long 0), (3, .int (-1)), (4, .int (-1)), (5, .int (-1))] := hl
  generalize hHe : s.heap = H at hP ⊢
  rw [hHe] at hS
  have hS : va_S A s.heap H [] := by rw [hHe]; exact hS
  refine lv_lload_n hx hb dX8_holds_0 rfl (lv_at hl 1 rfl) ?_
  refine lv_lstore (lv' := [(6, .long 0), (0, .ref wt), (1, .long 0), (3, .int (-1)), (4, .int (-1)), (5, .int (-1))]) hx hb dX8_holds_1 hl (by decide) rfl (fun ls hl => ?_)
  refine lv_aload_n hx hb dX8_holds_3 rfl (lv_at hl 1 rfl) ?_
  refine gf hC hK hP iX8 0 rfl rfl 10 (by decide) mw_fieldLink_RX8_64_MirrorDrill_Witness_clash_Z h_fw__10 dX8_holds_4 ?_
  refine lv_if_ne (tgt := 24) hx hb dX8_holds_7 (by decide) (fun c_1 => absurd (by decide) c_1) (fun c_1 => ?_)
  refine lv_aload_n hx hb dX8_holds_10 rfl (lv_at hl 1 rfl) ?_
  refine lv_lload hx hb dX8_holds_11 (lv_at hl 0 rfl) ?_
  refine lv_iconst (v := 0) hx hb dX8_holds_13 (by decide) ?_
  refine aftI (wr := []) (runV hC hK hP hD hl.1 (k_X8_isAsSeen l D cyB cyI cyJ cyZ H.size wt fw_ wc wn fwc fwn hl_fw_ h_fw__7 h_fw__8 h_fwc_0 h_fwn_0) cV_X8_isAsSeen mw_methodLink_RX8_89_yX8_isAsSeen [0, 1, 2] rfl rfl 0 rfl rfl rfl rfl rfl (Nat.le_of_ble_eq_true rfl) ⟨by decide, by decide⟩ ⟨by decide, by decide⟩ dX8_holds_14) hP hD hS hA [0, 1, 2] [] rfl rfl rfl (by decide) (fun r_2 u_2 H locs hw_2 hP hD hS => ?_)
  have hr_2 := hw_2
  refine lv_cst (v := 1) hr_2 ?_
  have hP : va_P D classes [(wt, .inr (8, fw_)), (wc, .inl (cyJ, 31, .inr (.inl fwc))), (wn, .inl (cyJ, 31, .inr (.inl fwn)))] H := hP
  have hD : va_D A [(wt, .inr (8, fw_)), (wc, .inl (cyJ, 31, .inr (.inl fwc))), (wn, .inl (cyJ, 31, .inr (.inl fwn)))] := hD
  refine W.widen (k := 0) (n := 0) (by decide) (by decide) ?_
  refine lv_if_eq (tgt := 24) hx hb dX8_holds_17 (by decide) (fun c_3 => absurd c_3 (by decide)) (fun c_3 => ?_)
  refine lv_iconst (v := 1) hx hb dX8_holds_20 (by decide) ?_
  refine lv_goto (tgt := 25) hx hb dX8_holds_21 (by decide) ?_
  refine lv_istore (lv' := [(8, .int 1), (6, .long 0), (0, .ref wt), (1, .long 0), (3, .int (-1)), (4, .int (-1)), (5, .int (-1))]) hx hb dX8_holds_25 hl (by decide) rfl (fun ls hl => ?_)
  refine lv_iconst (v := 1) hx hb dX8_holds_27 (by decide) ?_
  refine lv_istore (lv' := [(9, .int 1), (8, .int 1), (6, .long 0), (0, .ref wt), (1, .long 0), (3, .int (-1)), (4, .int (-1)), (5, .int (-1))]) hx hb dX8_holds_28 hl (by decide) rfl (fun ls hl => ?_)
  refine lv_iload hx hb dX8_holds_30 (lv_at hl 0 rfl) ?_
  refine lv_aload_n hx hb dX8_holds_32 rfl (lv_at hl 3 rfl) ?_
  refine gf hC hK hP iX8 0 rfl rfl 9 (by decide) mw_fieldLink_RX8_61_MirrorDrill_Witness_lastBeat_I h_fw__9 dX8_holds_33 ?_
  refine lv_icmp_gt (tgt := 127) hx hb dX8_holds_36 (by decide) (fun c_4 => ?_) (fun c_4 => absurd (by decide) c_4)
  refine lv_iload hx hb dX8_holds_127 (lv_at hl 1 rfl) ?_
  exact retZ hC hP hD hS (by decide) (by decide) () [0, 1, 2] rfl rfl rfl rfl dX8_holds_129
set_option maxHeartbeats 4000000 in
set_option maxRecDepth 100000 in
theorem k_X8_listUnsure (l : Launch) (D : va_G) (cyB cyI cyJ cyZ : ClassId) (sz : Nat) (wt : Nat) (fw_ : List Value) (dd : Nat) (ds_ : List Value) (hl_fw_ : fw_.length = 17) (h_fw__11 : fw_[11]? = some (.ref dd)) (hl_ds_ : ds_.length = 15) (h_ds__1 : ds_[1]? = some (.int 0)) : KI l yX8_listUnsure cX8_listUnsure 3 .int 0 0 0 D (TYS cyB cyI cyJ cyZ) [(wt, .inr (8, fw_)), (dd, .inr (2, ds_))] sz [.ref wt] (fun (r : Int32) (u : Unit) => r = 0) (fun (u : Unit) => ([(wt, .inr (8, fw_)), (dd, .inr (2, ds_))] : va_W)) := by
  refine entI (by decide) (Nat.le_of_ble_eq_true rfl) ?_
  intro p e s m below meth c ls A hC hl hP hK hD hA
  obtain ⟨hx, hb, hr, hml, hown, hts, hlk, hnm⟩ := id hC
  have hS : va_S A s.heap s.heap [] := va_S.rf
  have hl : lv_has ls 3 [(0, .ref wt)] := hl
  generalize hHe : s.heap = H at hP ⊢
  rw [hHe] at hS
  have hS : va_S A s.heap H [] := by rw [hHe]; exact hS
  refine lv_iconst (v := 0) hx hb dX8_listUnsure_0 (by decide) ?_
  refine lv_istore_n (lv' := [(1, .int 0), (0, .ref wt)]) hx hb dX8_listUnsure_1 rfl hl (by decide) rfl (fun ls hl => ?_)
  refine lv_iconst (v := 0) hx hb dX8_listUnsure_2 (by decide) ?_
  refine lv_istore_n (lv' := [(2, .int 0), (1, .int 0), (0, .ref wt)]) hx hb dX8_listUnsure_3 rfl hl (by decide) rfl (fun ls hl => ?_)
  refine lv_iload_n hx hb dX8_listUnsure_4 rfl (lv_at hl 0 rfl) ?_
  refine lv_aload_n hx hb dX8_listUnsure_5 rfl (lv_at hl 2 rfl) ?_
  refine gf hC hK hP iX8 0 rfl rfl 11 (by decide) mw_fieldLink_RX8_51_MirrorDrill_Witness_drill_LMirrorDrill_Drill h_fw__11 dX8_listUnsure_6 ?_
  refine gf hC hK hP iX2 1 rfl rfl 1 (by decide) mw_fieldLink_RX8_116_MirrorDrill_Drill_men_I h_ds__1 dX8_listUnsure_9 ?_
  refine lv_icmp_ge (tgt := 45) hx hb dX8_listUnsure_12 (by decide) (fun c_1 => ?_) (fun c_1 => absurd (by decide) c_1)
  refine lv_iload_n hx hb dX8_listUnsure_45 rfl (lv_at hl 1 rfl) ?_
  exact retI hC hP hD hS (by decide) (by decide) () [0, 1] rfl rfl rfl dX8_listUnsure_46
set_option maxHeartbeats 4000000 in
set_option maxRecDepth 100000 in
theorem k_X8_rowOfCase (l : Launch) (D : va_G) (cyB cyI cyJ cyZ : ClassId) (sz : Nat) (wt : Nat) (fw_ : List Value) (dd : Nat) (ds_ : List Value) (hl_fw_ : fw_.length = 17) (h_fw__11 : fw_[11]? = some (.ref dd)) (hl_ds_ : ds_.length = 15) (h_ds__8 : ds_[8]? = some (.long 0)) : KL l yX8_rowOfCase cX8_rowOfCase 7 0 0 0 D (TYS cyB cyI cyJ cyZ) [(wt, .inr (8, fw_)), (dd, .inr (2, ds_))] sz [.ref wt, .int 0, .int 0] (fun (r : Int64) (u : Unit) => r = 0) (fun (u : Unit) => ([(wt, .inr (8, fw_)), (dd, .inr (2, ds_))] : va_W)) := by
  refine entL (by decide) (Nat.le_of_ble_eq_true rfl) ?_
  intro p e s m below meth c ls A hC hl hP hK hD hA
  obtain ⟨hx, hb, hr, hml, hown, hts, hlk, hnm⟩ := id hC
  have hS : va_S A s.heap s.heap [] := va_S.rf
  have hl : lv_has ls 7 [(0, .ref wt), (1, .int 0), (2, .int 0)] := hl
  generalize hHe : s.heap = H at hP ⊢
  rw [hHe] at hS
  have hS : va_S A s.heap H [] := by rw [hHe]; exact hS
  refine lv_aload_n hx hb dX8_rowOfCase_0 rfl (lv_at hl 0 rfl) ?_
  refine gf hC hK hP iX8 0 rfl rfl 11 (by decide) mw_fieldLink_RX8_51_MirrorDrill_Witness_drill_LMirrorDrill_Drill h_fw__11 dX8_rowOfCase_1 ?_
  refine gf hC hK hP iX2 1 rfl rfl 8 (by decide) mw_fieldLink_RX8_145_MirrorDrill_Drill_first_J h_ds__8 dX8_rowOfCase_4 ?_
  refine lv_lstore_n (lv' := [(3, .long 0), (0, .ref wt), (1, .int 0), (2, .int 0)]) hx hb dX8_rowOfCase_7 rfl hl (by decide) rfl (fun ls hl => ?_)
  refine lv_iload_n hx hb dX8_rowOfCase_8 rfl (lv_at hl 2 rfl) ?_
  refine lv_istore (lv' := [(5, .int 0), (3, .long 0), (0, .ref wt), (1, .int 0), (2, .int 0)]) hx hb dX8_rowOfCase_9 hl (by decide) rfl (fun ls hl => ?_)
  refine lv_iconst (v := 0) hx hb dX8_rowOfCase_11 (by decide) ?_
  refine lv_istore (lv' := [(6, .int 0), (5, .int 0), (3, .long 0), (0, .ref wt), (1, .int 0), (2, .int 0)]) hx hb dX8_rowOfCase_12 hl (by decide) rfl (fun ls hl => ?_)
  refine lv_iload hx hb dX8_rowOfCase_14 (lv_at hl 0 rfl) ?_
  refine lv_iload_n hx hb dX8_rowOfCase_16 rfl (lv_at hl 5 rfl) ?_
  refine lv_icmp_ge (tgt := 70) hx hb dX8_rowOfCase_17 (by decide) (fun c_1 => ?_) (fun c_1 => absurd (by decide) c_1)
  refine lv_lload_n hx hb dX8_rowOfCase_70 rfl (lv_at hl 2 rfl) ?_
  exact retL hC hP hD hS (by decide) (by decide) () [0, 1] rfl rfl rfl dX8_rowOfCase_71
set_option maxHeartbeats 4000000 in
set_option maxRecDepth 100000 in
theorem k_X8_noteMoves (l : Launch) (D : va_G) (cyB cyI cyJ cyZ : ClassId) (sz : Nat) (wt : Nat) (fw_ : List Value) (hl_fw_ : fw_.length = 17) : KV l yX8_noteMoves cX8_noteMoves 5 0 0 0 D (TYS cyB cyI cyJ cyZ) [(wt, .inr (8, fw_))] sz [.ref wt, .long 0, .int 0] (fun (u : Unit) => True) (fun (u : Unit) => ([(wt, .inr (8, fw_))] : va_W)) := by
  refine entV (by decide) (Nat.le_of_ble_eq_true rfl) ?_
  intro p e s m below meth c ls A hC hl hP hK hD hA
  obtain ⟨hx, hb, hr, hml, hown, hts, hlk, hnm⟩ := id hC
  have hS : va_S A s.heap s.heap [] := va_S.rf
  have hl : lv_has ls 5 [(0, .ref wt), (1, .long 0), (3, .int 0)] := hl
  generalize hHe : s.heap = H at hP ⊢
  rw [hHe] at hS
  have hS : va_S A s.heap H [] := by rw [hHe]; exact hS
  refine lv_iconst (v := 0) hx hb dX8_noteMoves_0 (by decide) ?_
  refine lv_istore (lv' := [(4, .int 0), (0, .ref wt), (1, .long 0), (3, .int 0)]) hx hb dX8_noteMoves_1 hl (by decide) rfl (fun ls hl => ?_)
  refine lv_iload hx hb dX8_noteMoves_3 (lv_at hl 0 rfl) ?_
  refine lv_iload_n hx hb dX8_noteMoves_5 rfl (lv_at hl 3 rfl) ?_
  refine lv_icmp_ge (tgt := 43) hx hb dX8_noteMoves_6 (by decide) (fun c_1 => ?_) (fun c_1 => absurd (by decide) c_1)
  exact retV hC hP hD hS (by decide) (by decide) () [0] rfl rfl trivial dX8_noteMoves_43
set_option maxHeartbeats 4000000 in
set_option maxRecDepth 100000 in
theorem k_X8_tryAll (l : Launch) (D : va_G) (cyB cyI cyJ cyZ : ClassId) (sz : Nat) (wt : Nat) (fw_ : List Value) (dd : Nat) (wm : Nat) (wc : Nat) (wn : Nat) (ds_ : List Value) (fwm : Nat → Int32) (fwc : Nat → Int64) (fwn : Nat → Int64) (hl_fw_ : fw_.length = 17) (h_fw__11 : fw_[11]? = some (.ref dd)) (h_fw__16 : fw_[16]? = some (.ref wm)) (h_fw__7 : fw_[7]? = some (.ref wc)) (h_fw__8 : fw_[8]? = some (.ref wn)) (h_fw__9 : fw_[9]? = some (.int 0)) (h_fw__10 : fw_[10]? = some (.int 0)) (hl_ds_ : ds_.length = 15) (h_ds__1 : ds_[1]? = some (.int 0)) (h_ds__8 : ds_[8]? = some (.long 0)) (h_fwc_0 : fwc 0 = 0) (h_fwn_0 : fwn 0 = 0) : KV l yX8_tryAll cX8_tryAll 6 2 0 0 D (TYS cyB cyI cyJ cyZ) [(wt, .inr (8, fw_)), (dd, .inr (2, ds_)), (wm, .inl (cyI, 30, .inl fwm)), (wc, .inl (cyJ, 31, .inr (.inl fwc))), (wn, .inl (cyJ, 31, .inr (.inl fwn)))] sz [.ref wt] (fun (u : Unit) => True) (fun (u : Unit) => ([(wt, .inr (8, ((fw_.set 15 (.int 0)).set 15 (.int 1))))] : va_W)) := by
  refine entV (by decide) (Nat.le_of_ble_eq_true rfl) ?_
  intro p e s m below meth c ls A hC hl hP hK hD hA
  obtain ⟨hx, hb, hr, hml, hown, hts, hlk, hnm⟩ := id hC
  have hS : va_S A s.heap s.heap [] := va_S.rf
  have hl : lv_has ls 6 [(0, .ref wt)] := hl
  generalize hHe : s.heap = H at hP ⊢
  rw [hHe] at hS
  have hS : va_S A s.heap H [] := by rw [hHe]; exact hS
  refine lv_aload_n hx hb dX8_tryAll_0 rfl (lv_at hl 0 rfl) ?_
  refine aftI (wr := [(wm, .inl (cyI, 30, .inl fwm)), (wc, .inl (cyJ, 31, .inr (.inl fwc))), (wn, .inl (cyJ, 31, .inr (.inl fwn)))]) (runV hC hK hP hD hl.1 (k_X8_listUnsure l D cyB cyI cyJ cyZ H.size wt fw_ dd ds_ hl_fw_ h_fw__11 hl_ds_ h_ds__1) cV_X8_listUnsure mw_methodLink_RX8_123_yX8_listUnsure [0, 1] rfl rfl 0 rfl rfl rfl rfl rfl (Nat.le_of_ble_eq_true rfl) ⟨by decide, by decide⟩ ⟨by decide, by decide⟩ dX8_tryAll_1) hP hD hS hA [0, 1] [2, 3, 4] rfl rfl rfl (by decide) (fun r_1 u_1 H locs hw_1 hP hD hS => ?_)
  have hr_1 := hw_1
  refine lv_cst (v := 0) hr_1 ?_
  have hP : va_P D classes [(wm, .inl (cyI, 30, .inl fwm)), (wc, .inl (cyJ, 31, .inr (.inl fwc))), (wn, .inl (cyJ, 31, .inr (.inl fwn))), (wt, .inr (8, fw_)), (dd, .inr (2, ds_))] H := hP
  have hD : va_D A [(wm, .inl (cyI, 30, .inl fwm)), (wc, .inl (cyJ, 31, .inr (.inl fwc))), (wn, .inl (cyJ, 31, .inr (.inl fwn))), (wt, .inr (8, fw_)), (dd, .inr (2, ds_))] := hD
  refine W.widen (k := 0) (n := 0) (by decide) (by decide) ?_
  refine lv_istore_n (lv' := [(1, .int 0), (0, .ref wt)]) hx hb dX8_tryAll_4 rfl hl (by decide) rfl (fun ls hl => ?_)
  refine lv_iconst (v := 1) hx hb dX8_tryAll_5 (by decide) ?_
  refine lv_istore_n (lv' := [(2, .int 1), (1, .int 0), (0, .ref wt)]) hx hb dX8_tryAll_6 rfl hl (by decide) rfl (fun ls hl => ?_)
  refine lv_iconst (v := 0) hx hb dX8_tryAll_7 (by decide) ?_
  refine lv_istore_n (lv' := [(3, .int 0), (2, .int 1), (1, .int 0), (0, .ref wt)]) hx hb dX8_tryAll_8 rfl hl (by decide) rfl (fun ls hl => ?_)
  refine lv_iload_n hx hb dX8_tryAll_9 rfl (lv_at hl 0 rfl) ?_
  refine lv_iload_n hx hb dX8_tryAll_10 rfl (lv_at hl 2 rfl) ?_
  refine lv_icmp_ge (tgt := 30) hx hb dX8_tryAll_11 (by decide) (fun c_2 => ?_) (fun c_2 => absurd (by decide) c_2)
  refine lv_aload_n hx hb dX8_tryAll_30 rfl (lv_at hl 3 rfl) ?_
  refine lv_iconst (v := 0) hx hb dX8_tryAll_31 (by decide) ?_
  refine pf (v := .int 0) hC hK hP hD hS iX8 tyX8_ok nmX8 3 rfl rfl 15 (by decide) mw_fieldLink_RX8_113_MirrorDrill_Witness_fitting_I rfl rfl rfl (ln_lt hl_fw_ (by decide)) dX8_tryAll_32 (fun H locs hP hD hS => ?_)
  have hP : va_P D classes [(wm, .inl (cyI, 30, .inl fwm)), (wc, .inl (cyJ, 31, .inr (.inl fwc))), (wn, .inl (cyJ, 31, .inr (.inl fwn))), (wt, .inr (8, (fw_.set 15 (.int 0)))), (dd, .inr (2, ds_))] H := hP
  have hD : va_D A [(wm, .inl (cyI, 30, .inl fwm)), (wc, .inl (cyJ, 31, .inr (.inl fwc))), (wn, .inl (cyJ, 31, .inr (.inl fwn))), (wt, .inr (8, (fw_.set 15 (.int 0)))), (dd, .inr (2, ds_))] := hD
  refine lv_aload_n hx hb dX8_tryAll_35 rfl (lv_at hl 3 rfl) ?_
  refine gf hC hK hP iX8 3 rfl rfl 16 (by decide) mw_fieldLink_RX8_48_MirrorDrill_Witness_movesFitting_I (gs_ne (by decide) h_fw__16) dX8_tryAll_36 ?_
  refine lv_iconst (v := 0) hx hb dX8_tryAll_39 (by decide) ?_
  refine aftV (wr := [(wc, .inl (cyJ, 31, .inr (.inl fwc))), (wn, .inl (cyJ, 31, .inr (.inl fwn))), (wt, .inr (8, (fw_.set 15 (.int 0)))), (dd, .inr (2, ds_))]) (runS hC hK hP hD hl.1 (k_J7_fill_30 l D cyB cyI cyJ cyZ H.size wm 0 fwm ) cS_J7_fill_53178 mw_methodLink_RX8_130_yJ7_fill_53178 [0] rfl rfl rfl rfl (Nat.le_of_ble_eq_true rfl) ⟨by decide, by decide⟩ ⟨by decide, by decide⟩ dX8_tryAll_40) hP hD hS hA [0] [1, 2, 3, 4] rfl rfl rfl (by decide) (fun u_3 H locs hw_3 hP hD hS => ?_)
  obtain ⟨g_3, rfl⟩ : ∃ z, z = u_3 := ⟨_, rfl⟩
  try dsimp only at hw_3
  have hP : va_P D classes [(wc, .inl (cyJ, 31, .inr (.inl fwc))), (wn, .inl (cyJ, 31, .inr (.inl fwn))), (wt, .inr (8, (fw_.set 15 (.int 0)))), (dd, .inr (2, ds_)), (wm, .inl (cyI, 30, .inl g_3))] H := hP
  have hD : va_D A [(wc, .inl (cyJ, 31, .inr (.inl fwc))), (wn, .inl (cyJ, 31, .inr (.inl fwn))), (wt, .inr (8, (fw_.set 15 (.int 0)))), (dd, .inr (2, ds_)), (wm, .inl (cyI, 30, .inl g_3))] := hD
  refine W.widen (k := 0) (n := 0) (by decide) (by decide) ?_
  refine lv_iconst (v := 0) hx hb dX8_tryAll_43 (by decide) ?_
  refine lv_istore_n (lv' := [(3, .int 0), (2, .int 1), (1, .int 0), (0, .ref wt)]) hx hb dX8_tryAll_44 rfl hl (by decide) rfl (fun ls hl => ?_)
  refine lv_iload_n hx hb dX8_tryAll_45 rfl (lv_at hl 0 rfl) ?_
  refine lv_iload_n hx hb dX8_tryAll_46 rfl (lv_at hl 1 rfl) ?_
  refine lv_icmp_ge (tgt := 93) hx hb dX8_tryAll_47 (by decide) (fun c_4 => absurd c_4 (by decide)) (fun c_4 => ?_)
  refine lv_aload_n hx hb dX8_tryAll_50 rfl (lv_at hl 3 rfl) ?_
  refine lv_iload_n hx hb dX8_tryAll_51 rfl (lv_at hl 0 rfl) ?_
  refine lv_iload_n hx hb dX8_tryAll_52 rfl (lv_at hl 2 rfl) ?_
  refine aftL (wr := [(wc, .inl (cyJ, 31, .inr (.inl fwc))), (wn, .inl (cyJ, 31, .inr (.inl fwn))), (wm, .inl (cyI, 30, .inl g_3))]) (runV hC hK hP hD hl.1 (k_X8_rowOfCase l D cyB cyI cyJ cyZ H.size wt (fw_.set 15 (.int 0)) dd ds_ (ln_set hl_fw_) (gs_ne (by decide) h_fw__11) hl_ds_ h_ds__8) cV_X8_rowOfCase mw_methodLink_RX8_133_yX8_rowOfCase [2, 3] rfl rfl 2 rfl rfl rfl rfl rfl (Nat.le_of_ble_eq_true rfl) ⟨by decide, by decide⟩ ⟨by decide, by decide⟩ dX8_tryAll_53) hP hD hS hA [2, 3] [0, 1, 4] rfl rfl rfl (by decide) (fun r_5 u_5 H locs hw_5 hP hD hS => ?_)
  have hr_5 := hw_5
  refine lv_cstL (v := 0) hr_5 ?_
  have hP : va_P D classes [(wc, .inl (cyJ, 31, .inr (.inl fwc))), (wn, .inl (cyJ, 31, .inr (.inl fwn))), (wm, .inl (cyI, 30, .inl g_3)), (wt, .inr (8, (fw_.set 15 (.int 0)))), (dd, .inr (2, ds_))] H := hP
  have hD : va_D A [(wc, .inl (cyJ, 31, .inr (.inl fwc))), (wn, .inl (cyJ, 31, .inr (.inl fwn))), (wm, .inl (cyI, 30, .inl g_3)), (wt, .inr (8, (fw_.set 15 (.int 0)))), (dd, .inr (2, ds_))] := hD
  refine W.widen (k := 0) (n := 0) (by decide) (by decide) ?_
  refine lv_lstore (lv' := [(4, .long 0), (3, .int 0), (2, .int 1), (1, .int 0), (0, .ref wt)]) hx hb dX8_tryAll_56 hl (by decide) rfl (fun ls hl => ?_)
  refine lv_aload_n hx hb dX8_tryAll_58 rfl (lv_at hl 4 rfl) ?_
  refine lv_lload hx hb dX8_tryAll_59 (lv_at hl 0 rfl) ?_
  refine lv_iconst (v := (-1)) hx hb dX8_tryAll_61 (by decide) ?_
  refine lv_iconst (v := (-1)) hx hb dX8_tryAll_62 (by decide) ?_
  refine lv_iconst (v := (-1)) hx hb dX8_tryAll_63 (by decide) ?_
  refine aftI (wr := [(wm, .inl (cyI, 30, .inl g_3)), (dd, .inr (2, ds_))]) (runV hC hK hP hD hl.1 (k_X8_holds l D cyB cyI cyJ cyZ H.size wt (fw_.set 15 (.int 0)) wc wn fwc fwn (ln_set hl_fw_) (gs_ne (by decide) h_fw__7) (gs_ne (by decide) h_fw__8) (gs_ne (by decide) h_fw__9) (gs_ne (by decide) h_fw__10) h_fwc_0 h_fwn_0) cV_X8_holds mw_methodLink_RX8_137_yX8_holds [3, 0, 1] rfl rfl 3 rfl rfl rfl rfl rfl (Nat.le_of_ble_eq_true rfl) ⟨by decide, by decide⟩ ⟨by decide, by decide⟩ dX8_tryAll_64) hP hD hS hA [3, 0, 1] [2, 4] rfl rfl rfl (by decide) (fun r_6 u_6 H locs hw_6 hP hD hS => ?_)
  have hr_6 := hw_6
  refine lv_cst (v := 1) hr_6 ?_
  have hP : va_P D classes [(wm, .inl (cyI, 30, .inl g_3)), (dd, .inr (2, ds_)), (wt, .inr (8, (fw_.set 15 (.int 0)))), (wc, .inl (cyJ, 31, .inr (.inl fwc))), (wn, .inl (cyJ, 31, .inr (.inl fwn)))] H := hP
  have hD : va_D A [(wm, .inl (cyI, 30, .inl g_3)), (dd, .inr (2, ds_)), (wt, .inr (8, (fw_.set 15 (.int 0)))), (wc, .inl (cyJ, 31, .inr (.inl fwc))), (wn, .inl (cyJ, 31, .inr (.inl fwn)))] := hD
  refine W.widen (k := 0) (n := 0) (by decide) (by decide) ?_
  refine lv_if_eq (tgt := 87) hx hb dX8_tryAll_67 (by decide) (fun c_7 => absurd c_7 (by decide)) (fun c_7 => ?_)
  refine lv_aload_n hx hb dX8_tryAll_70 rfl (lv_at hl 4 rfl) ?_
  refine lv_dup hx hb dX8_tryAll_71 rfl ?_
  refine gf hC hK hP iX8 2 rfl rfl 15 (by decide) mw_fieldLink_RX8_113_MirrorDrill_Witness_fitting_I (gs_eq (ln_lt hl_fw_ (by decide))) dX8_tryAll_72 ?_
  refine lv_iconst (v := 1) hx hb dX8_tryAll_75 (by decide) ?_
  refine lv_iadd hx hb dX8_tryAll_76 ?_
  refine lv_cst (v := 1) (by decide) ?_
  refine pf (v := .int 1) hC hK hP hD hS iX8 tyX8_ok nmX8 2 rfl rfl 15 (by decide) mw_fieldLink_RX8_113_MirrorDrill_Witness_fitting_I rfl rfl rfl (ln_lt (ln_set hl_fw_) (by decide)) dX8_tryAll_77 (fun H locs hP hD hS => ?_)
  have hP : va_P D classes [(wm, .inl (cyI, 30, .inl g_3)), (dd, .inr (2, ds_)), (wt, .inr (8, ((fw_.set 15 (.int 0)).set 15 (.int 1)))), (wc, .inl (cyJ, 31, .inr (.inl fwc))), (wn, .inl (cyJ, 31, .inr (.inl fwn)))] H := hP
  have hD : va_D A [(wm, .inl (cyI, 30, .inl g_3)), (dd, .inr (2, ds_)), (wt, .inr (8, ((fw_.set 15 (.int 0)).set 15 (.int 1)))), (wc, .inl (cyJ, 31, .inr (.inl fwc))), (wn, .inl (cyJ, 31, .inr (.inl fwn)))] := hD
  refine lv_aload_n hx hb dX8_tryAll_80 rfl (lv_at hl 4 rfl) ?_
  refine lv_lload hx hb dX8_tryAll_81 (lv_at hl 0 rfl) ?_
  refine lv_iload_n hx hb dX8_tryAll_83 rfl (lv_at hl 3 rfl) ?_
  refine aftV (wr := [(wm, .inl (cyI, 30, .inl g_3)), (dd, .inr (2, ds_)), (wc, .inl (cyJ, 31, .inr (.inl fwc))), (wn, .inl (cyJ, 31, .inr (.inl fwn)))]) (runV hC hK hP hD hl.1 (k_X8_noteMoves l D cyB cyI cyJ cyZ H.size wt ((fw_.set 15 (.int 0)).set 15 (.int 1)) (ln_set (ln_set hl_fw_))) cV_X8_noteMoves mw_methodLink_RX8_141_yX8_noteMoves [2] rfl rfl 2 rfl rfl rfl rfl rfl (Nat.le_of_ble_eq_true rfl) ⟨by decide, by decide⟩ ⟨by decide, by decide⟩ dX8_tryAll_84) hP hD hS hA [2] [0, 1, 3, 4] rfl rfl rfl (by decide) (fun u_8 H locs hw_8 hP hD hS => ?_)
  have hP : va_P D classes [(wm, .inl (cyI, 30, .inl g_3)), (dd, .inr (2, ds_)), (wc, .inl (cyJ, 31, .inr (.inl fwc))), (wn, .inl (cyJ, 31, .inr (.inl fwn))), (wt, .inr (8, ((fw_.set 15 (.int 0)).set 15 (.int 1))))] H := hP
  have hD : va_D A [(wm, .inl (cyI, 30, .inl g_3)), (dd, .inr (2, ds_)), (wc, .inl (cyJ, 31, .inr (.inl fwc))), (wn, .inl (cyJ, 31, .inr (.inl fwn))), (wt, .inr (8, ((fw_.set 15 (.int 0)).set 15 (.int 1))))] := hD
  refine W.widen (k := 0) (n := 0) (by decide) (by decide) ?_
  refine lv_iinc (v := 1) (lv' := [(3, .int 1), (4, .long 0), (2, .int 1), (1, .int 0), (0, .ref wt)]) hx hb dX8_tryAll_87 hl (k := 1) rfl (by decide) (by decide) rfl (fun ls hl => ?_)
  refine lv_goto (tgt := 45) hx hb dX8_tryAll_90 (by decide) ?_
  refine lv_iload_n hx hb dX8_tryAll_45 rfl (lv_at hl 0 rfl) ?_
  refine lv_iload_n hx hb dX8_tryAll_46 rfl (lv_at hl 2 rfl) ?_
  refine lv_icmp_ge (tgt := 93) hx hb dX8_tryAll_47 (by decide) (fun c_9 => ?_) (fun c_9 => absurd (by decide) c_9)
  exact retV hC hP hD hS (by decide) (by decide) () [4] rfl rfl trivial dX8_tryAll_93
set_option maxHeartbeats 4000000 in
set_option maxRecDepth 100000 in
theorem k_X8_fitting (l : Launch) (D : va_G) (cyB cyI cyJ cyZ : ClassId) (sz : Nat) (wt : Nat) (dd : Nat) (p0 : Int32) (fw_ : List Value) (wm : Nat) (wc : Nat) (wn : Nat) (ds_ : List Value) (fwm : Nat → Int32) (fwc : Nat → Int64) (fwn : Nat → Int64) (hl_fw_ : fw_.length = 17) (h_fw__16 : fw_[16]? = some (.ref wm)) (h_fw__7 : fw_[7]? = some (.ref wc)) (h_fw__8 : fw_[8]? = some (.ref wn)) (h_fw__5 : fw_[5]? = some (.int 0)) (h_fw__13 : fw_[13]? = some (.int 0)) (hl_ds_ : ds_.length = 15) (h_ds__1 : ds_[1]? = some (.int 0)) (h_ds__8 : ds_[8]? = some (.long 0)) : KI l yX8_fitting cX8_fitting 4 .int 3 0 0 D (TYS cyB cyI cyJ cyZ) [(wt, .inr (8, fw_)), (dd, .inr (2, ds_)), (wm, .inl (cyI, 30, .inl fwm)), (wc, .inl (cyJ, 31, .inr (.inl fwc))), (wn, .inl (cyJ, 31, .inr (.inl fwn)))] sz [.ref wt, .ref dd, .int p0] (fun (r : Int32) (u : Unit) => r = 1) (fun (u : Unit) => ([] : va_W)) := by
  refine entI (by decide) (Nat.le_of_ble_eq_true rfl) ?_
  intro p e s m below meth c ls A hC hl hP hK hD hA
  obtain ⟨hx, hb, hr, hml, hown, hts, hlk, hnm⟩ := id hC
  have hS : va_S A s.heap s.heap [] := va_S.rf
  have hl : lv_has ls 4 [(0, .ref wt), (1, .ref dd), (2, .int p0)] := hl
  generalize hHe : s.heap = H at hP ⊢
  rw [hHe] at hS
  have hS : va_S A s.heap H [] := by rw [hHe]; exact hS
  refine lv_aload_n hx hb dX8_fitting_0 rfl (lv_at hl 0 rfl) ?_
  refine lv_aload_n hx hb dX8_fitting_1 rfl (lv_at hl 1 rfl) ?_
  refine lv_iload_n hx hb dX8_fitting_2 rfl (lv_at hl 2 rfl) ?_
  refine aftI (wr := [(dd, .inr (2, ds_)), (wm, .inl (cyI, 30, .inl fwm))]) (runV hC hK hP hD hl.1 (k_X8_gather l D cyB cyI cyJ cyZ H.size wt dd p0 fw_ wc wn fwc fwn hl_fw_ h_fw__7 h_fw__8 h_fw__5) cV_X8_gather mw_methodLink_RX8_103_yX8_gather [0, 3, 4] rfl rfl 0 rfl rfl rfl rfl rfl (Nat.le_of_ble_eq_true rfl) ⟨by decide, by decide⟩ ⟨by decide, by decide⟩ dX8_fitting_3) hP hD hS hA [0, 3, 4] [1, 2] rfl rfl rfl (by decide) (fun r_1 u_1 H locs hw_1 hP hD hS => ?_)
  obtain ⟨gwc_1, gwn_1⟩ := u_1
  try dsimp only at hw_1
  obtain ⟨hr_1, h_gwc_0_1, h_gwn_0_1⟩ := hw_1
  refine lv_cst (v := 0) hr_1 ?_
  have hP : va_P D classes [(dd, .inr (2, ds_)), (wm, .inl (cyI, 30, .inl fwm)), (wt, .inr (8, (((fw_.set 11 (.ref dd)).set 9 (.int 0)).set 10 (.int 0)))), (wc, .inl (cyJ, 31, .inr (.inl gwc_1))), (wn, .inl (cyJ, 31, .inr (.inl gwn_1)))] H := hP
  have hD : va_D A [(dd, .inr (2, ds_)), (wm, .inl (cyI, 30, .inl fwm)), (wt, .inr (8, (((fw_.set 11 (.ref dd)).set 9 (.int 0)).set 10 (.int 0)))), (wc, .inl (cyJ, 31, .inr (.inl gwc_1))), (wn, .inl (cyJ, 31, .inr (.inl gwn_1)))] := hD
  refine W.widen (k := 0) (n := 0) (by decide) (by decide) ?_
  refine lv_istore_n (lv' := [(3, .int 0), (0, .ref wt), (1, .ref dd), (2, .int p0)]) hx hb dX8_fitting_6 rfl hl (by decide) rfl (fun ls hl => ?_)
  refine lv_aload_n hx hb dX8_fitting_7 rfl (lv_at hl 1 rfl) ?_
  refine gf hC hK hP iX8 2 rfl rfl 13 (by decide) mw_fieldLink_RX8_44_MirrorDrill_Witness_known_Z (gs_ne (by decide) (gs_ne (by decide) (gs_ne (by decide) h_fw__13))) dX8_fitting_8 ?_
  refine lv_if_eq (tgt := 22) hx hb dX8_fitting_11 (by decide) (fun c_2 => ?_) (fun c_2 => absurd (by decide) c_2)
  refine lv_aload_n hx hb dX8_fitting_22 rfl (lv_at hl 1 rfl) ?_
  refine aftV (wr := []) (runV hC hK hP hD hl.1 (k_X8_tryAll l D cyB cyI cyJ cyZ H.size wt (((fw_.set 11 (.ref dd)).set 9 (.int 0)).set 10 (.int 0)) dd wm wc wn ds_ fwm gwc_1 gwn_1 (ln_set (ln_set (ln_set hl_fw_))) (gs_ne (by decide) (gs_ne (by decide) (gs_eq (ln_lt hl_fw_ (by decide))))) (gs_ne (by decide) (gs_ne (by decide) (gs_ne (by decide) h_fw__16))) (gs_ne (by decide) (gs_ne (by decide) (gs_ne (by decide) h_fw__7))) (gs_ne (by decide) (gs_ne (by decide) (gs_ne (by decide) h_fw__8))) (gs_ne (by decide) (gs_eq (ln_lt (ln_set hl_fw_) (by decide)))) (gs_eq (ln_lt (ln_set (ln_set hl_fw_)) (by decide))) hl_ds_ h_ds__1 h_ds__8 h_gwc_0_1 h_gwn_0_1) cV_X8_tryAll mw_methodLink_RX8_110_yX8_tryAll [2, 0, 1, 3, 4] rfl rfl 2 rfl rfl rfl rfl rfl (Nat.le_of_ble_eq_true rfl) ⟨by decide, by decide⟩ ⟨by decide, by decide⟩ dX8_fitting_23) hP hD hS hA [2, 0, 1, 3, 4] [] rfl rfl rfl (by decide) (fun u_3 H locs hw_3 hP hD hS => ?_)
  have hP : va_P D classes [(wt, .inr (8, (((((fw_.set 11 (.ref dd)).set 9 (.int 0)).set 10 (.int 0)).set 15 (.int 0)).set 15 (.int 1))))] H := hP
  have hD : va_D A [(wt, .inr (8, (((((fw_.set 11 (.ref dd)).set 9 (.int 0)).set 10 (.int 0)).set 15 (.int 0)).set 15 (.int 1))))] := hD
  refine W.widen (k := 0) (n := 0) (by decide) (by decide) ?_
  refine lv_aload_n hx hb dX8_fitting_26 rfl (lv_at hl 1 rfl) ?_
  refine lv_iconst (v := 1) hx hb dX8_fitting_27 (by decide) ?_
  refine pf (v := .int 1) hC hK hP hD hS iX8 tyX8_ok nmX8 0 rfl rfl 13 (by decide) mw_fieldLink_RX8_44_MirrorDrill_Witness_known_Z rfl rfl rfl (ln_lt (ln_set (ln_set (ln_set (ln_set (ln_set hl_fw_))))) (by decide)) dX8_fitting_28 (fun H locs hP hD hS => ?_)
  have hP : va_P D classes [(wt, .inr (8, ((((((fw_.set 11 (.ref dd)).set 9 (.int 0)).set 10 (.int 0)).set 15 (.int 0)).set 15 (.int 1)).set 13 (.int 1))))] H := hP
  have hD : va_D A [(wt, .inr (8, ((((((fw_.set 11 (.ref dd)).set 9 (.int 0)).set 10 (.int 0)).set 15 (.int 0)).set 15 (.int 1)).set 13 (.int 1))))] := hD
  refine lv_aload_n hx hb dX8_fitting_31 rfl (lv_at hl 1 rfl) ?_
  refine lv_iload_n hx hb dX8_fitting_32 rfl (lv_at hl 0 rfl) ?_
  refine pf (v := .int 0) hC hK hP hD hS iX8 tyX8_ok nmX8 0 rfl rfl 14 (by decide) mw_fieldLink_RX8_107_MirrorDrill_Witness_knownSights_I rfl rfl rfl (ln_lt (ln_set (ln_set (ln_set (ln_set (ln_set (ln_set hl_fw_)))))) (by decide)) dX8_fitting_33 (fun H locs hP hD hS => ?_)
  have hP : va_P D classes [(wt, .inr (8, (((((((fw_.set 11 (.ref dd)).set 9 (.int 0)).set 10 (.int 0)).set 15 (.int 0)).set 15 (.int 1)).set 13 (.int 1)).set 14 (.int 0))))] H := hP
  have hD : va_D A [(wt, .inr (8, (((((((fw_.set 11 (.ref dd)).set 9 (.int 0)).set 10 (.int 0)).set 15 (.int 0)).set 15 (.int 1)).set 13 (.int 1)).set 14 (.int 0))))] := hD
  refine lv_aload_n hx hb dX8_fitting_36 rfl (lv_at hl 1 rfl) ?_
  refine gf hC hK hP iX8 0 rfl rfl 15 (by decide) mw_fieldLink_RX8_113_MirrorDrill_Witness_fitting_I (gs_ne (by decide) (gs_ne (by decide) (gs_eq (ln_lt (ln_set (ln_set (ln_set (ln_set hl_fw_)))) (by decide))))) dX8_fitting_37 ?_
  exact retI hC hP hD hS (by decide) (by decide) () [] rfl rfl rfl dX8_fitting_40
set_option maxHeartbeats 4000000 in
set_option maxRecDepth 100000 in
theorem k_X9_fits (l : Launch) (D : va_G) (cyB cyI cyJ cyZ : ClassId) (sz : Nat) (h0 : Nat) (p0 : Int32) (fs : List Value) (dd : Nat) (wt : Nat) (fw_ : List Value) (wm : Nat) (wc : Nat) (wn : Nat) (ds_ : List Value) (fwm : Nat → Int32) (fwc : Nat → Int64) (fwn : Nat → Int64) (hl_fs : fs.length = 17) (h_fs_3 : fs[3]? = some (.ref dd)) (h_fs_16 : fs[16]? = some (.ref wt)) (hl_fw_ : fw_.length = 17) (h_fw__16 : fw_[16]? = some (.ref wm)) (h_fw__7 : fw_[7]? = some (.ref wc)) (h_fw__8 : fw_[8]? = some (.ref wn)) (h_fw__5 : fw_[5]? = some (.int 0)) (h_fw__13 : fw_[13]? = some (.int 0)) (hl_ds_ : ds_.length = 15) (h_ds__1 : ds_[1]? = some (.int 0)) (h_ds__8 : ds_[8]? = some (.long 0)) : KI l yX9_fits cX9_fits 2 .int 4 0 0 D (TYS cyB cyI cyJ cyZ) [(h0, .inr (9, fs)), (wt, .inr (8, fw_)), (dd, .inr (2, ds_)), (wm, .inl (cyI, 30, .inl fwm)), (wc, .inl (cyJ, 31, .inr (.inl fwc))), (wn, .inl (cyJ, 31, .inr (.inl fwn)))] sz [.ref h0, .int p0] (fun (r : Int32) (u : Unit) => r = 1) (fun (u : Unit) => ([] : va_W)) := by
  refine entI (by decide) (Nat.le_of_ble_eq_true rfl) ?_
  intro p e s m below meth c ls A hC hl hP hK hD hA
  obtain ⟨hx, hb, hr, hml, hown, hts, hlk, hnm⟩ := id hC
  have hS : va_S A s.heap s.heap [] := va_S.rf
  have hl : lv_has ls 2 [(0, .ref h0), (1, .int p0)] := hl
  generalize hHe : s.heap = H at hP ⊢
  rw [hHe] at hS
  have hS : va_S A s.heap H [] := by rw [hHe]; exact hS
  refine lv_aload_n hx hb dX9_fits_0 rfl (lv_at hl 0 rfl) ?_
  refine gf hC hK hP iX9 0 rfl rfl 16 (by decide) mw_fieldLink_RX9_95_MirrorDrill_witness_LMirrorDrill_Witness h_fs_16 dX9_fits_1 ?_
  refine lv_aload_n hx hb dX9_fits_4 rfl (lv_at hl 0 rfl) ?_
  refine gf hC hK hP iX9 0 rfl rfl 3 (by decide) mw_fieldLink_RX9_27_MirrorDrill_drill_LMirrorDrill_Drill h_fs_3 dX9_fits_5 ?_
  refine lv_iload_n hx hb dX9_fits_8 rfl (lv_at hl 1 rfl) ?_
  refine aftI (wr := [(h0, .inr (9, fs))]) (runV hC hK hP hD hl.1 (k_X8_fitting l D cyB cyI cyJ cyZ H.size wt dd p0 fw_ wm wc wn ds_ fwm fwc fwn hl_fw_ h_fw__16 h_fw__7 h_fw__8 h_fw__5 h_fw__13 hl_ds_ h_ds__1 h_ds__8) cV_X8_fitting mw_methodLink_RX9_275_yX8_fitting [1, 2, 3, 4, 5] rfl rfl 1 rfl rfl rfl rfl rfl (Nat.le_of_ble_eq_true rfl) ⟨by decide, by decide⟩ ⟨by decide, by decide⟩ dX9_fits_9) hP hD hS hA [1, 2, 3, 4, 5] [0] rfl rfl rfl (by decide) (fun r_1 u_1 H locs hw_1 hP hD hS => ?_)
  have hr_1 := hw_1
  refine lv_cst (v := 1) hr_1 ?_
  have hP : va_P D classes [(h0, .inr (9, fs))] H := hP
  have hD : va_D A [(h0, .inr (9, fs))] := hD
  refine W.widen (k := 0) (n := 0) (by decide) (by decide) ?_
  exact retI hC hP hD hS (by decide) (by decide) () [] rfl rfl rfl dX9_fits_12
set_option maxHeartbeats 4000000 in
set_option maxRecDepth 100000 in
theorem k_X8_nothingWrong (l : Launch) (D : va_G) (cyB cyI cyJ cyZ : ClassId) (sz : Nat) (wt : Nat) (dd : Nat) (p0 : Int32) (fw_ : List Value) (wc : Nat) (wn : Nat) (ds_ : List Value) (fwc : Nat → Int64) (fwn : Nat → Int64) (hl_fw_ : fw_.length = 17) (h_fw__7 : fw_[7]? = some (.ref wc)) (h_fw__8 : fw_[8]? = some (.ref wn)) (h_fw__5 : fw_[5]? = some (.int 0)) (hl_ds_ : ds_.length = 15) (h_ds__1 : ds_[1]? = some (.int 0)) (h_ds__8 : ds_[8]? = some (.long 0)) : KI l yX8_nothingWrong cX8_nothingWrong 3 .boolean 2 0 0 D (TYS cyB cyI cyJ cyZ) [(wt, .inr (8, fw_)), (dd, .inr (2, ds_)), (wc, .inl (cyJ, 31, .inr (.inl fwc))), (wn, .inl (cyJ, 31, .inr (.inl fwn)))] sz [.ref wt, .ref dd, .int p0] (fun (r : Int32) (u : Unit) => r = 1) (fun (u : Unit) => ([] : va_W)) := by
  refine entI (by decide) (Nat.le_of_ble_eq_true rfl) ?_
  intro p e s m below meth c ls A hC hl hP hK hD hA
  obtain ⟨hx, hb, hr, hml, hown, hts, hlk, hnm⟩ := id hC
  have hS : va_S A s.heap s.heap [] := va_S.rf
  have hl : lv_has ls 3 [(0, .ref wt), (1, .ref dd), (2, .int p0)] := hl
  generalize hHe : s.heap = H at hP ⊢
  rw [hHe] at hS
  have hS : va_S A s.heap H [] := by rw [hHe]; exact hS
  refine lv_aload_n hx hb dX8_nothingWrong_0 rfl (lv_at hl 0 rfl) ?_
  refine lv_aload_n hx hb dX8_nothingWrong_1 rfl (lv_at hl 1 rfl) ?_
  refine lv_iload_n hx hb dX8_nothingWrong_2 rfl (lv_at hl 2 rfl) ?_
  refine aftI (wr := [(dd, .inr (2, ds_))]) (runV hC hK hP hD hl.1 (k_X8_gather l D cyB cyI cyJ cyZ H.size wt dd p0 fw_ wc wn fwc fwn hl_fw_ h_fw__7 h_fw__8 h_fw__5) cV_X8_gather mw_methodLink_RX8_103_yX8_gather [0, 2, 3] rfl rfl 0 rfl rfl rfl rfl rfl (Nat.le_of_ble_eq_true rfl) ⟨by decide, by decide⟩ ⟨by decide, by decide⟩ dX8_nothingWrong_3) hP hD hS hA [0, 2, 3] [1] rfl rfl rfl (by decide) (fun r_1 u_1 H locs hw_1 hP hD hS => ?_)
  obtain ⟨gwc_1, gwn_1⟩ := u_1
  try dsimp only at hw_1
  obtain ⟨hr_1, h_gwc_0_1, h_gwn_0_1⟩ := hw_1
  refine lv_cst (v := 0) hr_1 ?_
  have hP : va_P D classes [(dd, .inr (2, ds_)), (wt, .inr (8, (((fw_.set 11 (.ref dd)).set 9 (.int 0)).set 10 (.int 0)))), (wc, .inl (cyJ, 31, .inr (.inl gwc_1))), (wn, .inl (cyJ, 31, .inr (.inl gwn_1)))] H := hP
  have hD : va_D A [(dd, .inr (2, ds_)), (wt, .inr (8, (((fw_.set 11 (.ref dd)).set 9 (.int 0)).set 10 (.int 0)))), (wc, .inl (cyJ, 31, .inr (.inl gwc_1))), (wn, .inl (cyJ, 31, .inr (.inl gwn_1)))] := hD
  refine W.widen (k := 0) (n := 0) (by decide) (by decide) ?_
  refine lv_pop hx hb dX8_nothingWrong_6 rfl ?_
  refine lv_aload_n hx hb dX8_nothingWrong_7 rfl (lv_at hl 0 rfl) ?_
  refine lv_aload_n hx hb dX8_nothingWrong_8 rfl (lv_at hl 1 rfl) ?_
  refine gf hC hK hP iX2 0 rfl rfl 8 (by decide) mw_fieldLink_RX8_145_MirrorDrill_Drill_first_J h_ds__8 dX8_nothingWrong_9 ?_
  refine lv_iconst (v := (-1)) hx hb dX8_nothingWrong_12 (by decide) ?_
  refine lv_iconst (v := (-1)) hx hb dX8_nothingWrong_13 (by decide) ?_
  refine lv_iconst (v := (-1)) hx hb dX8_nothingWrong_14 (by decide) ?_
  refine aftI (wr := [(dd, .inr (2, ds_))]) (runV hC hK hP hD hl.1 (k_X8_holds l D cyB cyI cyJ cyZ H.size wt (((fw_.set 11 (.ref dd)).set 9 (.int 0)).set 10 (.int 0)) wc wn gwc_1 gwn_1 (ln_set (ln_set (ln_set hl_fw_))) (gs_ne (by decide) (gs_ne (by decide) (gs_ne (by decide) h_fw__7))) (gs_ne (by decide) (gs_ne (by decide) (gs_ne (by decide) h_fw__8))) (gs_ne (by decide) (gs_eq (ln_lt (ln_set hl_fw_) (by decide)))) (gs_eq (ln_lt (ln_set (ln_set hl_fw_)) (by decide))) h_gwc_0_1 h_gwn_0_1) cV_X8_holds mw_methodLink_RX8_137_yX8_holds [1, 2, 3] rfl rfl 1 rfl rfl rfl rfl rfl (Nat.le_of_ble_eq_true rfl) ⟨by decide, by decide⟩ ⟨by decide, by decide⟩ dX8_nothingWrong_15) hP hD hS hA [1, 2, 3] [0] rfl rfl rfl (by decide) (fun r_2 u_2 H locs hw_2 hP hD hS => ?_)
  have hr_2 := hw_2
  refine lv_cst (v := 1) hr_2 ?_
  have hP : va_P D classes [(dd, .inr (2, ds_)), (wt, .inr (8, (((fw_.set 11 (.ref dd)).set 9 (.int 0)).set 10 (.int 0)))), (wc, .inl (cyJ, 31, .inr (.inl gwc_1))), (wn, .inl (cyJ, 31, .inr (.inl gwn_1)))] H := hP
  have hD : va_D A [(dd, .inr (2, ds_)), (wt, .inr (8, (((fw_.set 11 (.ref dd)).set 9 (.int 0)).set 10 (.int 0)))), (wc, .inl (cyJ, 31, .inr (.inl gwc_1))), (wn, .inl (cyJ, 31, .inr (.inl gwn_1)))] := hD
  refine W.widen (k := 0) (n := 0) (by decide) (by decide) ?_
  exact retZ hC hP hD hS (by decide) (by decide) () [] rfl rfl rfl rfl dX8_nothingWrong_18
set_option maxHeartbeats 4000000 in
set_option maxRecDepth 100000 in
theorem k_X8_menMaybeCracked (l : Launch) (D : va_G) (cyB cyI cyJ cyZ : ClassId) (sz : Nat) (wt : Nat) (dd : Nat) (p0 : Int32) (fw_ : List Value) (wc : Nat) (wn : Nat) (ds_ : List Value) (fwc : Nat → Int64) (fwn : Nat → Int64) (hl_fw_ : fw_.length = 17) (h_fw__7 : fw_[7]? = some (.ref wc)) (h_fw__8 : fw_[8]? = some (.ref wn)) (h_fw__5 : fw_[5]? = some (.int 0)) (hl_ds_ : ds_.length = 15) (h_ds__1 : ds_[1]? = some (.int 0)) (h_ds__8 : ds_[8]? = some (.long 0)) : KI l yX8_menMaybeCracked cX8_menMaybeCracked 5 .int 2 0 0 D (TYS cyB cyI cyJ cyZ) [(wt, .inr (8, fw_)), (dd, .inr (2, ds_)), (wc, .inl (cyJ, 31, .inr (.inl fwc))), (wn, .inl (cyJ, 31, .inr (.inl fwn)))] sz [.ref wt, .ref dd, .int p0] (fun (r : Int32) (u : Unit) => r = 0) (fun (u : Unit) => ([] : va_W)) := by
  refine entI (by decide) (Nat.le_of_ble_eq_true rfl) ?_
  intro p e s m below meth c ls A hC hl hP hK hD hA
  obtain ⟨hx, hb, hr, hml, hown, hts, hlk, hnm⟩ := id hC
  have hS : va_S A s.heap s.heap [] := va_S.rf
  have hl : lv_has ls 5 [(0, .ref wt), (1, .ref dd), (2, .int p0)] := hl
  generalize hHe : s.heap = H at hP ⊢
  rw [hHe] at hS
  have hS : va_S A s.heap H [] := by rw [hHe]; exact hS
  refine lv_aload_n hx hb dX8_menMaybeCracked_0 rfl (lv_at hl 0 rfl) ?_
  refine lv_aload_n hx hb dX8_menMaybeCracked_1 rfl (lv_at hl 1 rfl) ?_
  refine lv_iload_n hx hb dX8_menMaybeCracked_2 rfl (lv_at hl 2 rfl) ?_
  refine aftI (wr := [(dd, .inr (2, ds_))]) (runV hC hK hP hD hl.1 (k_X8_gather l D cyB cyI cyJ cyZ H.size wt dd p0 fw_ wc wn fwc fwn hl_fw_ h_fw__7 h_fw__8 h_fw__5) cV_X8_gather mw_methodLink_RX8_103_yX8_gather [0, 2, 3] rfl rfl 0 rfl rfl rfl rfl rfl (Nat.le_of_ble_eq_true rfl) ⟨by decide, by decide⟩ ⟨by decide, by decide⟩ dX8_menMaybeCracked_3) hP hD hS hA [0, 2, 3] [1] rfl rfl rfl (by decide) (fun r_1 u_1 H locs hw_1 hP hD hS => ?_)
  obtain ⟨gwc_1, gwn_1⟩ := u_1
  try dsimp only at hw_1
  obtain ⟨hr_1, h_gwc_0_1, h_gwn_0_1⟩ := hw_1
  refine lv_cst (v := 0) hr_1 ?_
  have hP : va_P D classes [(dd, .inr (2, ds_)), (wt, .inr (8, (((fw_.set 11 (.ref dd)).set 9 (.int 0)).set 10 (.int 0)))), (wc, .inl (cyJ, 31, .inr (.inl gwc_1))), (wn, .inl (cyJ, 31, .inr (.inl gwn_1)))] H := hP
  have hD : va_D A [(dd, .inr (2, ds_)), (wt, .inr (8, (((fw_.set 11 (.ref dd)).set 9 (.int 0)).set 10 (.int 0)))), (wc, .inl (cyJ, 31, .inr (.inl gwc_1))), (wn, .inl (cyJ, 31, .inr (.inl gwn_1)))] := hD
  refine W.widen (k := 0) (n := 0) (by decide) (by decide) ?_
  refine lv_pop hx hb dX8_menMaybeCracked_6 rfl ?_
  refine lv_iconst (v := 0) hx hb dX8_menMaybeCracked_7 (by decide) ?_
  refine lv_istore_n (lv' := [(3, .int 0), (0, .ref wt), (1, .ref dd), (2, .int p0)]) hx hb dX8_menMaybeCracked_8 rfl hl (by decide) rfl (fun ls hl => ?_)
  refine lv_iconst (v := 0) hx hb dX8_menMaybeCracked_9 (by decide) ?_
  refine lv_istore (lv' := [(4, .int 0), (3, .int 0), (0, .ref wt), (1, .ref dd), (2, .int p0)]) hx hb dX8_menMaybeCracked_10 hl (by decide) rfl (fun ls hl => ?_)
  refine lv_iload hx hb dX8_menMaybeCracked_12 (lv_at hl 0 rfl) ?_
  refine lv_aload_n hx hb dX8_menMaybeCracked_14 rfl (lv_at hl 3 rfl) ?_
  refine gf hC hK hP iX2 0 rfl rfl 1 (by decide) mw_fieldLink_RX8_116_MirrorDrill_Drill_men_I h_ds__1 dX8_menMaybeCracked_15 ?_
  refine lv_icmp_ge (tgt := 58) hx hb dX8_menMaybeCracked_18 (by decide) (fun c_2 => ?_) (fun c_2 => absurd (by decide) c_2)
  refine lv_iload_n hx hb dX8_menMaybeCracked_58 rfl (lv_at hl 1 rfl) ?_
  exact retI hC hP hD hS (by decide) (by decide) () [] rfl rfl rfl dX8_menMaybeCracked_59
set_option maxHeartbeats 4000000 in
set_option maxRecDepth 100000 in
theorem k_X8_menMaybeWindowed (l : Launch) (D : va_G) (cyB cyI cyJ cyZ : ClassId) (sz : Nat) (wt : Nat) (dd : Nat) (p0 : Int32) (fw_ : List Value) (wc : Nat) (wn : Nat) (ds_ : List Value) (fwc : Nat → Int64) (fwn : Nat → Int64) (hl_fw_ : fw_.length = 17) (h_fw__7 : fw_[7]? = some (.ref wc)) (h_fw__8 : fw_[8]? = some (.ref wn)) (h_fw__5 : fw_[5]? = some (.int 0)) (hl_ds_ : ds_.length = 15) (h_ds__1 : ds_[1]? = some (.int 0)) (h_ds__8 : ds_[8]? = some (.long 0)) : KI l yX8_menMaybeWindowed cX8_menMaybeWindowed 6 .int 2 0 0 D (TYS cyB cyI cyJ cyZ) [(wt, .inr (8, fw_)), (dd, .inr (2, ds_)), (wc, .inl (cyJ, 31, .inr (.inl fwc))), (wn, .inl (cyJ, 31, .inr (.inl fwn)))] sz [.ref wt, .ref dd, .int p0] (fun (r : Int32) (u : Unit) => r = 0) (fun (u : Unit) => ([] : va_W)) := by
  refine entI (by decide) (Nat.le_of_ble_eq_true rfl) ?_
  intro p e s m below meth c ls A hC hl hP hK hD hA
  obtain ⟨hx, hb, hr, hml, hown, hts, hlk, hnm⟩ := id hC
  have hS : va_S A s.heap s.heap [] := va_S.rf
  have hl : lv_has ls 6 [(0, .ref wt), (1, .ref dd), (2, .int p0)] := hl
  generalize hHe : s.heap = H at hP ⊢
  rw [hHe] at hS
  have hS : va_S A s.heap H [] := by rw [hHe]; exact hS
  refine lv_aload_n hx hb dX8_menMaybeWindowed_0 rfl (lv_at hl 0 rfl) ?_
  refine lv_aload_n hx hb dX8_menMaybeWindowed_1 rfl (lv_at hl 1 rfl) ?_
  refine lv_iload_n hx hb dX8_menMaybeWindowed_2 rfl (lv_at hl 2 rfl) ?_
  refine aftI (wr := [(dd, .inr (2, ds_))]) (runV hC hK hP hD hl.1 (k_X8_gather l D cyB cyI cyJ cyZ H.size wt dd p0 fw_ wc wn fwc fwn hl_fw_ h_fw__7 h_fw__8 h_fw__5) cV_X8_gather mw_methodLink_RX8_103_yX8_gather [0, 2, 3] rfl rfl 0 rfl rfl rfl rfl rfl (Nat.le_of_ble_eq_true rfl) ⟨by decide, by decide⟩ ⟨by decide, by decide⟩ dX8_menMaybeWindowed_3) hP hD hS hA [0, 2, 3] [1] rfl rfl rfl (by decide) (fun r_1 u_1 H locs hw_1 hP hD hS => ?_)
  obtain ⟨gwc_1, gwn_1⟩ := u_1
  try dsimp only at hw_1
  obtain ⟨hr_1, h_gwc_0_1, h_gwn_0_1⟩ := hw_1
  refine lv_cst (v := 0) hr_1 ?_
  have hP : va_P D classes [(dd, .inr (2, ds_)), (wt, .inr (8, (((fw_.set 11 (.ref dd)).set 9 (.int 0)).set 10 (.int 0)))), (wc, .inl (cyJ, 31, .inr (.inl gwc_1))), (wn, .inl (cyJ, 31, .inr (.inl gwn_1)))] H := hP
  have hD : va_D A [(dd, .inr (2, ds_)), (wt, .inr (8, (((fw_.set 11 (.ref dd)).set 9 (.int 0)).set 10 (.int 0)))), (wc, .inl (cyJ, 31, .inr (.inl gwc_1))), (wn, .inl (cyJ, 31, .inr (.inl gwn_1)))] := hD
  refine W.widen (k := 0) (n := 0) (by decide) (by decide) ?_
  refine lv_pop hx hb dX8_menMaybeWindowed_6 rfl ?_
  refine lv_iconst (v := 0) hx hb dX8_menMaybeWindowed_7 (by decide) ?_
  refine lv_istore_n (lv' := [(3, .int 0), (0, .ref wt), (1, .ref dd), (2, .int p0)]) hx hb dX8_menMaybeWindowed_8 rfl hl (by decide) rfl (fun ls hl => ?_)
  refine lv_iconst (v := 0) hx hb dX8_menMaybeWindowed_9 (by decide) ?_
  refine lv_istore (lv' := [(4, .int 0), (3, .int 0), (0, .ref wt), (1, .ref dd), (2, .int p0)]) hx hb dX8_menMaybeWindowed_10 hl (by decide) rfl (fun ls hl => ?_)
  refine lv_iload hx hb dX8_menMaybeWindowed_12 (lv_at hl 0 rfl) ?_
  refine lv_aload_n hx hb dX8_menMaybeWindowed_14 rfl (lv_at hl 3 rfl) ?_
  refine gf hC hK hP iX2 0 rfl rfl 1 (by decide) mw_fieldLink_RX8_116_MirrorDrill_Drill_men_I h_ds__1 dX8_menMaybeWindowed_15 ?_
  refine lv_icmp_ge (tgt := 80) hx hb dX8_menMaybeWindowed_18 (by decide) (fun c_2 => ?_) (fun c_2 => absurd (by decide) c_2)
  refine lv_iload_n hx hb dX8_menMaybeWindowed_80 rfl (lv_at hl 1 rfl) ?_
  exact retI hC hP hD hS (by decide) (by decide) () [] rfl rfl rfl dX8_menMaybeWindowed_81
set_option maxHeartbeats 4000000 in
set_option maxRecDepth 100000 in
theorem k_X9_wrong (l : Launch) (D : va_G) (cyB cyI cyJ cyZ : ClassId) (sz : Nat) (h0 : Nat) (p0 : Int32) (p1 : Int32) (fs : List Value) (dd : Nat) (wt : Nat) (fw_ : List Value) (wc : Nat) (wn : Nat) (ds_ : List Value) (fwc : Nat → Int64) (fwn : Nat → Int64) (hl_fs : fs.length = 17) (h_fs_3 : fs[3]? = some (.ref dd)) (h_fs_16 : fs[16]? = some (.ref wt)) (hl_fw_ : fw_.length = 17) (h_fw__7 : fw_[7]? = some (.ref wc)) (h_fw__8 : fw_[8]? = some (.ref wn)) (h_fw__5 : fw_[5]? = some (.int 0)) (hl_ds_ : ds_.length = 15) (h_ds__1 : ds_[1]? = some (.int 0)) (h_ds__8 : ds_[8]? = some (.long 0)) : KI l yX9_wrong cX9_wrong 3 .int 3 0 0 D (TYS cyB cyI cyJ cyZ) [(h0, .inr (9, fs)), (wt, .inr (8, fw_)), (dd, .inr (2, ds_)), (wc, .inl (cyJ, 31, .inr (.inl fwc))), (wn, .inl (cyJ, 31, .inr (.inl fwn)))] sz [.ref h0, .int p0, .int p1] (fun (r : Int32) (u : Unit) => r = sp_wrong p0) (fun (u : Unit) => ([] : va_W)) := by
  refine entI (by decide) (Nat.le_of_ble_eq_true rfl) ?_
  intro p e s m below meth c ls A hC hl hP hK hD hA
  obtain ⟨hx, hb, hr, hml, hown, hts, hlk, hnm⟩ := id hC
  have hS : va_S A s.heap s.heap [] := va_S.rf
  have hl : lv_has ls 3 [(0, .ref h0), (1, .int p0), (2, .int p1)] := hl
  generalize hHe : s.heap = H at hP ⊢
  rw [hHe] at hS
  have hS : va_S A s.heap H [] := by rw [hHe]; exact hS
  refine lv_iload_n hx hb dX9_wrong_0 rfl (lv_at hl 1 rfl) ?_
  rcases tsw_0_2 p0 with rfl | rfl | rfl | ho_1
  · refine lv_tableIn (tgt := 28) (off := 27) hx hb dX9_wrong_1 (by decide) (by decide) (by decide) (by decide) ?_
    refine lv_aload_n hx hb dX9_wrong_28 rfl (lv_at hl 0 rfl) ?_
    refine gf hC hK hP iX9 0 rfl rfl 16 (by decide) mw_fieldLink_RX9_95_MirrorDrill_witness_LMirrorDrill_Witness h_fs_16 dX9_wrong_29 ?_
    refine lv_aload_n hx hb dX9_wrong_32 rfl (lv_at hl 0 rfl) ?_
    refine gf hC hK hP iX9 0 rfl rfl 3 (by decide) mw_fieldLink_RX9_27_MirrorDrill_drill_LMirrorDrill_Drill h_fs_3 dX9_wrong_33 ?_
    refine lv_iload_n hx hb dX9_wrong_36 rfl (lv_at hl 2 rfl) ?_
    refine aftI (wr := [(h0, .inr (9, fs))]) (runV hC hK hP hD hl.1 (k_X8_nothingWrong l D cyB cyI cyJ cyZ H.size wt dd p1 fw_ wc wn ds_ fwc fwn hl_fw_ h_fw__7 h_fw__8 h_fw__5 hl_ds_ h_ds__1 h_ds__8) cV_X8_nothingWrong mw_methodLink_RX9_288_yX8_nothingWrong [1, 2, 3, 4] rfl rfl 1 rfl rfl rfl rfl rfl (Nat.le_of_ble_eq_true rfl) ⟨by decide, by decide⟩ ⟨by decide, by decide⟩ dX9_wrong_37) hP hD hS hA [1, 2, 3, 4] [0] rfl rfl rfl (by decide) (fun r_2 u_2 H locs hw_2 hP hD hS => ?_)
    have hr_2 := hw_2
    refine lv_cst (v := 1) hr_2 ?_
    have hP : va_P D classes [(h0, .inr (9, fs))] H := hP
    have hD : va_D A [(h0, .inr (9, fs))] := hD
    refine W.widen (k := 0) (n := 0) (by decide) (by decide) ?_
    refine lv_if_eq (tgt := 47) hx hb dX9_wrong_40 (by decide) (fun c_3 => absurd c_3 (by decide)) (fun c_3 => ?_)
    refine lv_iconst (v := 1) hx hb dX9_wrong_43 (by decide) ?_
    refine lv_goto (tgt := 48) hx hb dX9_wrong_44 (by decide) ?_
    exact retI hC hP hD hS (by decide) (by decide) () [] rfl rfl (by decide) dX9_wrong_48
  · refine lv_tableIn (tgt := 49) (off := 48) hx hb dX9_wrong_1 (by decide) (by decide) (by decide) (by decide) ?_
    refine lv_aload_n hx hb dX9_wrong_49 rfl (lv_at hl 0 rfl) ?_
    refine gf hC hK hP iX9 0 rfl rfl 16 (by decide) mw_fieldLink_RX9_95_MirrorDrill_witness_LMirrorDrill_Witness h_fs_16 dX9_wrong_50 ?_
    refine lv_aload_n hx hb dX9_wrong_53 rfl (lv_at hl 0 rfl) ?_
    refine gf hC hK hP iX9 0 rfl rfl 3 (by decide) mw_fieldLink_RX9_27_MirrorDrill_drill_LMirrorDrill_Drill h_fs_3 dX9_wrong_54 ?_
    refine lv_iload_n hx hb dX9_wrong_57 rfl (lv_at hl 2 rfl) ?_
    refine aftI (wr := [(h0, .inr (9, fs))]) (runV hC hK hP hD hl.1 (k_X8_menMaybeCracked l D cyB cyI cyJ cyZ H.size wt dd p1 fw_ wc wn ds_ fwc fwn hl_fw_ h_fw__7 h_fw__8 h_fw__5 hl_ds_ h_ds__1 h_ds__8) cV_X8_menMaybeCracked mw_methodLink_RX9_291_yX8_menMaybeCracked [1, 2, 3, 4] rfl rfl 1 rfl rfl rfl rfl rfl (Nat.le_of_ble_eq_true rfl) ⟨by decide, by decide⟩ ⟨by decide, by decide⟩ dX9_wrong_58) hP hD hS hA [1, 2, 3, 4] [0] rfl rfl rfl (by decide) (fun r_4 u_4 H locs hw_4 hP hD hS => ?_)
    have hr_4 := hw_4
    refine lv_cst (v := 0) hr_4 ?_
    have hP : va_P D classes [(h0, .inr (9, fs))] H := hP
    have hD : va_D A [(h0, .inr (9, fs))] := hD
    refine W.widen (k := 0) (n := 0) (by decide) (by decide) ?_
    exact retI hC hP hD hS (by decide) (by decide) () [] rfl rfl (by decide) dX9_wrong_61
  · refine lv_tableIn (tgt := 62) (off := 61) hx hb dX9_wrong_1 (by decide) (by decide) (by decide) (by decide) ?_
    refine lv_aload_n hx hb dX9_wrong_62 rfl (lv_at hl 0 rfl) ?_
    refine gf hC hK hP iX9 0 rfl rfl 16 (by decide) mw_fieldLink_RX9_95_MirrorDrill_witness_LMirrorDrill_Witness h_fs_16 dX9_wrong_63 ?_
    refine lv_aload_n hx hb dX9_wrong_66 rfl (lv_at hl 0 rfl) ?_
    refine gf hC hK hP iX9 0 rfl rfl 3 (by decide) mw_fieldLink_RX9_27_MirrorDrill_drill_LMirrorDrill_Drill h_fs_3 dX9_wrong_67 ?_
    refine lv_iload_n hx hb dX9_wrong_70 rfl (lv_at hl 2 rfl) ?_
    refine aftI (wr := [(h0, .inr (9, fs))]) (runV hC hK hP hD hl.1 (k_X8_menMaybeWindowed l D cyB cyI cyJ cyZ H.size wt dd p1 fw_ wc wn ds_ fwc fwn hl_fw_ h_fw__7 h_fw__8 h_fw__5 hl_ds_ h_ds__1 h_ds__8) cV_X8_menMaybeWindowed mw_methodLink_RX9_294_yX8_menMaybeWindowed [1, 2, 3, 4] rfl rfl 1 rfl rfl rfl rfl rfl (Nat.le_of_ble_eq_true rfl) ⟨by decide, by decide⟩ ⟨by decide, by decide⟩ dX9_wrong_71) hP hD hS hA [1, 2, 3, 4] [0] rfl rfl rfl (by decide) (fun r_5 u_5 H locs hw_5 hP hD hS => ?_)
    have hr_5 := hw_5
    refine lv_cst (v := 0) hr_5 ?_
    have hP : va_P D classes [(h0, .inr (9, fs))] H := hP
    have hD : va_D A [(h0, .inr (9, fs))] := hD
    refine W.widen (k := 0) (n := 0) (by decide) (by decide) ?_
    exact retI hC hP hD hS (by decide) (by decide) () [] rfl rfl (by decide) dX9_wrong_74
  · refine lv_tableOut (tgt := 75) hx hb dX9_wrong_1 ho_1 (by decide) ?_
    refine lv_iconst (v := (-1)) hx hb dX9_wrong_75 (by decide) ?_
    exact retI hC hP hD hS (by decide) (by decide) () [] rfl rfl (by have z := ho_1; unfold sp_wrong; (repeat' split) <;> first | rfl | (exfalso; omega)) dX9_wrong_76
