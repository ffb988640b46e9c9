theorem dX2_isMan_0 : decode cX2_isMan 0 = .ok (.iload_n 1, 1) := by decide +kernel
theorem dX2_isMan_1 : decode cX2_isMan 1 = .ok (.ifCond .lt 15, 3) := by decide +kernel
theorem dX2_isMan_4 : decode cX2_isMan 4 = .ok (.iload_n 1, 1) := by decide +kernel
theorem dX2_isMan_5 : decode cX2_isMan 5 = .ok (.aload_n 0, 1) := by decide +kernel
theorem dX2_isMan_6 : decode cX2_isMan 6 = .ok (.getfield 15, 3) := by decide +kernel
theorem dX2_isMan_9 : decode cX2_isMan 9 = .ok (.if_icmp .ge 7, 3) := by decide +kernel
theorem dX2_isMan_12 : decode cX2_isMan 12 = .ok (.iconst 1, 1) := by decide +kernel
theorem dX2_isMan_13 : decode cX2_isMan 13 = .ok (.goto 4, 3) := by decide +kernel
theorem dX2_isMan_16 : decode cX2_isMan 16 = .ok (.iconst 0, 1) := by decide +kernel
theorem dX2_isMan_17 : decode cX2_isMan 17 = .ok (.ireturn, 1) := by decide +kernel
theorem dX2_isRule_0 : decode cX2_isRule 0 = .ok (.iload_n 1, 1) := by decide +kernel
theorem dX2_isRule_1 : decode cX2_isRule 1 = .ok (.ifCond .lt 15, 3) := by decide +kernel
theorem dX2_isRule_4 : decode cX2_isRule 4 = .ok (.iload_n 1, 1) := by decide +kernel
theorem dX2_isRule_5 : decode cX2_isRule 5 = .ok (.aload_n 0, 1) := by decide +kernel
theorem dX2_isRule_6 : decode cX2_isRule 6 = .ok (.getfield 18, 3) := by decide +kernel
theorem dX2_isRule_9 : decode cX2_isRule 9 = .ok (.if_icmp .ge 7, 3) := by decide +kernel
theorem dX2_isRule_12 : decode cX2_isRule 12 = .ok (.iconst 1, 1) := by decide +kernel
theorem dX2_isRule_13 : decode cX2_isRule 13 = .ok (.goto 4, 3) := by decide +kernel
theorem dX2_isRule_16 : decode cX2_isRule 16 = .ok (.iconst 0, 1) := by decide +kernel
theorem dX2_isRule_17 : decode cX2_isRule 17 = .ok (.ireturn, 1) := by decide +kernel
theorem dX9_does_0 : decode cX9_does 0 = .ok (.aload_n 0, 1) := by decide +kernel
theorem dX9_does_1 : decode cX9_does 1 = .ok (.getfield 27, 3) := by decide +kernel
theorem dX9_does_4 : decode cX9_does 4 = .ok (.iload_n 1, 1) := by decide +kernel
theorem dX9_does_5 : decode cX9_does 5 = .ok (.invokevirtual 147, 3) := by decide +kernel
theorem dX9_does_8 : decode cX9_does 8 = .ok (.ifCond .eq 17, 3) := by decide +kernel
theorem dX9_does_11 : decode cX9_does 11 = .ok (.aload_n 0, 1) := by decide +kernel
theorem dX9_does_12 : decode cX9_does 12 = .ok (.getfield 43, 3) := by decide +kernel
theorem dX9_does_15 : decode cX9_does 15 = .ok (.invokevirtual 151, 3) := by decide +kernel
theorem dX9_does_18 : decode cX9_does 18 = .ok (.iload_n 1, 1) := by decide +kernel
theorem dX9_does_19 : decode cX9_does 19 = .ok (.invokestatic 155, 3) := by decide +kernel
theorem dX9_does_22 : decode cX9_does 22 = .ok (.goto 4, 3) := by decide +kernel
theorem dX9_does_25 : decode cX9_does 25 = .ok (.iconst (-1), 1) := by decide +kernel
theorem dX9_does_26 : decode cX9_does 26 = .ok (.ireturn, 1) := by decide +kernel
theorem dX9_made_0 : decode cX9_made 0 = .ok (.aload_n 0, 1) := by decide +kernel
theorem dX9_made_1 : decode cX9_made 1 = .ok (.getfield 27, 3) := by decide +kernel
theorem dX9_made_4 : decode cX9_made 4 = .ok (.iload_n 1, 1) := by decide +kernel
theorem dX9_made_5 : decode cX9_made 5 = .ok (.invokevirtual 159, 3) := by decide +kernel
theorem dX9_made_8 : decode cX9_made 8 = .ok (.ifCond .eq 37, 3) := by decide +kernel
theorem dX9_made_11 : decode cX9_made 11 = .ok (.aload_n 0, 1) := by decide +kernel
theorem dX9_made_12 : decode cX9_made 12 = .ok (.getfield 27, 3) := by decide +kernel
theorem dX9_made_15 : decode cX9_made 15 = .ok (.iload_n 2, 1) := by decide +kernel
theorem dX9_made_16 : decode cX9_made 16 = .ok (.invokevirtual 162, 3) := by decide +kernel
theorem dX9_made_19 : decode cX9_made 19 = .ok (.ifCond .eq 26, 3) := by decide +kernel
theorem dX9_made_22 : decode cX9_made 22 = .ok (.aload_n 0, 1) := by decide +kernel
theorem dX9_made_23 : decode cX9_made 23 = .ok (.getfield 27, 3) := by decide +kernel
theorem dX9_made_26 : decode cX9_made 26 = .ok (.iload_n 3, 1) := by decide +kernel
theorem dX9_made_27 : decode cX9_made 27 = .ok (.invokevirtual 162, 3) := by decide +kernel
theorem dX9_made_30 : decode cX9_made 30 = .ok (.ifCond .eq 15, 3) := by decide +kernel
theorem dX9_made_33 : decode cX9_made 33 = .ok (.aload_n 0, 1) := by decide +kernel
theorem dX9_made_34 : decode cX9_made 34 = .ok (.getfield 27, 3) := by decide +kernel
theorem dX9_made_37 : decode cX9_made 37 = .ok (.iload 4, 2) := by decide +kernel
theorem dX9_made_39 : decode cX9_made 39 = .ok (.invokevirtual 162, 3) := by decide +kernel
theorem dX9_made_42 : decode cX9_made 42 = .ok (.ifCond .ne 5, 3) := by decide +kernel
theorem dX9_made_45 : decode cX9_made 45 = .ok (.iconst (-1), 1) := by decide +kernel
theorem dX9_made_46 : decode cX9_made 46 = .ok (.ireturn, 1) := by decide +kernel
theorem dX9_made_47 : decode cX9_made 47 = .ok (.aload_n 0, 1) := by decide +kernel
theorem dX9_made_48 : decode cX9_made 48 = .ok (.getfield 27, 3) := by decide +kernel
theorem dX9_made_51 : decode cX9_made 51 = .ok (.iload_n 1, 1) := by decide +kernel
theorem dX9_made_52 : decode cX9_made 52 = .ok (.iload_n 2, 1) := by decide +kernel
theorem dX9_made_53 : decode cX9_made 53 = .ok (.iload_n 3, 1) := by decide +kernel
theorem dX9_made_54 : decode cX9_made 54 = .ok (.iload 4, 2) := by decide +kernel
theorem dX9_made_56 : decode cX9_made 56 = .ok (.invokestatic 165, 3) := by decide +kernel
theorem dX9_made_59 : decode cX9_made 59 = .ok (.invokevirtual 169, 3) := by decide +kernel
theorem dX9_made_62 : decode cX9_made 62 = .ok (.ireturn, 1) := by decide +kernel
theorem dX9_order_0 : decode cX9_order 0 = .ok (.aload_n 0, 1) := by decide +kernel
theorem dX9_order_1 : decode cX9_order 1 = .ok (.getfield 27, 3) := by decide +kernel
theorem dX9_order_4 : decode cX9_order 4 = .ok (.iload_n 1, 1) := by decide +kernel
theorem dX9_order_5 : decode cX9_order 5 = .ok (.invokevirtual 147, 3) := by decide +kernel
theorem dX9_order_8 : decode cX9_order 8 = .ok (.ifCond .eq 14, 3) := by decide +kernel
theorem dX9_order_11 : decode cX9_order 11 = .ok (.aload_n 0, 1) := by decide +kernel
theorem dX9_order_12 : decode cX9_order 12 = .ok (.getfield 27, 3) := by decide +kernel
theorem dX9_order_15 : decode cX9_order 15 = .ok (.iload_n 2, 1) := by decide +kernel
theorem dX9_order_16 : decode cX9_order 16 = .ok (.invokevirtual 162, 3) := by decide +kernel
theorem dX9_order_19 : decode cX9_order 19 = .ok (.ifCond .ne 5, 3) := by decide +kernel
theorem dX9_order_22 : decode cX9_order 22 = .ok (.iconst (-1), 1) := by decide +kernel
theorem dX9_order_23 : decode cX9_order 23 = .ok (.ireturn, 1) := by decide +kernel
theorem dX9_order_24 : decode cX9_order 24 = .ok (.aload_n 0, 1) := by decide +kernel
theorem dX9_order_25 : decode cX9_order 25 = .ok (.getfield 43, 3) := by decide +kernel
theorem dX9_order_28 : decode cX9_order 28 = .ok (.invokevirtual 151, 3) := by decide +kernel
theorem dX9_order_31 : decode cX9_order 31 = .ok (.iload_n 1, 1) := by decide +kernel
theorem dX9_order_32 : decode cX9_order 32 = .ok (.invokestatic 155, 3) := by decide +kernel
theorem dX9_order_35 : decode cX9_order 35 = .ok (.istore_n 3, 1) := by decide +kernel
theorem dX9_order_36 : decode cX9_order 36 = .ok (.aload_n 0, 1) := by decide +kernel
theorem dX9_order_37 : decode cX9_order 37 = .ok (.getfield 43, 3) := by decide +kernel
theorem dX9_order_40 : decode cX9_order 40 = .ok (.aload_n 0, 1) := by decide +kernel
theorem dX9_order_41 : decode cX9_order 41 = .ok (.getfield 43, 3) := by decide +kernel
theorem dX9_order_44 : decode cX9_order 44 = .ok (.invokevirtual 151, 3) := by decide +kernel
theorem dX9_order_47 : decode cX9_order 47 = .ok (.iload_n 1, 1) := by decide +kernel
theorem dX9_order_48 : decode cX9_order 48 = .ok (.iload_n 2, 1) := by decide +kernel
theorem dX9_order_49 : decode cX9_order 49 = .ok (.invokestatic 184, 3) := by decide +kernel
theorem dX9_order_52 : decode cX9_order 52 = .ok (.aload_n 0, 1) := by decide +kernel
theorem dX9_order_53 : decode cX9_order 53 = .ok (.getfield 43, 3) := by decide +kernel
theorem dX9_order_56 : decode cX9_order 56 = .ok (.invokevirtual 173, 3) := by decide +kernel
theorem dX9_order_59 : decode cX9_order 59 = .ok (.invokevirtual 181, 3) := by decide +kernel
theorem dX9_order_62 : decode cX9_order 62 = .ok (.iload_n 3, 1) := by decide +kernel
theorem dX9_order_63 : decode cX9_order 63 = .ok (.ireturn, 1) := by decide +kernel
theorem dX6_clear_0 : decode cX6_clear 0 = .ok (.aload_n 0, 1) := by decide +kernel
theorem dX6_clear_1 : decode cX6_clear 1 = .ok (.iconst 0, 1) := by decide +kernel
theorem dX6_clear_2 : decode cX6_clear 2 = .ok (.putfield 15, 3) := by decide +kernel
theorem dX6_clear_5 : decode cX6_clear 5 = .ok (.return_, 1) := by decide +kernel
theorem dX9_one_0 : decode cX9_one 0 = .ok (.aload_n 0, 1) := by decide +kernel
theorem dX9_one_1 : decode cX9_one 1 = .ok (.getfield 27, 3) := by decide +kernel
theorem dX9_one_4 : decode cX9_one 4 = .ok (.iload_n 1, 1) := by decide +kernel
theorem dX9_one_5 : decode cX9_one 5 = .ok (.invokevirtual 159, 3) := by decide +kernel
theorem dX9_one_8 : decode cX9_one 8 = .ok (.ifCond .ne 5, 3) := by decide +kernel
theorem dX9_one_11 : decode cX9_one 11 = .ok (.iconst (-1), 1) := by decide +kernel
theorem dX9_one_12 : decode cX9_one 12 = .ok (.ireturn, 1) := by decide +kernel
theorem dX9_one_13 : decode cX9_one 13 = .ok (.aload_n 0, 1) := by decide +kernel
theorem dX9_one_14 : decode cX9_one 14 = .ok (.getfield 81, 3) := by decide +kernel
theorem dX9_one_17 : decode cX9_one 17 = .ok (.aload_n 0, 1) := by decide +kernel
theorem dX9_one_18 : decode cX9_one 18 = .ok (.getfield 27, 3) := by decide +kernel
theorem dX9_one_21 : decode cX9_one 21 = .ok (.iload_n 1, 1) := by decide +kernel
theorem dX9_one_22 : decode cX9_one 22 = .ok (.invokevirtual 234, 3) := by decide +kernel
theorem dX9_one_25 : decode cX9_one 25 = .ok (.ifCond .eq 7, 3) := by decide +kernel
theorem dX9_one_28 : decode cX9_one 28 = .ok (.iconst 1, 1) := by decide +kernel
theorem dX9_one_29 : decode cX9_one 29 = .ok (.goto 4, 3) := by decide +kernel
theorem dX9_one_32 : decode cX9_one 32 = .ok (.iconst 0, 1) := by decide +kernel
theorem dX9_one_33 : decode cX9_one 33 = .ok (.ireturn, 1) := by decide +kernel
theorem dX9_keeps_0 : decode cX9_keeps 0 = .ok (.aload_n 0, 1) := by decide +kernel
theorem dX9_keeps_1 : decode cX9_keeps 1 = .ok (.getfield 27, 3) := by decide +kernel
theorem dX9_keeps_4 : decode cX9_keeps 4 = .ok (.iload_n 1, 1) := by decide +kernel
theorem dX9_keeps_5 : decode cX9_keeps 5 = .ok (.invokevirtual 159, 3) := by decide +kernel
theorem dX9_keeps_8 : decode cX9_keeps 8 = .ok (.ifCond .ne 5, 3) := by decide +kernel
theorem dX9_keeps_11 : decode cX9_keeps 11 = .ok (.iconst (-1), 1) := by decide +kernel
theorem dX9_keeps_12 : decode cX9_keeps 12 = .ok (.ireturn, 1) := by decide +kernel
theorem dX9_keeps_13 : decode cX9_keeps 13 = .ok (.aload_n 0, 1) := by decide +kernel
theorem dX9_keeps_14 : decode cX9_keeps 14 = .ok (.getfield 81, 3) := by decide +kernel
theorem dX9_keeps_17 : decode cX9_keeps 17 = .ok (.aload_n 0, 1) := by decide +kernel
theorem dX9_keeps_18 : decode cX9_keeps 18 = .ok (.getfield 27, 3) := by decide +kernel
theorem dX9_keeps_21 : decode cX9_keeps 21 = .ok (.iload_n 1, 1) := by decide +kernel
theorem dX9_keeps_22 : decode cX9_keeps 22 = .ok (.invokevirtual 238, 3) := by decide +kernel
theorem dX9_keeps_25 : decode cX9_keeps 25 = .ok (.ifCond .eq 7, 3) := by decide +kernel
theorem dX9_keeps_28 : decode cX9_keeps 28 = .ok (.iconst 1, 1) := by decide +kernel
theorem dX9_keeps_29 : decode cX9_keeps 29 = .ok (.goto 4, 3) := by decide +kernel
theorem dX9_keeps_32 : decode cX9_keeps 32 = .ok (.iconst 0, 1) := by decide +kernel
theorem dX9_keeps_33 : decode cX9_keeps 33 = .ok (.ireturn, 1) := by decide +kernel
theorem dX9_orphan_0 : decode cX9_orphan 0 = .ok (.aload_n 0, 1) := by decide +kernel
theorem dX9_orphan_1 : decode cX9_orphan 1 = .ok (.getfield 57, 3) := by decide +kernel
theorem dX9_orphan_4 : decode cX9_orphan 4 = .ok (.invokevirtual 137, 3) := by decide +kernel
theorem dX9_orphan_7 : decode cX9_orphan 7 = .ok (.aload_n 0, 1) := by decide +kernel
theorem dX9_orphan_8 : decode cX9_orphan 8 = .ok (.getfield 27, 3) := by decide +kernel
theorem dX9_orphan_11 : decode cX9_orphan 11 = .ok (.iload_n 1, 1) := by decide +kernel
theorem dX9_orphan_12 : decode cX9_orphan 12 = .ok (.invokevirtual 159, 3) := by decide +kernel
theorem dX9_orphan_15 : decode cX9_orphan 15 = .ok (.ifCond .eq 22, 3) := by decide +kernel
theorem dX9_orphan_18 : decode cX9_orphan 18 = .ok (.aload_n 0, 1) := by decide +kernel
theorem dX9_orphan_19 : decode cX9_orphan 19 = .ok (.getfield 81, 3) := by decide +kernel
theorem dX9_orphan_22 : decode cX9_orphan 22 = .ok (.aload_n 0, 1) := by decide +kernel
theorem dX9_orphan_23 : decode cX9_orphan 23 = .ok (.getfield 27, 3) := by decide +kernel
theorem dX9_orphan_26 : decode cX9_orphan 26 = .ok (.iload_n 1, 1) := by decide +kernel
theorem dX9_orphan_27 : decode cX9_orphan 27 = .ok (.aload_n 0, 1) := by decide +kernel
theorem dX9_orphan_28 : decode cX9_orphan 28 = .ok (.getfield 57, 3) := by decide +kernel
theorem dX9_orphan_31 : decode cX9_orphan 31 = .ok (.invokevirtual 230, 3) := by decide +kernel
theorem dX9_orphan_34 : decode cX9_orphan 34 = .ok (.goto 4, 3) := by decide +kernel
theorem dX9_orphan_37 : decode cX9_orphan 37 = .ok (.iconst (-1), 1) := by decide +kernel
theorem dX9_orphan_38 : decode cX9_orphan 38 = .ok (.ireturn, 1) := by decide +kernel
theorem dX9_spread_0 : decode cX9_spread 0 = .ok (.aload_n 0, 1) := by decide +kernel
theorem dX9_spread_1 : decode cX9_spread 1 = .ok (.getfield 27, 3) := by decide +kernel
theorem dX9_spread_4 : decode cX9_spread 4 = .ok (.iload_n 1, 1) := by decide +kernel
theorem dX9_spread_5 : decode cX9_spread 5 = .ok (.invokevirtual 147, 3) := by decide +kernel
theorem dX9_spread_8 : decode cX9_spread 8 = .ok (.ifCond .eq 25, 3) := by decide +kernel
theorem dX9_spread_11 : decode cX9_spread 11 = .ok (.aload_n 0, 1) := by decide +kernel
theorem dX9_spread_12 : decode cX9_spread 12 = .ok (.getfield 27, 3) := by decide +kernel
theorem dX9_spread_15 : decode cX9_spread 15 = .ok (.iload_n 2, 1) := by decide +kernel
theorem dX9_spread_16 : decode cX9_spread 16 = .ok (.invokevirtual 162, 3) := by decide +kernel
theorem dX9_spread_19 : decode cX9_spread 19 = .ok (.ifCond .eq 14, 3) := by decide +kernel
theorem dX9_spread_22 : decode cX9_spread 22 = .ok (.iload_n 3, 1) := by decide +kernel
theorem dX9_spread_23 : decode cX9_spread 23 = .ok (.ifCond .lt 10, 3) := by decide +kernel
theorem dX9_spread_26 : decode cX9_spread 26 = .ok (.iload_n 3, 1) := by decide +kernel
theorem dX9_spread_27 : decode cX9_spread 27 = .ok (.sipush 200, 3) := by decide +kernel
theorem dX9_spread_30 : decode cX9_spread 30 = .ok (.if_icmp .le 5, 3) := by decide +kernel
theorem dX9_spread_33 : decode cX9_spread 33 = .ok (.iconst (-1), 1) := by decide +kernel
theorem dX9_spread_34 : decode cX9_spread 34 = .ok (.ireturn, 1) := by decide +kernel
theorem dX9_spread_35 : decode cX9_spread 35 = .ok (.aload_n 0, 1) := by decide +kernel
theorem dX9_spread_36 : decode cX9_spread 36 = .ok (.getfield 27, 3) := by decide +kernel
theorem dX9_spread_39 : decode cX9_spread 39 = .ok (.aload_n 0, 1) := by decide +kernel
theorem dX9_spread_40 : decode cX9_spread 40 = .ok (.getfield 43, 3) := by decide +kernel
theorem dX9_spread_43 : decode cX9_spread 43 = .ok (.invokevirtual 151, 3) := by decide +kernel
theorem dX9_spread_46 : decode cX9_spread 46 = .ok (.iload_n 3, 1) := by decide +kernel
theorem dX9_spread_47 : decode cX9_spread 47 = .ok (.invokevirtual 177, 3) := by decide +kernel
theorem dX9_spread_50 : decode cX9_spread 50 = .ok (.lstore 4, 2) := by decide +kernel
theorem dX9_spread_52 : decode cX9_spread 52 = .ok (.aload_n 0, 1) := by decide +kernel
theorem dX9_spread_53 : decode cX9_spread 53 = .ok (.getfield 27, 3) := by decide +kernel
theorem dX9_spread_56 : decode cX9_spread 56 = .ok (.aload_n 0, 1) := by decide +kernel
theorem dX9_spread_57 : decode cX9_spread 57 = .ok (.getfield 43, 3) := by decide +kernel
theorem dX9_spread_60 : decode cX9_spread 60 = .ok (.invokevirtual 151, 3) := by decide +kernel
theorem dX9_spread_63 : decode cX9_spread 63 = .ok (.iload_n 1, 1) := by decide +kernel
theorem dX9_spread_64 : decode cX9_spread 64 = .ok (.iload_n 2, 1) := by decide +kernel
theorem dX9_spread_65 : decode cX9_spread 65 = .ok (.invokestatic 184, 3) := by decide +kernel
theorem dX9_spread_68 : decode cX9_spread 68 = .ok (.iload_n 3, 1) := by decide +kernel
theorem dX9_spread_69 : decode cX9_spread 69 = .ok (.invokevirtual 177, 3) := by decide +kernel
theorem dX9_spread_72 : decode cX9_spread 72 = .ok (.lstore 6, 2) := by decide +kernel
theorem dX9_spread_74 : decode cX9_spread 74 = .ok (.lload 4, 2) := by decide +kernel
theorem dX9_spread_76 : decode cX9_spread 76 = .ok (.lload 6, 2) := by decide +kernel
theorem dX9_spread_78 : decode cX9_spread 78 = .ok (.invokestatic 241, 3) := by decide +kernel
theorem dX9_spread_81 : decode cX9_spread 81 = .ok (.ireturn, 1) := by decide +kernel
theorem dX9_glint_0 : decode cX9_glint 0 = .ok (.aload_n 0, 1) := by decide +kernel
theorem dX9_glint_1 : decode cX9_glint 1 = .ok (.getfield 57, 3) := by decide +kernel
theorem dX9_glint_4 : decode cX9_glint 4 = .ok (.invokevirtual 137, 3) := by decide +kernel
theorem dX9_glint_7 : decode cX9_glint 7 = .ok (.aload_n 0, 1) := by decide +kernel
theorem dX9_glint_8 : decode cX9_glint 8 = .ok (.getfield 27, 3) := by decide +kernel
theorem dX9_glint_11 : decode cX9_glint 11 = .ok (.iload_n 1, 1) := by decide +kernel
theorem dX9_glint_12 : decode cX9_glint 12 = .ok (.invokevirtual 147, 3) := by decide +kernel
theorem dX9_glint_15 : decode cX9_glint 15 = .ok (.ifCond .eq 24, 3) := by decide +kernel
theorem dX9_glint_18 : decode cX9_glint 18 = .ok (.aload_n 0, 1) := by decide +kernel
theorem dX9_glint_19 : decode cX9_glint 19 = .ok (.getfield 27, 3) := by decide +kernel
theorem dX9_glint_22 : decode cX9_glint 22 = .ok (.iload_n 2, 1) := by decide +kernel
theorem dX9_glint_23 : decode cX9_glint 23 = .ok (.invokevirtual 162, 3) := by decide +kernel
theorem dX9_glint_26 : decode cX9_glint 26 = .ok (.ifCond .eq 13, 3) := by decide +kernel
theorem dX9_glint_29 : decode cX9_glint 29 = .ok (.iload_n 3, 1) := by decide +kernel
theorem dX9_glint_30 : decode cX9_glint 30 = .ok (.ifCond .lt 9, 3) := by decide +kernel
theorem dX9_glint_33 : decode cX9_glint 33 = .ok (.iload_n 3, 1) := by decide +kernel
theorem dX9_glint_34 : decode cX9_glint 34 = .ok (.bipush 8, 2) := by decide +kernel
theorem dX9_glint_36 : decode cX9_glint 36 = .ok (.if_icmp .le 6, 3) := by decide +kernel
theorem dX9_glint_39 : decode cX9_glint 39 = .ok (.bipush (-2), 2) := by decide +kernel
theorem dX9_glint_41 : decode cX9_glint 41 = .ok (.ireturn, 1) := by decide +kernel
theorem dX9_glint_42 : decode cX9_glint 42 = .ok (.aload_n 0, 1) := by decide +kernel
theorem dX9_glint_43 : decode cX9_glint 43 = .ok (.getfield 88, 3) := by decide +kernel
theorem dX9_glint_46 : decode cX9_glint 46 = .ok (.aload_n 0, 1) := by decide +kernel
theorem dX9_glint_47 : decode cX9_glint 47 = .ok (.getfield 27, 3) := by decide +kernel
theorem dX9_glint_50 : decode cX9_glint 50 = .ok (.aload_n 0, 1) := by decide +kernel
theorem dX9_glint_51 : decode cX9_glint 51 = .ok (.getfield 43, 3) := by decide +kernel
theorem dX9_glint_54 : decode cX9_glint 54 = .ok (.invokevirtual 151, 3) := by decide +kernel
theorem dX9_glint_57 : decode cX9_glint 57 = .ok (.iload_n 1, 1) := by decide +kernel
theorem dX9_glint_58 : decode cX9_glint 58 = .ok (.iload_n 2, 1) := by decide +kernel
theorem dX9_glint_59 : decode cX9_glint 59 = .ok (.iload_n 3, 1) := by decide +kernel
theorem dX9_glint_60 : decode cX9_glint 60 = .ok (.invokevirtual 245, 3) := by decide +kernel
theorem dX9_glint_63 : decode cX9_glint 63 = .ok (.aload_n 0, 1) := by decide +kernel
theorem dX9_glint_64 : decode cX9_glint 64 = .ok (.getfield 88, 3) := by decide +kernel
theorem dX9_glint_67 : decode cX9_glint 67 = .ok (.aload_n 0, 1) := by decide +kernel
theorem dX9_glint_68 : decode cX9_glint 68 = .ok (.getfield 57, 3) := by decide +kernel
theorem dX9_glint_71 : decode cX9_glint 71 = .ok (.invokevirtual 249, 3) := by decide +kernel
theorem dX9_glint_74 : decode cX9_glint 74 = .ok (.ireturn, 1) := by decide +kernel
theorem dX9_cracks_0 : decode cX9_cracks 0 = .ok (.aload_n 0, 1) := by decide +kernel
theorem dX9_cracks_1 : decode cX9_cracks 1 = .ok (.getfield 57, 3) := by decide +kernel
theorem dX9_cracks_4 : decode cX9_cracks 4 = .ok (.invokevirtual 137, 3) := by decide +kernel
theorem dX9_cracks_7 : decode cX9_cracks 7 = .ok (.aload_n 0, 1) := by decide +kernel
theorem dX9_cracks_8 : decode cX9_cracks 8 = .ok (.getfield 27, 3) := by decide +kernel
theorem dX9_cracks_11 : decode cX9_cracks 11 = .ok (.iload_n 1, 1) := by decide +kernel
theorem dX9_cracks_12 : decode cX9_cracks 12 = .ok (.invokevirtual 147, 3) := by decide +kernel
theorem dX9_cracks_15 : decode cX9_cracks 15 = .ok (.ifCond .eq 25, 3) := by decide +kernel
theorem dX9_cracks_18 : decode cX9_cracks 18 = .ok (.aload_n 0, 1) := by decide +kernel
theorem dX9_cracks_19 : decode cX9_cracks 19 = .ok (.getfield 27, 3) := by decide +kernel
theorem dX9_cracks_22 : decode cX9_cracks 22 = .ok (.iload_n 2, 1) := by decide +kernel
theorem dX9_cracks_23 : decode cX9_cracks 23 = .ok (.invokevirtual 162, 3) := by decide +kernel
theorem dX9_cracks_26 : decode cX9_cracks 26 = .ok (.ifCond .eq 14, 3) := by decide +kernel
theorem dX9_cracks_29 : decode cX9_cracks 29 = .ok (.iload_n 3, 1) := by decide +kernel
theorem dX9_cracks_30 : decode cX9_cracks 30 = .ok (.iconst 1, 1) := by decide +kernel
theorem dX9_cracks_31 : decode cX9_cracks 31 = .ok (.if_icmp .lt 9, 3) := by decide +kernel
theorem dX9_cracks_34 : decode cX9_cracks 34 = .ok (.iload_n 3, 1) := by decide +kernel
theorem dX9_cracks_35 : decode cX9_cracks 35 = .ok (.bipush 30, 2) := by decide +kernel
theorem dX9_cracks_37 : decode cX9_cracks 37 = .ok (.if_icmp .le 6, 3) := by decide +kernel
theorem dX9_cracks_40 : decode cX9_cracks 40 = .ok (.bipush (-2), 2) := by decide +kernel
theorem dX9_cracks_42 : decode cX9_cracks 42 = .ok (.ireturn, 1) := by decide +kernel
theorem dX9_cracks_43 : decode cX9_cracks 43 = .ok (.aload_n 0, 1) := by decide +kernel
theorem dX9_cracks_44 : decode cX9_cracks 44 = .ok (.getfield 88, 3) := by decide +kernel
theorem dX9_cracks_47 : decode cX9_cracks 47 = .ok (.aload_n 0, 1) := by decide +kernel
theorem dX9_cracks_48 : decode cX9_cracks 48 = .ok (.getfield 27, 3) := by decide +kernel
theorem dX9_cracks_51 : decode cX9_cracks 51 = .ok (.aload_n 0, 1) := by decide +kernel
theorem dX9_cracks_52 : decode cX9_cracks 52 = .ok (.getfield 43, 3) := by decide +kernel
theorem dX9_cracks_55 : decode cX9_cracks 55 = .ok (.invokevirtual 151, 3) := by decide +kernel
theorem dX9_cracks_58 : decode cX9_cracks 58 = .ok (.iload_n 1, 1) := by decide +kernel
theorem dX9_cracks_59 : decode cX9_cracks 59 = .ok (.iload_n 2, 1) := by decide +kernel
theorem dX9_cracks_60 : decode cX9_cracks 60 = .ok (.iload_n 3, 1) := by decide +kernel
theorem dX9_cracks_61 : decode cX9_cracks 61 = .ok (.invokevirtual 245, 3) := by decide +kernel
theorem dX9_cracks_64 : decode cX9_cracks 64 = .ok (.aload_n 0, 1) := by decide +kernel
theorem dX9_cracks_65 : decode cX9_cracks 65 = .ok (.getfield 88, 3) := by decide +kernel
theorem dX9_cracks_68 : decode cX9_cracks 68 = .ok (.aload_n 0, 1) := by decide +kernel
theorem dX9_cracks_69 : decode cX9_cracks 69 = .ok (.getfield 57, 3) := by decide +kernel
theorem dX9_cracks_72 : decode cX9_cracks 72 = .ok (.invokevirtual 253, 3) := by decide +kernel
theorem dX9_cracks_75 : decode cX9_cracks 75 = .ok (.ireturn, 1) := by decide +kernel
theorem dX9_sight_0 : decode cX9_sight 0 = .ok (.iload_n 1, 1) := by decide +kernel
theorem dX9_sight_1 : decode cX9_sight 1 = .ok (.ifCond .lt 31, 3) := by decide +kernel
theorem dX9_sight_4 : decode cX9_sight 4 = .ok (.iload_n 1, 1) := by decide +kernel
theorem dX9_sight_5 : decode cX9_sight 5 = .ok (.bipush 30, 2) := by decide +kernel
theorem dX9_sight_7 : decode cX9_sight 7 = .ok (.if_icmp .gt 25, 3) := by decide +kernel
theorem dX9_sight_10 : decode cX9_sight 10 = .ok (.aload_n 0, 1) := by decide +kernel
theorem dX9_sight_11 : decode cX9_sight 11 = .ok (.getfield 27, 3) := by decide +kernel
theorem dX9_sight_14 : decode cX9_sight 14 = .ok (.iload_n 2, 1) := by decide +kernel
theorem dX9_sight_15 : decode cX9_sight 15 = .ok (.invokevirtual 147, 3) := by decide +kernel
theorem dX9_sight_18 : decode cX9_sight 18 = .ok (.ifCond .eq 14, 3) := by decide +kernel
theorem dX9_sight_21 : decode cX9_sight 21 = .ok (.aload_n 0, 1) := by decide +kernel
theorem dX9_sight_22 : decode cX9_sight 22 = .ok (.getfield 27, 3) := by decide +kernel
theorem dX9_sight_25 : decode cX9_sight 25 = .ok (.iload_n 3, 1) := by decide +kernel
theorem dX9_sight_26 : decode cX9_sight 26 = .ok (.invokevirtual 162, 3) := by decide +kernel
theorem dX9_sight_29 : decode cX9_sight 29 = .ok (.ifCond .ne 5, 3) := by decide +kernel
theorem dX9_sight_32 : decode cX9_sight 32 = .ok (.iconst (-1), 1) := by decide +kernel
theorem dX9_sight_33 : decode cX9_sight 33 = .ok (.ireturn, 1) := by decide +kernel
theorem dX9_sight_34 : decode cX9_sight 34 = .ok (.aload_n 0, 1) := by decide +kernel
theorem dX9_sight_35 : decode cX9_sight 35 = .ok (.getfield 95, 3) := by decide +kernel
theorem dX9_sight_38 : decode cX9_sight 38 = .ok (.iload_n 1, 1) := by decide +kernel
theorem dX9_sight_39 : decode cX9_sight 39 = .ok (.iload_n 2, 1) := by decide +kernel
theorem dX9_sight_40 : decode cX9_sight 40 = .ok (.iload_n 3, 1) := by decide +kernel
theorem dX9_sight_41 : decode cX9_sight 41 = .ok (.aload_n 0, 1) := by decide +kernel
theorem dX9_sight_42 : decode cX9_sight 42 = .ok (.getfield 61, 3) := by decide +kernel
theorem dX9_sight_45 : decode cX9_sight 45 = .ok (.invokevirtual 259, 3) := by decide +kernel
theorem dX9_sight_48 : decode cX9_sight 48 = .ok (.ireturn, 1) := by decide +kernel
theorem dX9_sure_0 : decode cX9_sure 0 = .ok (.aload_n 0, 1) := by decide +kernel
theorem dX9_sure_1 : decode cX9_sure 1 = .ok (.getfield 27, 3) := by decide +kernel
theorem dX9_sure_4 : decode cX9_sure 4 = .ok (.iload_n 1, 1) := by decide +kernel
theorem dX9_sure_5 : decode cX9_sure 5 = .ok (.invokevirtual 147, 3) := by decide +kernel
theorem dX9_sure_8 : decode cX9_sure 8 = .ok (.ifCond .eq 29, 3) := by decide +kernel
theorem dX9_sure_11 : decode cX9_sure 11 = .ok (.aload_n 0, 1) := by decide +kernel
theorem dX9_sure_12 : decode cX9_sure 12 = .ok (.getfield 95, 3) := by decide +kernel
theorem dX9_sure_15 : decode cX9_sure 15 = .ok (.iload_n 1, 1) := by decide +kernel
theorem dX9_sure_16 : decode cX9_sure 16 = .ok (.invokevirtual 279, 3) := by decide +kernel
theorem dX9_sure_19 : decode cX9_sure 19 = .ok (.ifCond .eq 18, 3) := by decide +kernel
theorem dX9_sure_22 : decode cX9_sure 22 = .ok (.aload_n 0, 1) := by decide +kernel
theorem dX9_sure_23 : decode cX9_sure 23 = .ok (.getfield 95, 3) := by decide +kernel
theorem dX9_sure_26 : decode cX9_sure 26 = .ok (.aload_n 0, 1) := by decide +kernel
theorem dX9_sure_27 : decode cX9_sure 27 = .ok (.getfield 27, 3) := by decide +kernel
theorem dX9_sure_30 : decode cX9_sure 30 = .ok (.iload_n 2, 1) := by decide +kernel
theorem dX9_sure_31 : decode cX9_sure 31 = .ok (.invokevirtual 275, 3) := by decide +kernel
theorem dX9_sure_34 : decode cX9_sure 34 = .ok (.ifCond .ne 5, 3) := by decide +kernel
theorem dX9_sure_37 : decode cX9_sure 37 = .ok (.iconst (-1), 1) := by decide +kernel
theorem dX9_sure_38 : decode cX9_sure 38 = .ok (.ireturn, 1) := by decide +kernel
theorem dX9_sure_39 : decode cX9_sure 39 = .ok (.aload_n 0, 1) := by decide +kernel
theorem dX9_sure_40 : decode cX9_sure 40 = .ok (.getfield 95, 3) := by decide +kernel
theorem dX9_sure_43 : decode cX9_sure 43 = .ok (.iload_n 1, 1) := by decide +kernel
theorem dX9_sure_44 : decode cX9_sure 44 = .ok (.invokevirtual 282, 3) := by decide +kernel
theorem dX9_sure_47 : decode cX9_sure 47 = .ok (.istore_n 3, 1) := by decide +kernel
theorem dX9_sure_48 : decode cX9_sure 48 = .ok (.iconst 0, 1) := by decide +kernel
theorem dX9_sure_49 : decode cX9_sure 49 = .ok (.istore 4, 2) := by decide +kernel
theorem dX9_sure_51 : decode cX9_sure 51 = .ok (.iload 4, 2) := by decide +kernel
theorem dX9_sure_53 : decode cX9_sure 53 = .ok (.aload_n 0, 1) := by decide +kernel
theorem dX9_sure_54 : decode cX9_sure 54 = .ok (.getfield 27, 3) := by decide +kernel
theorem dX9_sure_57 : decode cX9_sure 57 = .ok (.getfield 285, 3) := by decide +kernel
theorem dX9_sure_60 : decode cX9_sure 60 = .ok (.if_icmp .ge 20, 3) := by decide +kernel
theorem dX9_sure_63 : decode cX9_sure 63 = .ok (.iload_n 3, 1) := by decide +kernel
theorem dX9_sure_64 : decode cX9_sure 64 = .ok (.iconst 1, 1) := by decide +kernel
theorem dX9_sure_65 : decode cX9_sure 65 = .ok (.iload 4, 2) := by decide +kernel
theorem dX9_sure_67 : decode cX9_sure 67 = .ok (.ishl, 1) := by decide +kernel
theorem dX9_sure_68 : decode cX9_sure 68 = .ok (.if_icmp .ne 6, 3) := by decide +kernel
theorem dX9_sure_71 : decode cX9_sure 71 = .ok (.iload 4, 2) := by decide +kernel
theorem dX9_sure_73 : decode cX9_sure 73 = .ok (.ireturn, 1) := by decide +kernel
theorem dX9_sure_74 : decode cX9_sure 74 = .ok (.iinc 4 1, 3) := by decide +kernel
theorem dX9_sure_77 : decode cX9_sure 77 = .ok (.goto (-26), 3) := by decide +kernel
theorem dX9_sure_80 : decode cX9_sure 80 = .ok (.bipush (-2), 2) := by decide +kernel
theorem dX9_sure_82 : decode cX9_sure 82 = .ok (.ireturn, 1) := by decide +kernel
theorem dX6_number_0 : decode cX6_number 0 = .ok (.iload_n 1, 1) := by decide +kernel
theorem dX6_number_1 : decode cX6_number 1 = .ok (.ifCond .lt 20, 3) := by decide +kernel
theorem dX6_number_4 : decode cX6_number 4 = .ok (.iload_n 1, 1) := by decide +kernel
theorem dX6_number_5 : decode cX6_number 5 = .ok (.aload_n 0, 1) := by decide +kernel
theorem dX6_number_6 : decode cX6_number 6 = .ok (.getfield 15, 3) := by decide +kernel
theorem dX6_number_9 : decode cX6_number 9 = .ok (.if_icmp .ge 12, 3) := by decide +kernel
theorem dX6_number_12 : decode cX6_number 12 = .ok (.aload_n 0, 1) := by decide +kernel
theorem dX6_number_13 : decode cX6_number 13 = .ok (.getfield 9, 3) := by decide +kernel
theorem dX6_number_16 : decode cX6_number 16 = .ok (.iload_n 1, 1) := by decide +kernel
theorem dX6_number_17 : decode cX6_number 17 = .ok (.iaload, 1) := by decide +kernel
theorem dX6_number_18 : decode cX6_number 18 = .ok (.goto 4, 3) := by decide +kernel
theorem dX6_number_21 : decode cX6_number 21 = .ok (.iconst (-1), 1) := by decide +kernel
theorem dX6_number_22 : decode cX6_number 22 = .ok (.ireturn, 1) := by decide +kernel
theorem dX9_lies_0 : decode cX9_lies 0 = .ok (.aload_n 0, 1) := by decide +kernel
theorem dX9_lies_1 : decode cX9_lies 1 = .ok (.getfield 57, 3) := by decide +kernel
theorem dX9_lies_4 : decode cX9_lies 4 = .ok (.iload_n 1, 1) := by decide +kernel
theorem dX9_lies_5 : decode cX9_lies 5 = .ok (.invokevirtual 256, 3) := by decide +kernel
theorem dX9_lies_8 : decode cX9_lies 8 = .ok (.ireturn, 1) := by decide +kernel
theorem dX3_takeBack_0 : decode cX3_takeBack 0 = .ok (.aload_n 0, 1) := by decide +kernel
theorem dX3_takeBack_1 : decode cX3_takeBack 1 = .ok (.getfield 19, 3) := by decide +kernel
theorem dX3_takeBack_4 : decode cX3_takeBack 4 = .ok (.ifCond .ne 5, 3) := by decide +kernel
theorem dX3_takeBack_7 : decode cX3_takeBack 7 = .ok (.iconst 0, 1) := by decide +kernel
theorem dX3_takeBack_8 : decode cX3_takeBack 8 = .ok (.ireturn, 1) := by decide +kernel
theorem dX3_takeBack_9 : decode cX3_takeBack 9 = .ok (.aload_n 0, 1) := by decide +kernel
theorem dX3_takeBack_10 : decode cX3_takeBack 10 = .ok (.dup, 1) := by decide +kernel
theorem dX3_takeBack_11 : decode cX3_takeBack 11 = .ok (.getfield 19, 3) := by decide +kernel
theorem dX3_takeBack_14 : decode cX3_takeBack 14 = .ok (.iconst 1, 1) := by decide +kernel
theorem dX3_takeBack_15 : decode cX3_takeBack 15 = .ok (.isub, 1) := by decide +kernel
theorem dX3_takeBack_16 : decode cX3_takeBack 16 = .ok (.putfield 19, 3) := by decide +kernel
theorem dX3_takeBack_19 : decode cX3_takeBack 19 = .ok (.iconst 1, 1) := by decide +kernel
theorem dX3_takeBack_20 : decode cX3_takeBack 20 = .ok (.ireturn, 1) := by decide +kernel
theorem dX3_doAgain_0 : decode cX3_doAgain 0 = .ok (.aload_n 0, 1) := by decide +kernel
theorem dX3_doAgain_1 : decode cX3_doAgain 1 = .ok (.getfield 19, 3) := by decide +kernel
theorem dX3_doAgain_4 : decode cX3_doAgain 4 = .ok (.aload_n 0, 1) := by decide +kernel
theorem dX3_doAgain_5 : decode cX3_doAgain 5 = .ok (.getfield 23, 3) := by decide +kernel
theorem dX3_doAgain_8 : decode cX3_doAgain 8 = .ok (.if_icmp .ne 5, 3) := by decide +kernel
theorem dX3_doAgain_11 : decode cX3_doAgain 11 = .ok (.iconst 0, 1) := by decide +kernel
theorem dX3_doAgain_12 : decode cX3_doAgain 12 = .ok (.ireturn, 1) := by decide +kernel
theorem dX3_doAgain_13 : decode cX3_doAgain 13 = .ok (.aload_n 0, 1) := by decide +kernel
theorem dX3_doAgain_14 : decode cX3_doAgain 14 = .ok (.dup, 1) := by decide +kernel
theorem dX3_doAgain_15 : decode cX3_doAgain 15 = .ok (.getfield 19, 3) := by decide +kernel
theorem dX3_doAgain_18 : decode cX3_doAgain 18 = .ok (.iconst 1, 1) := by decide +kernel
theorem dX3_doAgain_19 : decode cX3_doAgain 19 = .ok (.iadd, 1) := by decide +kernel
theorem dX3_doAgain_20 : decode cX3_doAgain 20 = .ok (.putfield 19, 3) := by decide +kernel
theorem dX3_doAgain_23 : decode cX3_doAgain 23 = .ok (.iconst 1, 1) := by decide +kernel
theorem dX3_doAgain_24 : decode cX3_doAgain 24 = .ok (.ireturn, 1) := by decide +kernel
theorem dX9_undo_0 : decode cX9_undo 0 = .ok (.aload_n 0, 1) := by decide +kernel
theorem dX9_undo_1 : decode cX9_undo 1 = .ok (.getfield 43, 3) := by decide +kernel
theorem dX9_undo_4 : decode cX9_undo 4 = .ok (.invokevirtual 188, 3) := by decide +kernel
theorem dX9_undo_7 : decode cX9_undo 7 = .ok (.ireturn, 1) := by decide +kernel
theorem dX9_redo_0 : decode cX9_redo 0 = .ok (.aload_n 0, 1) := by decide +kernel
theorem dX9_redo_1 : decode cX9_redo 1 = .ok (.getfield 43, 3) := by decide +kernel
theorem dX9_redo_4 : decode cX9_redo 4 = .ok (.invokevirtual 191, 3) := by decide +kernel
theorem dX9_redo_7 : decode cX9_redo 7 = .ok (.ireturn, 1) := by decide +kernel
theorem dX3_row_0 : decode cX3_row 0 = .ok (.aload_n 0, 1) := by decide +kernel
theorem dX3_row_1 : decode cX3_row 1 = .ok (.getfield 9, 3) := by decide +kernel
theorem dX3_row_4 : decode cX3_row 4 = .ok (.aload_n 0, 1) := by decide +kernel
theorem dX3_row_5 : decode cX3_row 5 = .ok (.getfield 19, 3) := by decide +kernel
theorem dX3_row_8 : decode cX3_row 8 = .ok (.laload, 1) := by decide +kernel
theorem dX3_row_9 : decode cX3_row 9 = .ok (.lreturn, 1) := by decide +kernel
theorem dX3_beats_0 : decode cX3_beats 0 = .ok (.aload_n 0, 1) := by decide +kernel
theorem dX3_beats_1 : decode cX3_beats 1 = .ok (.getfield 15, 3) := by decide +kernel
theorem dX3_beats_4 : decode cX3_beats 4 = .ok (.aload_n 0, 1) := by decide +kernel
theorem dX3_beats_5 : decode cX3_beats 5 = .ok (.getfield 19, 3) := by decide +kernel
theorem dX3_beats_8 : decode cX3_beats 8 = .ok (.iaload, 1) := by decide +kernel
theorem dX3_beats_9 : decode cX3_beats 9 = .ok (.ireturn, 1) := by decide +kernel
theorem dX2_worthOf_0 : decode cX2_worthOf 0 = .ok (.iconst 0, 1) := by decide +kernel
theorem dX2_worthOf_1 : decode cX2_worthOf 1 = .ok (.istore_n 3, 1) := by decide +kernel
theorem dX2_worthOf_2 : decode cX2_worthOf 2 = .ok (.iconst 0, 1) := by decide +kernel
theorem dX2_worthOf_3 : decode cX2_worthOf 3 = .ok (.istore 4, 2) := by decide +kernel
theorem dX2_worthOf_5 : decode cX2_worthOf 5 = .ok (.iload 4, 2) := by decide +kernel
theorem dX2_worthOf_7 : decode cX2_worthOf 7 = .ok (.aload_n 0, 1) := by decide +kernel
theorem dX2_worthOf_8 : decode cX2_worthOf 8 = .ok (.getfield 15, 3) := by decide +kernel
theorem dX2_worthOf_11 : decode cX2_worthOf 11 = .ok (.if_icmp .ge 23, 3) := by decide +kernel
theorem dX2_worthOf_14 : decode cX2_worthOf 14 = .ok (.iload_n 3, 1) := by decide +kernel
theorem dX2_worthOf_15 : decode cX2_worthOf 15 = .ok (.aload_n 0, 1) := by decide +kernel
theorem dX2_worthOf_16 : decode cX2_worthOf 16 = .ok (.getfield 48, 3) := by decide +kernel
theorem dX2_worthOf_19 : decode cX2_worthOf 19 = .ok (.lload_n 1, 1) := by decide +kernel
theorem dX2_worthOf_20 : decode cX2_worthOf 20 = .ok (.iload 4, 2) := by decide +kernel
theorem dX2_worthOf_22 : decode cX2_worthOf 22 = .ok (.invokestatic 97, 3) := by decide +kernel
theorem dX2_worthOf_25 : decode cX2_worthOf 25 = .ok (.iaload, 1) := by decide +kernel
theorem dX2_worthOf_26 : decode cX2_worthOf 26 = .ok (.iadd, 1) := by decide +kernel
theorem dX2_worthOf_27 : decode cX2_worthOf 27 = .ok (.istore_n 3, 1) := by decide +kernel
theorem dX2_worthOf_28 : decode cX2_worthOf 28 = .ok (.iinc 4 1, 3) := by decide +kernel
theorem dX2_worthOf_31 : decode cX2_worthOf 31 = .ok (.goto (-26), 3) := by decide +kernel
theorem dX2_worthOf_34 : decode cX2_worthOf 34 = .ok (.iload_n 3, 1) := by decide +kernel
theorem dX2_worthOf_35 : decode cX2_worthOf 35 = .ok (.ireturn, 1) := by decide +kernel
theorem dX9_worth_0 : decode cX9_worth 0 = .ok (.aload_n 0, 1) := by decide +kernel
theorem dX9_worth_1 : decode cX9_worth 1 = .ok (.getfield 27, 3) := by decide +kernel
theorem dX9_worth_4 : decode cX9_worth 4 = .ok (.aload_n 0, 1) := by decide +kernel
theorem dX9_worth_5 : decode cX9_worth 5 = .ok (.getfield 43, 3) := by decide +kernel
theorem dX9_worth_8 : decode cX9_worth 8 = .ok (.invokevirtual 151, 3) := by decide +kernel
theorem dX9_worth_11 : decode cX9_worth 11 = .ok (.invokevirtual 194, 3) := by decide +kernel
theorem dX9_worth_14 : decode cX9_worth 14 = .ok (.ireturn, 1) := by decide +kernel
theorem dX8_takeAway_0 : decode cX8_takeAway 0 = .ok (.iload_n 1, 1) := by decide +kernel
theorem dX8_takeAway_1 : decode cX8_takeAway 1 = .ok (.ifCond .lt 21, 3) := by decide +kernel
theorem dX8_takeAway_4 : decode cX8_takeAway 4 = .ok (.iload_n 1, 1) := by decide +kernel
theorem dX8_takeAway_5 : decode cX8_takeAway 5 = .ok (.aload_n 0, 1) := by decide +kernel
theorem dX8_takeAway_6 : decode cX8_takeAway 6 = .ok (.getfield 27, 3) := by decide +kernel
theorem dX8_takeAway_9 : decode cX8_takeAway 9 = .ok (.if_icmp .ge 13, 3) := by decide +kernel
theorem dX8_takeAway_12 : decode cX8_takeAway 12 = .ok (.aload_n 0, 1) := by decide +kernel
theorem dX8_takeAway_13 : decode cX8_takeAway 13 = .ok (.getfield 24, 3) := by decide +kernel
theorem dX8_takeAway_16 : decode cX8_takeAway 16 = .ok (.iload_n 1, 1) := by decide +kernel
theorem dX8_takeAway_17 : decode cX8_takeAway 17 = .ok (.iaload, 1) := by decide +kernel
theorem dX8_takeAway_18 : decode cX8_takeAway 18 = .ok (.iconst (-1), 1) := by decide +kernel
theorem dX8_takeAway_19 : decode cX8_takeAway 19 = .ok (.if_icmp .eq 5, 3) := by decide +kernel
theorem dX8_takeAway_22 : decode cX8_takeAway 22 = .ok (.iconst 0, 1) := by decide +kernel
theorem dX8_takeAway_23 : decode cX8_takeAway 23 = .ok (.ireturn, 1) := by decide +kernel
theorem dX8_takeAway_24 : decode cX8_takeAway 24 = .ok (.aload_n 0, 1) := by decide +kernel
theorem dX8_takeAway_25 : decode cX8_takeAway 25 = .ok (.getfield 24, 3) := by decide +kernel
theorem dX8_takeAway_28 : decode cX8_takeAway 28 = .ok (.iload_n 1, 1) := by decide +kernel
theorem dX8_takeAway_29 : decode cX8_takeAway 29 = .ok (.iload_n 2, 1) := by decide +kernel
theorem dX8_takeAway_30 : decode cX8_takeAway 30 = .ok (.iastore, 1) := by decide +kernel
theorem dX8_takeAway_31 : decode cX8_takeAway 31 = .ok (.iconst 1, 1) := by decide +kernel
theorem dX8_takeAway_32 : decode cX8_takeAway 32 = .ok (.ireturn, 1) := by decide +kernel
theorem dX9_untell_0 : decode cX9_untell 0 = .ok (.aload_n 0, 1) := by decide +kernel
theorem dX9_untell_1 : decode cX9_untell 1 = .ok (.getfield 95, 3) := by decide +kernel
theorem dX9_untell_4 : decode cX9_untell 4 = .ok (.iload_n 1, 1) := by decide +kernel
theorem dX9_untell_5 : decode cX9_untell 5 = .ok (.aload_n 0, 1) := by decide +kernel
theorem dX9_untell_6 : decode cX9_untell 6 = .ok (.getfield 61, 3) := by decide +kernel
theorem dX9_untell_9 : decode cX9_untell 9 = .ok (.invokevirtual 263, 3) := by decide +kernel
theorem dX9_untell_12 : decode cX9_untell 12 = .ok (.ireturn, 1) := by decide +kernel
theorem dX9_later_0 : decode cX9_later 0 = .ok (.iload_n 1, 1) := by decide +kernel
theorem dX9_later_1 : decode cX9_later 1 = .ok (.ifCond .lt 21, 3) := by decide +kernel
theorem dX9_later_4 : decode cX9_later 4 = .ok (.iload_n 1, 1) := by decide +kernel
theorem dX9_later_5 : decode cX9_later 5 = .ok (.sipush 1000, 3) := by decide +kernel
theorem dX9_later_8 : decode cX9_later 8 = .ok (.if_icmp .gt 14, 3) := by decide +kernel
theorem dX9_later_11 : decode cX9_later 11 = .ok (.aload_n 0, 1) := by decide +kernel
theorem dX9_later_12 : decode cX9_later 12 = .ok (.getfield 61, 3) := by decide +kernel
theorem dX9_later_15 : decode cX9_later 15 = .ok (.iload_n 1, 1) := by decide +kernel
theorem dX9_later_16 : decode cX9_later 16 = .ok (.iadd, 1) := by decide +kernel
theorem dX9_later_17 : decode cX9_later 17 = .ok (.ldc 176, 2) := by decide +kernel
theorem dX9_later_19 : decode cX9_later 19 = .ok (.if_icmp .le 5, 3) := by decide +kernel
theorem dX9_later_22 : decode cX9_later 22 = .ok (.iconst (-1), 1) := by decide +kernel
theorem dX9_later_23 : decode cX9_later 23 = .ok (.ireturn, 1) := by decide +kernel
theorem dX9_later_24 : decode cX9_later 24 = .ok (.aload_n 0, 1) := by decide +kernel
theorem dX9_later_25 : decode cX9_later 25 = .ok (.dup, 1) := by decide +kernel
theorem dX9_later_26 : decode cX9_later 26 = .ok (.getfield 61, 3) := by decide +kernel
theorem dX9_later_29 : decode cX9_later 29 = .ok (.iload_n 1, 1) := by decide +kernel
theorem dX9_later_30 : decode cX9_later 30 = .ok (.iadd, 1) := by decide +kernel
theorem dX9_later_31 : decode cX9_later 31 = .ok (.putfield 61, 3) := by decide +kernel
theorem dX9_later_34 : decode cX9_later 34 = .ok (.aload_n 0, 1) := by decide +kernel
theorem dX9_later_35 : decode cX9_later 35 = .ok (.getfield 61, 3) := by decide +kernel
theorem dX9_later_38 : decode cX9_later 38 = .ok (.ireturn, 1) := by decide +kernel
theorem dX9_end_0 : decode cX9_end 0 = .ok (.iload_n 1, 1) := by decide +kernel
theorem dX9_end_1 : decode cX9_end 1 = .ok (.ifCond .lt 11, 3) := by decide +kernel
theorem dX9_end_4 : decode cX9_end 4 = .ok (.iload_n 1, 1) := by decide +kernel
theorem dX9_end_5 : decode cX9_end 5 = .ok (.aload_n 0, 1) := by decide +kernel
theorem dX9_end_6 : decode cX9_end 6 = .ok (.getfield 13, 3) := by decide +kernel
theorem dX9_end_9 : decode cX9_end 9 = .ok (.if_icmp .le 5, 3) := by decide +kernel
theorem dX9_end_12 : decode cX9_end 12 = .ok (.iconst (-1), 1) := by decide +kernel
theorem dX9_end_13 : decode cX9_end 13 = .ok (.ireturn, 1) := by decide +kernel
theorem dX9_end_14 : decode cX9_end 14 = .ok (.aload_n 0, 1) := by decide +kernel
theorem dX9_end_15 : decode cX9_end 15 = .ok (.iload_n 1, 1) := by decide +kernel
theorem dX9_end_16 : decode cX9_end 16 = .ok (.putfield 13, 3) := by decide +kernel
theorem dX9_end_19 : decode cX9_end 19 = .ok (.iload_n 1, 1) := by decide +kernel
theorem dX9_end_20 : decode cX9_end 20 = .ok (.ireturn, 1) := by decide +kernel
theorem dX9_fault_0 : decode cX9_fault 0 = .ok (.iload_n 1, 1) := by decide +kernel
theorem dX9_fault_1 : decode cX9_fault 1 = .ok (.ifCond .ne 8, 3) := by decide +kernel
theorem dX9_fault_4 : decode cX9_fault 4 = .ok (.aload_n 0, 1) := by decide +kernel
theorem dX9_fault_5 : decode cX9_fault 5 = .ok (.getfield 34, 3) := by decide +kernel
theorem dX9_fault_8 : decode cX9_fault 8 = .ok (.ireturn, 1) := by decide +kernel
theorem dX9_fault_9 : decode cX9_fault 9 = .ok (.iload_n 1, 1) := by decide +kernel
theorem dX9_fault_10 : decode cX9_fault 10 = .ok (.iconst 1, 1) := by decide +kernel
theorem dX9_fault_11 : decode cX9_fault 11 = .ok (.if_icmp .ne 10, 3) := by decide +kernel
theorem dX9_fault_14 : decode cX9_fault 14 = .ok (.aload_n 0, 1) := by decide +kernel
theorem dX9_fault_15 : decode cX9_fault 15 = .ok (.getfield 37, 3) := by decide +kernel
theorem dX9_fault_18 : decode cX9_fault 18 = .ok (.goto 4, 3) := by decide +kernel
theorem dX9_fault_21 : decode cX9_fault 21 = .ok (.iconst (-1), 1) := by decide +kernel
theorem dX9_fault_22 : decode cX9_fault 22 = .ok (.ireturn, 1) := by decide +kernel
set_option maxHeartbeats 4000000 in
set_option maxRecDepth 100000 in
theorem k_X2_isMan (l : Launch) (D : va_G) (cyB cyI cyJ cyZ : ClassId) (sz : Nat) (dd : Nat) (p0 : Int32) (ds_ : List Value) (hl_ds_ : ds_.length = 15) (h_ds__1 : ds_[1]? = some (.int 0)) : KI l yX2_isMan cX2_isMan 2 .boolean 0 0 0 D (TYS cyB cyI cyJ cyZ) [(dd, .inr (2, ds_))] sz [.ref dd, .int p0] (fun (r : Int32) (u : Unit) => r = 0) (fun (u : Unit) => ([(dd, .inr (2, ds_))] : va_W)) := by
  refine entI (by decide) (Nat.le_of_ble_eq_true rfl) ?_
  intro p e s m below meth c ls A hC hl hP hK hD hA
  obtain ⟨hx, hb, hr, hml, hown, hts, hlk, hnm⟩ := id hC
  have hS : va_S A s.heap s.heap [] := va_S.rf
  have hl : lv_has ls 2 [(0, .ref dd), (1, .int p0)] := hl
  generalize hHe : s.heap = H at hP ⊢
  rw [hHe] at hS
  have hS : va_S A s.heap H [] := by rw [hHe]; exact hS
  refine lv_iload_n hx hb dX2_isMan_0 rfl (lv_at hl 1 rfl) ?_
  refine lv_if_lt (tgt := 16) hx hb dX2_isMan_1 (by decide) (fun c_1 => ?_) (fun c_1 => ?_)
  · refine lv_iconst (v := 0) hx hb dX2_isMan_16 (by decide) ?_
    exact retZ hC hP hD hS (by decide) (by decide) () [0] rfl rfl rfl rfl dX2_isMan_17
  · refine lv_iload_n hx hb dX2_isMan_4 rfl (lv_at hl 1 rfl) ?_
    refine lv_aload_n hx hb dX2_isMan_5 rfl (lv_at hl 0 rfl) ?_
    refine gf hC hK hP iX2 0 rfl rfl 1 (by decide) mw_fieldLink_RX2_15_MirrorDrill_Drill_men_I h_ds__1 dX2_isMan_6 ?_
    refine lv_icmp_ge (tgt := 16) hx hb dX2_isMan_9 (by decide) (fun c_2 => ?_) (fun c_2 => absurd (Int32.not_lt.mp c_1) c_2)
    refine lv_iconst (v := 0) hx hb dX2_isMan_16 (by decide) ?_
    exact retZ hC hP hD hS (by decide) (by decide) () [0] rfl rfl rfl rfl dX2_isMan_17
set_option maxHeartbeats 4000000 in
set_option maxRecDepth 100000 in
theorem k_X2_isRule (l : Launch) (D : va_G) (cyB cyI cyJ cyZ : ClassId) (sz : Nat) (dd : Nat) (p0 : Int32) (ds_ : List Value) (hl_ds_ : ds_.length = 15) (h_ds__2 : ds_[2]? = some (.int 0)) : KI l yX2_isRule cX2_isRule 2 .boolean 0 0 0 D (TYS cyB cyI cyJ cyZ) [(dd, .inr (2, ds_))] sz [.ref dd, .int p0] (fun (r : Int32) (u : Unit) => r = 0) (fun (u : Unit) => ([(dd, .inr (2, ds_))] : va_W)) := by
  refine entI (by decide) (Nat.le_of_ble_eq_true rfl) ?_
  intro p e s m below meth c ls A hC hl hP hK hD hA
  obtain ⟨hx, hb, hr, hml, hown, hts, hlk, hnm⟩ := id hC
  have hS : va_S A s.heap s.heap [] := va_S.rf
  have hl : lv_has ls 2 [(0, .ref dd), (1, .int p0)] := hl
  generalize hHe : s.heap = H at hP ⊢
  rw [hHe] at hS
  have hS : va_S A s.heap H [] := by rw [hHe]; exact hS
  refine lv_iload_n hx hb dX2_isRule_0 rfl (lv_at hl 1 rfl) ?_
  refine lv_if_lt (tgt := 16) hx hb dX2_isRule_1 (by decide) (fun c_1 => ?_) (fun c_1 => ?_)
  · refine lv_iconst (v := 0) hx hb dX2_isRule_16 (by decide) ?_
    exact retZ hC hP hD hS (by decide) (by decide) () [0] rfl rfl rfl rfl dX2_isRule_17
  · refine lv_iload_n hx hb dX2_isRule_4 rfl (lv_at hl 1 rfl) ?_
    refine lv_aload_n hx hb dX2_isRule_5 rfl (lv_at hl 0 rfl) ?_
    refine gf hC hK hP iX2 0 rfl rfl 2 (by decide) mw_fieldLink_RX2_18_MirrorDrill_Drill_rules_I h_ds__2 dX2_isRule_6 ?_
    refine lv_icmp_ge (tgt := 16) hx hb dX2_isRule_9 (by decide) (fun c_2 => ?_) (fun c_2 => absurd (Int32.not_lt.mp c_1) c_2)
    refine lv_iconst (v := 0) hx hb dX2_isRule_16 (by decide) ?_
    exact retZ hC hP hD hS (by decide) (by decide) () [0] rfl rfl rfl rfl dX2_isRule_17
set_option maxHeartbeats 4000000 in
set_option maxRecDepth 100000 in
theorem k_X9_does (l : Launch) (D : va_G) (cyB cyI cyJ cyZ : ClassId) (sz : Nat) (h0 : Nat) (p0 : Int32) (fs : List Value) (dd : Nat) (ds_ : List Value) (hl_fs : fs.length = 17) (h_fs_3 : fs[3]? = some (.ref dd)) (hl_ds_ : ds_.length = 15) (h_ds__1 : ds_[1]? = some (.int 0)) : KI l yX9_does cX9_does 2 .int 1 0 0 D (TYS cyB cyI cyJ cyZ) [(h0, .inr (9, fs)), (dd, .inr (2, ds_))] sz [.ref h0, .int p0] (fun (r : Int32) (u : Unit) => r = (-1)) (fun (u : Unit) => ([] : va_W)) := by
  refine entI (by decide) (Nat.le_of_ble_eq_true rfl) ?_
  intro p e s m below meth c ls A hC hl hP hK hD hA
  obtain ⟨hx, hb, hr, hml, hown, hts, hlk, hnm⟩ := id hC
  have hS : va_S A s.heap s.heap [] := va_S.rf
  have hl : lv_has ls 2 [(0, .ref h0), (1, .int p0)] := hl
  generalize hHe : s.heap = H at hP ⊢
  rw [hHe] at hS
  have hS : va_S A s.heap H [] := by rw [hHe]; exact hS
  refine lv_aload_n hx hb dX9_does_0 rfl (lv_at hl 0 rfl) ?_
  refine gf hC hK hP iX9 0 rfl rfl 3 (by decide) mw_fieldLink_RX9_27_MirrorDrill_drill_LMirrorDrill_Drill h_fs_3 dX9_does_1 ?_
  refine lv_iload_n hx hb dX9_does_4 rfl (lv_at hl 1 rfl) ?_
  refine aftI (wr := [(h0, .inr (9, fs))]) (runV hC hK hP hD hl.1 (k_X2_isMan l D cyB cyI cyJ cyZ H.size dd p0 ds_ hl_ds_ h_ds__1) cV_X2_isMan mw_methodLink_RX9_147_yX2_isMan [1] rfl rfl 1 rfl rfl rfl rfl rfl (Nat.le_of_ble_eq_true rfl) ⟨by decide, by decide⟩ ⟨by decide, by decide⟩ dX9_does_5) hP hD hS hA [1] [0] rfl rfl rfl (by decide) (fun r_1 u_1 H locs hw_1 hP hD hS => ?_)
  have hr_1 := hw_1
  refine lv_cst (v := 0) hr_1 ?_
  have hP : va_P D classes [(h0, .inr (9, fs)), (dd, .inr (2, ds_))] H := hP
  have hD : va_D A [(h0, .inr (9, fs)), (dd, .inr (2, ds_))] := hD
  refine W.widen (k := 0) (n := 0) (by decide) (by decide) ?_
  refine lv_if_eq (tgt := 25) hx hb dX9_does_8 (by decide) (fun c_2 => ?_) (fun c_2 => absurd (by decide) c_2)
  refine lv_iconst (v := (-1)) hx hb dX9_does_25 (by decide) ?_
  exact retI hC hP hD hS (by decide) (by decide) () [] rfl rfl rfl dX9_does_26
set_option maxHeartbeats 4000000 in
set_option maxRecDepth 100000 in
theorem k_X9_made (l : Launch) (D : va_G) (cyB cyI cyJ cyZ : ClassId) (sz : Nat) (h0 : Nat) (p0 : Int32) (p1 : Int32) (p2 : Int32) (p3 : Int32) (fs : List Value) (dd : Nat) (ds_ : List Value) (hl_fs : fs.length = 17) (h_fs_3 : fs[3]? = some (.ref dd)) (hl_ds_ : ds_.length = 15) (h_ds__2 : ds_[2]? = some (.int 0)) : KI l yX9_made cX9_made 5 .int 1 0 0 D (TYS cyB cyI cyJ cyZ) [(h0, .inr (9, fs)), (dd, .inr (2, ds_))] sz [.ref h0, .int p0, .int p1, .int p2, .int p3] (fun (r : Int32) (u : Unit) => r = (-1)) (fun (u : Unit) => ([] : va_W)) := by
  refine entI (by decide) (Nat.le_of_ble_eq_true rfl) ?_
  intro p e s m below meth c ls A hC hl hP hK hD hA
  obtain ⟨hx, hb, hr, hml, hown, hts, hlk, hnm⟩ := id hC
  have hS : va_S A s.heap s.heap [] := va_S.rf
  have hl : lv_has ls 5 [(0, .ref h0), (1, .int p0), (2, .int p1), (3, .int p2), (4, .int p3)] := hl
  generalize hHe : s.heap = H at hP ⊢
  rw [hHe] at hS
  have hS : va_S A s.heap H [] := by rw [hHe]; exact hS
  refine lv_aload_n hx hb dX9_made_0 rfl (lv_at hl 0 rfl) ?_
  refine gf hC hK hP iX9 0 rfl rfl 3 (by decide) mw_fieldLink_RX9_27_MirrorDrill_drill_LMirrorDrill_Drill h_fs_3 dX9_made_1 ?_
  refine lv_iload_n hx hb dX9_made_4 rfl (lv_at hl 1 rfl) ?_
  refine aftI (wr := [(h0, .inr (9, fs))]) (runV hC hK hP hD hl.1 (k_X2_isRule l D cyB cyI cyJ cyZ H.size dd p0 ds_ hl_ds_ h_ds__2) cV_X2_isRule mw_methodLink_RX9_159_yX2_isRule [1] rfl rfl 1 rfl rfl rfl rfl rfl (Nat.le_of_ble_eq_true rfl) ⟨by decide, by decide⟩ ⟨by decide, by decide⟩ dX9_made_5) hP hD hS hA [1] [0] rfl rfl rfl (by decide) (fun r_1 u_1 H locs hw_1 hP hD hS => ?_)
  have hr_1 := hw_1
  refine lv_cst (v := 0) hr_1 ?_
  have hP : va_P D classes [(h0, .inr (9, fs)), (dd, .inr (2, ds_))] H := hP
  have hD : va_D A [(h0, .inr (9, fs)), (dd, .inr (2, ds_))] := hD
  refine W.widen (k := 0) (n := 0) (by decide) (by decide) ?_
  refine lv_if_eq (tgt := 45) hx hb dX9_made_8 (by decide) (fun c_2 => ?_) (fun c_2 => absurd (by decide) c_2)
  refine lv_iconst (v := (-1)) hx hb dX9_made_45 (by decide) ?_
  exact retI hC hP hD hS (by decide) (by decide) () [] rfl rfl rfl dX9_made_46
set_option maxHeartbeats 4000000 in
set_option maxRecDepth 100000 in
theorem k_X9_order (l : Launch) (D : va_G) (cyB cyI cyJ cyZ : ClassId) (sz : Nat) (h0 : Nat) (p0 : Int32) (p1 : Int32) (fs : List Value) (dd : Nat) (ds_ : List Value) (hl_fs : fs.length = 17) (h_fs_3 : fs[3]? = some (.ref dd)) (hl_ds_ : ds_.length = 15) (h_ds__1 : ds_[1]? = some (.int 0)) : KI l yX9_order cX9_order 4 .int 1 0 0 D (TYS cyB cyI cyJ cyZ) [(h0, .inr (9, fs)), (dd, .inr (2, ds_))] sz [.ref h0, .int p0, .int p1] (fun (r : Int32) (u : Unit) => r = (-1)) (fun (u : Unit) => ([] : va_W)) := by
  refine entI (by decide) (Nat.le_of_ble_eq_true rfl) ?_
  intro p e s m below meth c ls A hC hl hP hK hD hA
  obtain ⟨hx, hb, hr, hml, hown, hts, hlk, hnm⟩ := id hC
  have hS : va_S A s.heap s.heap [] := va_S.rf
  have hl : lv_has ls 4 [(0, .ref h0), (1, .int p0), (2, .int p1)] := hl
  generalize hHe : s.heap = H at hP ⊢
  rw [hHe] at hS
  have hS : va_S A s.heap H [] := by rw [hHe]; exact hS
  refine lv_aload_n hx hb dX9_order_0 rfl (lv_at hl 0 rfl) ?_
  refine gf hC hK hP iX9 0 rfl rfl 3 (by decide) mw_fieldLink_RX9_27_MirrorDrill_drill_LMirrorDrill_Drill h_fs_3 dX9_order_1 ?_
  refine lv_iload_n hx hb dX9_order_4 rfl (lv_at hl 1 rfl) ?_
  refine aftI (wr := [(h0, .inr (9, fs))]) (runV hC hK hP hD hl.1 (k_X2_isMan l D cyB cyI cyJ cyZ H.size dd p0 ds_ hl_ds_ h_ds__1) cV_X2_isMan mw_methodLink_RX9_147_yX2_isMan [1] rfl rfl 1 rfl rfl rfl rfl rfl (Nat.le_of_ble_eq_true rfl) ⟨by decide, by decide⟩ ⟨by decide, by decide⟩ dX9_order_5) hP hD hS hA [1] [0] rfl rfl rfl (by decide) (fun r_1 u_1 H locs hw_1 hP hD hS => ?_)
  have hr_1 := hw_1
  refine lv_cst (v := 0) hr_1 ?_
  have hP : va_P D classes [(h0, .inr (9, fs)), (dd, .inr (2, ds_))] H := hP
  have hD : va_D A [(h0, .inr (9, fs)), (dd, .inr (2, ds_))] := hD
  refine W.widen (k := 0) (n := 0) (by decide) (by decide) ?_
  refine lv_if_eq (tgt := 22) hx hb dX9_order_8 (by decide) (fun c_2 => ?_) (fun c_2 => absurd (by decide) c_2)
  refine lv_iconst (v := (-1)) hx hb dX9_order_22 (by decide) ?_
  exact retI hC hP hD hS (by decide) (by decide) () [] rfl rfl rfl dX9_order_23
set_option maxHeartbeats 4000000 in
set_option maxRecDepth 100000 in
theorem k_X6_clear (l : Launch) (D : va_G) (cyB cyI cyJ cyZ : ClassId) (sz : Nat) (pl : Nat) (fp_ : List Value) (hl_fp_ : fp_.length = 2) : KV l yX6_clear cX6_clear 1 0 0 0 D (TYS cyB cyI cyJ cyZ) [(pl, .inr (6, fp_))] sz [.ref pl] (fun (u : Unit) => True) (fun (u : Unit) => ([(pl, .inr (6, (fp_.set 1 (.int 0))))] : va_W)) := by
  refine entV (by decide) (Nat.le_of_ble_eq_true rfl) ?_
  intro p e s m below meth c ls A hC hl hP hK hD hA
  obtain ⟨hx, hb, hr, hml, hown, hts, hlk, hnm⟩ := id hC
  have hS : va_S A s.heap s.heap [] := va_S.rf
  have hl : lv_has ls 1 [(0, .ref pl)] := hl
  generalize hHe : s.heap = H at hP ⊢
  rw [hHe] at hS
  have hS : va_S A s.heap H [] := by rw [hHe]; exact hS
  refine lv_aload_n hx hb dX6_clear_0 rfl (lv_at hl 0 rfl) ?_
  refine lv_iconst (v := 0) hx hb dX6_clear_1 (by decide) ?_
  refine pf (v := .int 0) hC hK hP hD hS iX6 tyX6_ok nmX6 0 rfl rfl 1 (by decide) mw_fieldLink_RX6_15_MirrorDrill_Pile_count_I rfl rfl rfl (ln_lt hl_fp_ (by decide)) dX6_clear_2 (fun H locs hP hD hS => ?_)
  have hP : va_P D classes [(pl, .inr (6, (fp_.set 1 (.int 0))))] H := hP
  have hD : va_D A [(pl, .inr (6, (fp_.set 1 (.int 0))))] := hD
  exact retV hC hP hD hS (by decide) (by decide) () [0] rfl rfl trivial dX6_clear_5
set_option maxHeartbeats 4000000 in
set_option maxRecDepth 100000 in
theorem k_X9_one (l : Launch) (D : va_G) (cyB cyI cyJ cyZ : ClassId) (sz : Nat) (h0 : Nat) (p0 : Int32) (fs : List Value) (dd : Nat) (ds_ : List Value) (hl_fs : fs.length = 17) (h_fs_3 : fs[3]? = some (.ref dd)) (hl_ds_ : ds_.length = 15) (h_ds__2 : ds_[2]? = some (.int 0)) : KI l yX9_one cX9_one 2 .int 1 0 0 D (TYS cyB cyI cyJ cyZ) [(h0, .inr (9, fs)), (dd, .inr (2, ds_))] sz [.ref h0, .int p0] (fun (r : Int32) (u : Unit) => r = (-1)) (fun (u : Unit) => ([] : va_W)) := by
  refine entI (by decide) (Nat.le_of_ble_eq_true rfl) ?_
  intro p e s m below meth c ls A hC hl hP hK hD hA
  obtain ⟨hx, hb, hr, hml, hown, hts, hlk, hnm⟩ := id hC
  have hS : va_S A s.heap s.heap [] := va_S.rf
  have hl : lv_has ls 2 [(0, .ref h0), (1, .int p0)] := hl
  generalize hHe : s.heap = H at hP ⊢
  rw [hHe] at hS
  have hS : va_S A s.heap H [] := by rw [hHe]; exact hS
  refine lv_aload_n hx hb dX9_one_0 rfl (lv_at hl 0 rfl) ?_
  refine gf hC hK hP iX9 0 rfl rfl 3 (by decide) mw_fieldLink_RX9_27_MirrorDrill_drill_LMirrorDrill_Drill h_fs_3 dX9_one_1 ?_
  refine lv_iload_n hx hb dX9_one_4 rfl (lv_at hl 1 rfl) ?_
  refine aftI (wr := [(h0, .inr (9, fs))]) (runV hC hK hP hD hl.1 (k_X2_isRule l D cyB cyI cyJ cyZ H.size dd p0 ds_ hl_ds_ h_ds__2) cV_X2_isRule mw_methodLink_RX9_159_yX2_isRule [1] rfl rfl 1 rfl rfl rfl rfl rfl (Nat.le_of_ble_eq_true rfl) ⟨by decide, by decide⟩ ⟨by decide, by decide⟩ dX9_one_5) hP hD hS hA [1] [0] rfl rfl rfl (by decide) (fun r_1 u_1 H locs hw_1 hP hD hS => ?_)
  have hr_1 := hw_1
  refine lv_cst (v := 0) hr_1 ?_
  have hP : va_P D classes [(h0, .inr (9, fs)), (dd, .inr (2, ds_))] H := hP
  have hD : va_D A [(h0, .inr (9, fs)), (dd, .inr (2, ds_))] := hD
  refine W.widen (k := 0) (n := 0) (by decide) (by decide) ?_
  refine lv_if_ne (tgt := 13) hx hb dX9_one_8 (by decide) (fun c_2 => absurd (by decide) c_2) (fun c_2 => ?_)
  refine lv_iconst (v := (-1)) hx hb dX9_one_11 (by decide) ?_
  exact retI hC hP hD hS (by decide) (by decide) () [] rfl rfl rfl dX9_one_12
set_option maxHeartbeats 4000000 in
set_option maxRecDepth 100000 in
theorem k_X9_keeps (l : Launch) (D : va_G) (cyB cyI cyJ cyZ : ClassId) (sz : Nat) (h0 : Nat) (p0 : Int32) (fs : List Value) (dd : Nat) (ds_ : List Value) (hl_fs : fs.length = 17) (h_fs_3 : fs[3]? = some (.ref dd)) (hl_ds_ : ds_.length = 15) (h_ds__2 : ds_[2]? = some (.int 0)) : KI l yX9_keeps cX9_keeps 2 .int 1 0 0 D (TYS cyB cyI cyJ cyZ) [(h0, .inr (9, fs)), (dd, .inr (2, ds_))] sz [.ref h0, .int p0] (fun (r : Int32) (u : Unit) => r = (-1)) (fun (u : Unit) => ([] : va_W)) := by
  refine entI (by decide) (Nat.le_of_ble_eq_true rfl) ?_
  intro p e s m below meth c ls A hC hl hP hK hD hA
  obtain ⟨hx, hb, hr, hml, hown, hts, hlk, hnm⟩ := id hC
  have hS : va_S A s.heap s.heap [] := va_S.rf
  have hl : lv_has ls 2 [(0, .ref h0), (1, .int p0)] := hl
  generalize hHe : s.heap = H at hP ⊢
  rw [hHe] at hS
  have hS : va_S A s.heap H [] := by rw [hHe]; exact hS
  refine lv_aload_n hx hb dX9_keeps_0 rfl (lv_at hl 0 rfl) ?_
  refine gf hC hK hP iX9 0 rfl rfl 3 (by decide) mw_fieldLink_RX9_27_MirrorDrill_drill_LMirrorDrill_Drill h_fs_3 dX9_keeps_1 ?_
  refine lv_iload_n hx hb dX9_keeps_4 rfl (lv_at hl 1 rfl) ?_
  refine aftI (wr := [(h0, .inr (9, fs))]) (runV hC hK hP hD hl.1 (k_X2_isRule l D cyB cyI cyJ cyZ H.size dd p0 ds_ hl_ds_ h_ds__2) cV_X2_isRule mw_methodLink_RX9_159_yX2_isRule [1] rfl rfl 1 rfl rfl rfl rfl rfl (Nat.le_of_ble_eq_true rfl) ⟨by decide, by decide⟩ ⟨by decide, by decide⟩ dX9_keeps_5) hP hD hS hA [1] [0] rfl rfl rfl (by decide) (fun r_1 u_1 H locs hw_1 hP hD hS => ?_)
  have hr_1 := hw_1
  refine lv_cst (v := 0) hr_1 ?_
  have hP : va_P D classes [(h0, .inr (9, fs)), (dd, .inr (2, ds_))] H := hP
  have hD : va_D A [(h0, .inr (9, fs)), (dd, .inr (2, ds_))] := hD
  refine W.widen (k := 0) (n := 0) (by decide) (by decide) ?_
  refine lv_if_ne (tgt := 13) hx hb dX9_keeps_8 (by decide) (fun c_2 => absurd (by decide) c_2) (fun c_2 => ?_)
  refine lv_iconst (v := (-1)) hx hb dX9_keeps_11 (by decide) ?_
  exact retI hC hP hD hS (by decide) (by decide) () [] rfl rfl rfl dX9_keeps_12
set_option maxHeartbeats 4000000 in
set_option maxRecDepth 100000 in
theorem k_X9_orphan (l : Launch) (D : va_G) (cyB cyI cyJ cyZ : ClassId) (sz : Nat) (h0 : Nat) (p0 : Int32) (fs : List Value) (dd : Nat) (pl : Nat) (ds_ : List Value) (fp_ : List Value) (hl_fs : fs.length = 17) (h_fs_3 : fs[3]? = some (.ref dd)) (h_fs_10 : fs[10]? = some (.ref pl)) (hl_ds_ : ds_.length = 15) (h_ds__2 : ds_[2]? = some (.int 0)) (hl_fp_ : fp_.length = 2) : KI l yX9_orphan cX9_orphan 2 .int 1 0 0 D (TYS cyB cyI cyJ cyZ) [(h0, .inr (9, fs)), (dd, .inr (2, ds_)), (pl, .inr (6, fp_))] sz [.ref h0, .int p0] (fun (r : Int32) (u : Unit) => r = (-1)) (fun (u : Unit) => ([] : va_W)) := by
  refine entI (by decide) (Nat.le_of_ble_eq_true rfl) ?_
  intro p e s m below meth c ls A hC hl hP hK hD hA
  obtain ⟨hx, hb, hr, hml, hown, hts, hlk, hnm⟩ := id hC
  have hS : va_S A s.heap s.heap [] := va_S.rf
  have hl : lv_has ls 2 [(0, .ref h0), (1, .int p0)] := hl
  generalize hHe : s.heap = H at hP ⊢
  rw [hHe] at hS
  have hS : va_S A s.heap H [] := by rw [hHe]; exact hS
  refine lv_aload_n hx hb dX9_orphan_0 rfl (lv_at hl 0 rfl) ?_
  refine gf hC hK hP iX9 0 rfl rfl 10 (by decide) mw_fieldLink_RX9_57_MirrorDrill_pile_LMirrorDrill_Pile h_fs_10 dX9_orphan_1 ?_
  refine aftV (wr := [(h0, .inr (9, fs)), (dd, .inr (2, ds_))]) (runV hC hK hP hD hl.1 (k_X6_clear l D cyB cyI cyJ cyZ H.size pl fp_ hl_fp_) cV_X6_clear mw_methodLink_RX9_137_yX6_clear [2] rfl rfl 2 rfl rfl rfl rfl rfl (Nat.le_of_ble_eq_true rfl) ⟨by decide, by decide⟩ ⟨by decide, by decide⟩ dX9_orphan_4) hP hD hS hA [2] [0, 1] rfl rfl rfl (by decide) (fun u_1 H locs hw_1 hP hD hS => ?_)
  have hP : va_P D classes [(h0, .inr (9, fs)), (dd, .inr (2, ds_)), (pl, .inr (6, (fp_.set 1 (.int 0))))] H := hP
  have hD : va_D A [(h0, .inr (9, fs)), (dd, .inr (2, ds_)), (pl, .inr (6, (fp_.set 1 (.int 0))))] := hD
  refine W.widen (k := 0) (n := 0) (by decide) (by decide) ?_
  refine lv_aload_n hx hb dX9_orphan_7 rfl (lv_at hl 0 rfl) ?_
  refine gf hC hK hP iX9 0 rfl rfl 3 (by decide) mw_fieldLink_RX9_27_MirrorDrill_drill_LMirrorDrill_Drill h_fs_3 dX9_orphan_8 ?_
  refine lv_iload_n hx hb dX9_orphan_11 rfl (lv_at hl 1 rfl) ?_
  refine aftI (wr := [(h0, .inr (9, fs)), (pl, .inr (6, (fp_.set 1 (.int 0))))]) (runV hC hK hP hD hl.1 (k_X2_isRule l D cyB cyI cyJ cyZ H.size dd p0 ds_ hl_ds_ h_ds__2) cV_X2_isRule mw_methodLink_RX9_159_yX2_isRule [1] rfl rfl 1 rfl rfl rfl rfl rfl (Nat.le_of_ble_eq_true rfl) ⟨by decide, by decide⟩ ⟨by decide, by decide⟩ dX9_orphan_12) hP hD hS hA [1] [0, 2] rfl rfl rfl (by decide) (fun r_2 u_2 H locs hw_2 hP hD hS => ?_)
  have hr_2 := hw_2
  refine lv_cst (v := 0) hr_2 ?_
  have hP : va_P D classes [(h0, .inr (9, fs)), (pl, .inr (6, (fp_.set 1 (.int 0)))), (dd, .inr (2, ds_))] H := hP
  have hD : va_D A [(h0, .inr (9, fs)), (pl, .inr (6, (fp_.set 1 (.int 0)))), (dd, .inr (2, ds_))] := hD
  refine W.widen (k := 0) (n := 0) (by decide) (by decide) ?_
  refine lv_if_eq (tgt := 37) hx hb dX9_orphan_15 (by decide) (fun c_3 => ?_) (fun c_3 => absurd (by decide) c_3)
  refine lv_iconst (v := (-1)) hx hb dX9_orphan_37 (by decide) ?_
  exact retI hC hP hD hS (by decide) (by decide) () [] rfl rfl rfl dX9_orphan_38
set_option maxHeartbeats 4000000 in
set_option maxRecDepth 100000 in
theorem k_X9_spread (l : Launch) (D : va_G) (cyB cyI cyJ cyZ : ClassId) (sz : Nat) (h0 : Nat) (p0 : Int32) (p1 : Int32) (p2 : Int32) (fs : List Value) (dd : Nat) (ds_ : List Value) (hl_fs : fs.length = 17) (h_fs_3 : fs[3]? = some (.ref dd)) (hl_ds_ : ds_.length = 15) (h_ds__1 : ds_[1]? = some (.int 0)) : KI l yX9_spread cX9_spread 8 .int 1 0 0 D (TYS cyB cyI cyJ cyZ) [(h0, .inr (9, fs)), (dd, .inr (2, ds_))] sz [.ref h0, .int p0, .int p1, .int p2] (fun (r : Int32) (u : Unit) => r = (-1)) (fun (u : Unit) => ([] : va_W)) := by
  refine entI (by decide) (Nat.le_of_ble_eq_true rfl) ?_
  intro p e s m below meth c ls A hC hl hP hK hD hA
  obtain ⟨hx, hb, hr, hml, hown, hts, hlk, hnm⟩ := id hC
  have hS : va_S A s.heap s.heap [] := va_S.rf
  have hl : lv_has ls 8 [(0, .ref h0), (1, .int p0), (2, .int p1), (3, .int p2)] := hl
  generalize hHe : s.heap = H at hP ⊢
  rw [hHe] at hS
  have hS : va_S A s.heap H [] := by rw [hHe]; exact hS
  refine lv_aload_n hx hb dX9_spread_0 rfl (lv_at hl 0 rfl) ?_
  refine gf hC hK hP iX9 0 rfl rfl 3 (by decide) mw_fieldLink_RX9_27_MirrorDrill_drill_LMirrorDrill_Drill h_fs_3 dX9_spread_1 ?_
  refine lv_iload_n hx hb dX9_spread_4 rfl (lv_at hl 1 rfl) ?_
  refine aftI (wr := [(h0, .inr (9, fs))]) (runV hC hK hP hD hl.1 (k_X2_isMan l D cyB cyI cyJ cyZ H.size dd p0 ds_ hl_ds_ h_ds__1) cV_X2_isMan mw_methodLink_RX9_147_yX2_isMan [1] rfl rfl 1 rfl rfl rfl rfl rfl (Nat.le_of_ble_eq_true rfl) ⟨by decide, by decide⟩ ⟨by decide, by decide⟩ dX9_spread_5) hP hD hS hA [1] [0] rfl rfl rfl (by decide) (fun r_1 u_1 H locs hw_1 hP hD hS => ?_)
  have hr_1 := hw_1
  refine lv_cst (v := 0) hr_1 ?_
  have hP : va_P D classes [(h0, .inr (9, fs)), (dd, .inr (2, ds_))] H := hP
  have hD : va_D A [(h0, .inr (9, fs)), (dd, .inr (2, ds_))] := hD
  refine W.widen (k := 0) (n := 0) (by decide) (by decide) ?_
  refine lv_if_eq (tgt := 33) hx hb dX9_spread_8 (by decide) (fun c_2 => ?_) (fun c_2 => absurd (by decide) c_2)
  refine lv_iconst (v := (-1)) hx hb dX9_spread_33 (by decide) ?_
  exact retI hC hP hD hS (by decide) (by decide) () [] rfl rfl rfl dX9_spread_34
set_option maxHeartbeats 4000000 in
set_option maxRecDepth 100000 in
theorem k_X9_glint (l : Launch) (D : va_G) (cyB cyI cyJ cyZ : ClassId) (sz : Nat) (h0 : Nat) (p0 : Int32) (p1 : Int32) (p2 : Int32) (fs : List Value) (dd : Nat) (pl : Nat) (ds_ : List Value) (fp_ : List Value) (hl_fs : fs.length = 17) (h_fs_3 : fs[3]? = some (.ref dd)) (h_fs_10 : fs[10]? = some (.ref pl)) (hl_ds_ : ds_.length = 15) (h_ds__1 : ds_[1]? = some (.int 0)) (hl_fp_ : fp_.length = 2) : KI l yX9_glint cX9_glint 4 .int 1 0 0 D (TYS cyB cyI cyJ cyZ) [(h0, .inr (9, fs)), (dd, .inr (2, ds_)), (pl, .inr (6, fp_))] sz [.ref h0, .int p0, .int p1, .int p2] (fun (r : Int32) (u : Unit) => r = (-2)) (fun (u : Unit) => ([] : va_W)) := by
  refine entI (by decide) (Nat.le_of_ble_eq_true rfl) ?_
  intro p e s m below meth c ls A hC hl hP hK hD hA
  obtain ⟨hx, hb, hr, hml, hown, hts, hlk, hnm⟩ := id hC
  have hS : va_S A s.heap s.heap [] := va_S.rf
  have hl : lv_has ls 4 [(0, .ref h0), (1, .int p0), (2, .int p1), (3, .int p2)] := hl
  generalize hHe : s.heap = H at hP ⊢
  rw [hHe] at hS
  have hS : va_S A s.heap H [] := by rw [hHe]; exact hS
  refine lv_aload_n hx hb dX9_glint_0 rfl (lv_at hl 0 rfl) ?_
  refine gf hC hK hP iX9 0 rfl rfl 10 (by decide) mw_fieldLink_RX9_57_MirrorDrill_pile_LMirrorDrill_Pile h_fs_10 dX9_glint_1 ?_
  refine aftV (wr := [(h0, .inr (9, fs)), (dd, .inr (2, ds_))]) (runV hC hK hP hD hl.1 (k_X6_clear l D cyB cyI cyJ cyZ H.size pl fp_ hl_fp_) cV_X6_clear mw_methodLink_RX9_137_yX6_clear [2] rfl rfl 2 rfl rfl rfl rfl rfl (Nat.le_of_ble_eq_true rfl) ⟨by decide, by decide⟩ ⟨by decide, by decide⟩ dX9_glint_4) hP hD hS hA [2] [0, 1] rfl rfl rfl (by decide) (fun u_1 H locs hw_1 hP hD hS => ?_)
  have hP : va_P D classes [(h0, .inr (9, fs)), (dd, .inr (2, ds_)), (pl, .inr (6, (fp_.set 1 (.int 0))))] H := hP
  have hD : va_D A [(h0, .inr (9, fs)), (dd, .inr (2, ds_)), (pl, .inr (6, (fp_.set 1 (.int 0))))] := hD
  refine W.widen (k := 0) (n := 0) (by decide) (by decide) ?_
  refine lv_aload_n hx hb dX9_glint_7 rfl (lv_at hl 0 rfl) ?_
  refine gf hC hK hP iX9 0 rfl rfl 3 (by decide) mw_fieldLink_RX9_27_MirrorDrill_drill_LMirrorDrill_Drill h_fs_3 dX9_glint_8 ?_
  refine lv_iload_n hx hb dX9_glint_11 rfl (lv_at hl 1 rfl) ?_
  refine aftI (wr := [(h0, .inr (9, fs)), (pl, .inr (6, (fp_.set 1 (.int 0))))]) (runV hC hK hP hD hl.1 (k_X2_isMan l D cyB cyI cyJ cyZ H.size dd p0 ds_ hl_ds_ h_ds__1) cV_X2_isMan mw_methodLink_RX9_147_yX2_isMan [1] rfl rfl 1 rfl rfl rfl rfl rfl (Nat.le_of_ble_eq_true rfl) ⟨by decide, by decide⟩ ⟨by decide, by decide⟩ dX9_glint_12) hP hD hS hA [1] [0, 2] rfl rfl rfl (by decide) (fun r_2 u_2 H locs hw_2 hP hD hS => ?_)
  have hr_2 := hw_2
  refine lv_cst (v := 0) hr_2 ?_
  have hP : va_P D classes [(h0, .inr (9, fs)), (pl, .inr (6, (fp_.set 1 (.int 0)))), (dd, .inr (2, ds_))] H := hP
  have hD : va_D A [(h0, .inr (9, fs)), (pl, .inr (6, (fp_.set 1 (.int 0)))), (dd, .inr (2, ds_))] := hD
  refine W.widen (k := 0) (n := 0) (by decide) (by decide) ?_
  refine lv_if_eq (tgt := 39) hx hb dX9_glint_15 (by decide) (fun c_3 => ?_) (fun c_3 => absurd (by decide) c_3)
  refine lv_bipush (v := (-2)) hx hb dX9_glint_39 (by decide) ?_
  exact retI hC hP hD hS (by decide) (by decide) () [] rfl rfl rfl dX9_glint_41
set_option maxHeartbeats 4000000 in
set_option maxRecDepth 100000 in
theorem k_X9_cracks (l : Launch) (D : va_G) (cyB cyI cyJ cyZ : ClassId) (sz : Nat) (h0 : Nat) (p0 : Int32) (p1 : Int32) (p2 : Int32) (fs : List Value) (dd : Nat) (pl : Nat) (ds_ : List Value) (fp_ : List Value) (hl_fs : fs.length = 17) (h_fs_3 : fs[3]? = some (.ref dd)) (h_fs_10 : fs[10]? = some (.ref pl)) (hl_ds_ : ds_.length = 15) (h_ds__1 : ds_[1]? = some (.int 0)) (hl_fp_ : fp_.length = 2) : KI l yX9_cracks cX9_cracks 4 .int 1 0 0 D (TYS cyB cyI cyJ cyZ) [(h0, .inr (9, fs)), (dd, .inr (2, ds_)), (pl, .inr (6, fp_))] sz [.ref h0, .int p0, .int p1, .int p2] (fun (r : Int32) (u : Unit) => r = (-2)) (fun (u : Unit) => ([] : va_W)) := by
  refine entI (by decide) (Nat.le_of_ble_eq_true rfl) ?_
  intro p e s m below meth c ls A hC hl hP hK hD hA
  obtain ⟨hx, hb, hr, hml, hown, hts, hlk, hnm⟩ := id hC
  have hS : va_S A s.heap s.heap [] := va_S.rf
  have hl : lv_has ls 4 [(0, .ref h0), (1, .int p0), (2, .int p1), (3, .int p2)] := hl
  generalize hHe : s.heap = H at hP ⊢
  rw [hHe] at hS
  have hS : va_S A s.heap H [] := by rw [hHe]; exact hS
  refine lv_aload_n hx hb dX9_cracks_0 rfl (lv_at hl 0 rfl) ?_
  refine gf hC hK hP iX9 0 rfl rfl 10 (by decide) mw_fieldLink_RX9_57_MirrorDrill_pile_LMirrorDrill_Pile h_fs_10 dX9_cracks_1 ?_
  refine aftV (wr := [(h0, .inr (9, fs)), (dd, .inr (2, ds_))]) (runV hC hK hP hD hl.1 (k_X6_clear l D cyB cyI cyJ cyZ H.size pl fp_ hl_fp_) cV_X6_clear mw_methodLink_RX9_137_yX6_clear [2] rfl rfl 2 rfl rfl rfl rfl rfl (Nat.le_of_ble_eq_true rfl) ⟨by decide, by decide⟩ ⟨by decide, by decide⟩ dX9_cracks_4) hP hD hS hA [2] [0, 1] rfl rfl rfl (by decide) (fun u_1 H locs hw_1 hP hD hS => ?_)
  have hP : va_P D classes [(h0, .inr (9, fs)), (dd, .inr (2, ds_)), (pl, .inr (6, (fp_.set 1 (.int 0))))] H := hP
  have hD : va_D A [(h0, .inr (9, fs)), (dd, .inr (2, ds_)), (pl, .inr (6, (fp_.set 1 (.int 0))))] := hD
  refine W.widen (k := 0) (n := 0) (by decide) (by decide) ?_
  refine lv_aload_n hx hb dX9_cracks_7 rfl (lv_at hl 0 rfl) ?_
  refine gf hC hK hP iX9 0 rfl rfl 3 (by decide) mw_fieldLink_RX9_27_MirrorDrill_drill_LMirrorDrill_Drill h_fs_3 dX9_cracks_8 ?_
  refine lv_iload_n hx hb dX9_cracks_11 rfl (lv_at hl 1 rfl) ?_
  refine aftI (wr := [(h0, .inr (9, fs)), (pl, .inr (6, (fp_.set 1 (.int 0))))]) (runV hC hK hP hD hl.1 (k_X2_isMan l D cyB cyI cyJ cyZ H.size dd p0 ds_ hl_ds_ h_ds__1) cV_X2_isMan mw_methodLink_RX9_147_yX2_isMan [1] rfl rfl 1 rfl rfl rfl rfl rfl (Nat.le_of_ble_eq_true rfl) ⟨by decide, by decide⟩ ⟨by decide, by decide⟩ dX9_cracks_12) hP hD hS hA [1] [0, 2] rfl rfl rfl (by decide) (fun r_2 u_2 H locs hw_2 hP hD hS => ?_)
  have hr_2 := hw_2
  refine lv_cst (v := 0) hr_2 ?_
  have hP : va_P D classes [(h0, .inr (9, fs)), (pl, .inr (6, (fp_.set 1 (.int 0)))), (dd, .inr (2, ds_))] H := hP
  have hD : va_D A [(h0, .inr (9, fs)), (pl, .inr (6, (fp_.set 1 (.int 0)))), (dd, .inr (2, ds_))] := hD
  refine W.widen (k := 0) (n := 0) (by decide) (by decide) ?_
  refine lv_if_eq (tgt := 40) hx hb dX9_cracks_15 (by decide) (fun c_3 => ?_) (fun c_3 => absurd (by decide) c_3)
  refine lv_bipush (v := (-2)) hx hb dX9_cracks_40 (by decide) ?_
  exact retI hC hP hD hS (by decide) (by decide) () [] rfl rfl rfl dX9_cracks_42
set_option maxHeartbeats 4000000 in
set_option maxRecDepth 100000 in
theorem k_X9_sight (l : Launch) (D : va_G) (cyB cyI cyJ cyZ : ClassId) (sz : Nat) (h0 : Nat) (p0 : Int32) (p1 : Int32) (p2 : Int32) (fs : List Value) (dd : Nat) (ds_ : List Value) (hl_fs : fs.length = 17) (h_fs_3 : fs[3]? = some (.ref dd)) (hl_ds_ : ds_.length = 15) (h_ds__1 : ds_[1]? = some (.int 0)) : KI l yX9_sight cX9_sight 4 .int 1 0 0 D (TYS cyB cyI cyJ cyZ) [(h0, .inr (9, fs)), (dd, .inr (2, ds_))] sz [.ref h0, .int p0, .int p1, .int p2] (fun (r : Int32) (u : Unit) => r = (-1)) (fun (u : Unit) => ([] : va_W)) := by
  refine entI (by decide) (Nat.le_of_ble_eq_true rfl) ?_
  intro p e s m below meth c ls A hC hl hP hK hD hA
  obtain ⟨hx, hb, hr, hml, hown, hts, hlk, hnm⟩ := id hC
  have hS : va_S A s.heap s.heap [] := va_S.rf
  have hl : lv_has ls 4 [(0, .ref h0), (1, .int p0), (2, .int p1), (3, .int p2)] := hl
  generalize hHe : s.heap = H at hP ⊢
  rw [hHe] at hS
  have hS : va_S A s.heap H [] := by rw [hHe]; exact hS
  refine lv_iload_n hx hb dX9_sight_0 rfl (lv_at hl 1 rfl) ?_
  refine lv_if_lt (tgt := 32) hx hb dX9_sight_1 (by decide) (fun c_1 => ?_) (fun c_1 => ?_)
  · refine lv_iconst (v := (-1)) hx hb dX9_sight_32 (by decide) ?_
    exact retI hC hP hD hS (by decide) (by decide) () [] rfl rfl rfl dX9_sight_33
  · refine lv_iload_n hx hb dX9_sight_4 rfl (lv_at hl 1 rfl) ?_
    refine lv_bipush (v := 30) hx hb dX9_sight_5 (by decide) ?_
    refine lv_icmp_gt (tgt := 32) hx hb dX9_sight_7 (by decide) (fun c_2 => ?_) (fun c_2 => ?_)
    · refine lv_iconst (v := (-1)) hx hb dX9_sight_32 (by decide) ?_
      exact retI hC hP hD hS (by decide) (by decide) () [] rfl rfl rfl dX9_sight_33
    · refine lv_aload_n hx hb dX9_sight_10 rfl (lv_at hl 0 rfl) ?_
      refine gf hC hK hP iX9 0 rfl rfl 3 (by decide) mw_fieldLink_RX9_27_MirrorDrill_drill_LMirrorDrill_Drill h_fs_3 dX9_sight_11 ?_
      refine lv_iload_n hx hb dX9_sight_14 rfl (lv_at hl 2 rfl) ?_
      refine aftI (wr := [(h0, .inr (9, fs))]) (runV hC hK hP hD hl.1 (k_X2_isMan l D cyB cyI cyJ cyZ H.size dd p1 ds_ hl_ds_ h_ds__1) cV_X2_isMan mw_methodLink_RX9_147_yX2_isMan [1] rfl rfl 1 rfl rfl rfl rfl rfl (Nat.le_of_ble_eq_true rfl) ⟨by decide, by decide⟩ ⟨by decide, by decide⟩ dX9_sight_15) hP hD hS hA [1] [0] rfl rfl rfl (by decide) (fun r_3 u_3 H locs hw_3 hP hD hS => ?_)
      have hr_3 := hw_3
      refine lv_cst (v := 0) hr_3 ?_
      have hP : va_P D classes [(h0, .inr (9, fs)), (dd, .inr (2, ds_))] H := hP
      have hD : va_D A [(h0, .inr (9, fs)), (dd, .inr (2, ds_))] := hD
      refine W.widen (k := 0) (n := 0) (by decide) (by decide) ?_
      refine lv_if_eq (tgt := 32) hx hb dX9_sight_18 (by decide) (fun c_4 => ?_) (fun c_4 => absurd (by decide) c_4)
      refine lv_iconst (v := (-1)) hx hb dX9_sight_32 (by decide) ?_
      exact retI hC hP hD hS (by decide) (by decide) () [] rfl rfl rfl dX9_sight_33
set_option maxHeartbeats 4000000 in
set_option maxRecDepth 100000 in
theorem k_X9_sure (l : Launch) (D : va_G) (cyB cyI cyJ cyZ : ClassId) (sz : Nat) (h0 : Nat) (p0 : Int32) (p1 : Int32) (fs : List Value) (dd : Nat) (ds_ : List Value) (hl_fs : fs.length = 17) (h_fs_3 : fs[3]? = some (.ref dd)) (hl_ds_ : ds_.length = 15) (h_ds__1 : ds_[1]? = some (.int 0)) : KI l yX9_sure cX9_sure 5 .int 1 0 0 D (TYS cyB cyI cyJ cyZ) [(h0, .inr (9, fs)), (dd, .inr (2, ds_))] sz [.ref h0, .int p0, .int p1] (fun (r : Int32) (u : Unit) => r = (-1)) (fun (u : Unit) => ([] : va_W)) := by
  refine entI (by decide) (Nat.le_of_ble_eq_true rfl) ?_
  intro p e s m below meth c ls A hC hl hP hK hD hA
  obtain ⟨hx, hb, hr, hml, hown, hts, hlk, hnm⟩ := id hC
  have hS : va_S A s.heap s.heap [] := va_S.rf
  have hl : lv_has ls 5 [(0, .ref h0), (1, .int p0), (2, .int p1)] := hl
  generalize hHe : s.heap = H at hP ⊢
  rw [hHe] at hS
  have hS : va_S A s.heap H [] := by rw [hHe]; exact hS
  refine lv_aload_n hx hb dX9_sure_0 rfl (lv_at hl 0 rfl) ?_
  refine gf hC hK hP iX9 0 rfl rfl 3 (by decide) mw_fieldLink_RX9_27_MirrorDrill_drill_LMirrorDrill_Drill h_fs_3 dX9_sure_1 ?_
  refine lv_iload_n hx hb dX9_sure_4 rfl (lv_at hl 1 rfl) ?_
  refine aftI (wr := [(h0, .inr (9, fs))]) (runV hC hK hP hD hl.1 (k_X2_isMan l D cyB cyI cyJ cyZ H.size dd p0 ds_ hl_ds_ h_ds__1) cV_X2_isMan mw_methodLink_RX9_147_yX2_isMan [1] rfl rfl 1 rfl rfl rfl rfl rfl (Nat.le_of_ble_eq_true rfl) ⟨by decide, by decide⟩ ⟨by decide, by decide⟩ dX9_sure_5) hP hD hS hA [1] [0] rfl rfl rfl (by decide) (fun r_1 u_1 H locs hw_1 hP hD hS => ?_)
  have hr_1 := hw_1
  refine lv_cst (v := 0) hr_1 ?_
  have hP : va_P D classes [(h0, .inr (9, fs)), (dd, .inr (2, ds_))] H := hP
  have hD : va_D A [(h0, .inr (9, fs)), (dd, .inr (2, ds_))] := hD
  refine W.widen (k := 0) (n := 0) (by decide) (by decide) ?_
  refine lv_if_eq (tgt := 37) hx hb dX9_sure_8 (by decide) (fun c_2 => ?_) (fun c_2 => absurd (by decide) c_2)
  refine lv_iconst (v := (-1)) hx hb dX9_sure_37 (by decide) ?_
  exact retI hC hP hD hS (by decide) (by decide) () [] rfl rfl rfl dX9_sure_38
set_option maxHeartbeats 4000000 in
set_option maxRecDepth 100000 in
theorem k_X6_number (l : Launch) (D : va_G) (cyB cyI cyJ cyZ : ClassId) (sz : Nat) (pl : Nat) (p0 : Int32) (fp_ : List Value) (hl_fp_ : fp_.length = 2) (h_fp__1 : fp_[1]? = some (.int 0)) : KI l yX6_number cX6_number 2 .int 0 0 0 D (TYS cyB cyI cyJ cyZ) [(pl, .inr (6, fp_))] sz [.ref pl, .int p0] (fun (r : Int32) (u : Unit) => r = (-1)) (fun (u : Unit) => ([] : va_W)) := by
  refine entI (by decide) (Nat.le_of_ble_eq_true rfl) ?_
  intro p e s m below meth c ls A hC hl hP hK hD hA
  obtain ⟨hx, hb, hr, hml, hown, hts, hlk, hnm⟩ := id hC
  have hS : va_S A s.heap s.heap [] := va_S.rf
  have hl : lv_has ls 2 [(0, .ref pl), (1, .int p0)] := hl
  generalize hHe : s.heap = H at hP ⊢
  rw [hHe] at hS
  have hS : va_S A s.heap H [] := by rw [hHe]; exact hS
  refine lv_iload_n hx hb dX6_number_0 rfl (lv_at hl 1 rfl) ?_
  refine lv_if_lt (tgt := 21) hx hb dX6_number_1 (by decide) (fun c_1 => ?_) (fun c_1 => ?_)
  · refine lv_iconst (v := (-1)) hx hb dX6_number_21 (by decide) ?_
    exact retI hC hP hD hS (by decide) (by decide) () [] rfl rfl rfl dX6_number_22
  · refine lv_iload_n hx hb dX6_number_4 rfl (lv_at hl 1 rfl) ?_
    refine lv_aload_n hx hb dX6_number_5 rfl (lv_at hl 0 rfl) ?_
    refine gf hC hK hP iX6 0 rfl rfl 1 (by decide) mw_fieldLink_RX6_15_MirrorDrill_Pile_count_I h_fp__1 dX6_number_6 ?_
    refine lv_icmp_ge (tgt := 21) hx hb dX6_number_9 (by decide) (fun c_2 => ?_) (fun c_2 => absurd (Int32.not_lt.mp c_1) c_2)
    refine lv_iconst (v := (-1)) hx hb dX6_number_21 (by decide) ?_
    exact retI hC hP hD hS (by decide) (by decide) () [] rfl rfl rfl dX6_number_22
set_option maxHeartbeats 4000000 in
set_option maxRecDepth 100000 in
theorem k_X9_lies (l : Launch) (D : va_G) (cyB cyI cyJ cyZ : ClassId) (sz : Nat) (h0 : Nat) (p0 : Int32) (fs : List Value) (pl : Nat) (fp_ : List Value) (hl_fs : fs.length = 17) (h_fs_10 : fs[10]? = some (.ref pl)) (hl_fp_ : fp_.length = 2) (h_fp__1 : fp_[1]? = some (.int 0)) : KI l yX9_lies cX9_lies 2 .int 1 0 0 D (TYS cyB cyI cyJ cyZ) [(h0, .inr (9, fs)), (pl, .inr (6, fp_))] sz [.ref h0, .int p0] (fun (r : Int32) (u : Unit) => r = (-1)) (fun (u : Unit) => ([] : va_W)) := by
  refine entI (by decide) (Nat.le_of_ble_eq_true rfl) ?_
  intro p e s m below meth c ls A hC hl hP hK hD hA
  obtain ⟨hx, hb, hr, hml, hown, hts, hlk, hnm⟩ := id hC
  have hS : va_S A s.heap s.heap [] := va_S.rf
  have hl : lv_has ls 2 [(0, .ref h0), (1, .int p0)] := hl
  generalize hHe : s.heap = H at hP ⊢
  rw [hHe] at hS
  have hS : va_S A s.heap H [] := by rw [hHe]; exact hS
  refine lv_aload_n hx hb dX9_lies_0 rfl (lv_at hl 0 rfl) ?_
  refine gf hC hK hP iX9 0 rfl rfl 10 (by decide) mw_fieldLink_RX9_57_MirrorDrill_pile_LMirrorDrill_Pile h_fs_10 dX9_lies_1 ?_
  refine lv_iload_n hx hb dX9_lies_4 rfl (lv_at hl 1 rfl) ?_
  refine aftI (wr := [(h0, .inr (9, fs))]) (runV hC hK hP hD hl.1 (k_X6_number l D cyB cyI cyJ cyZ H.size pl p0 fp_ hl_fp_ h_fp__1) cV_X6_number mw_methodLink_RX9_256_yX6_number [1] rfl rfl 1 rfl rfl rfl rfl rfl (Nat.le_of_ble_eq_true rfl) ⟨by decide, by decide⟩ ⟨by decide, by decide⟩ dX9_lies_5) hP hD hS hA [1] [0] rfl rfl rfl (by decide) (fun r_1 u_1 H locs hw_1 hP hD hS => ?_)
  have hr_1 := hw_1
  refine lv_cst (v := (-1)) hr_1 ?_
  have hP : va_P D classes [(h0, .inr (9, fs))] H := hP
  have hD : va_D A [(h0, .inr (9, fs))] := hD
  refine W.widen (k := 0) (n := 0) (by decide) (by decide) ?_
  exact retI hC hP hD hS (by decide) (by decide) () [] rfl rfl rfl dX9_lies_8
set_option maxHeartbeats 4000000 in
set_option maxRecDepth 100000 in
theorem k_X3_takeBack (l : Launch) (D : va_G) (cyB cyI cyJ cyZ : ClassId) (sz : Nat) (ea : Nat) (fe_ : List Value) (hl_fe_ : fe_.length = 4) (h_fe__2 : fe_[2]? = some (.int 0)) : KI l yX3_takeBack cX3_takeBack 1 .boolean 0 0 0 D (TYS cyB cyI cyJ cyZ) [(ea, .inr (3, fe_))] sz [.ref ea] (fun (r : Int32) (u : Unit) => r = 0) (fun (u : Unit) => ([] : va_W)) := by
  refine entI (by decide) (Nat.le_of_ble_eq_true rfl) ?_
  intro p e s m below meth c ls A hC hl hP hK hD hA
  obtain ⟨hx, hb, hr, hml, hown, hts, hlk, hnm⟩ := id hC
  have hS : va_S A s.heap s.heap [] := va_S.rf
  have hl : lv_has ls 1 [(0, .ref ea)] := hl
  generalize hHe : s.heap = H at hP ⊢
  rw [hHe] at hS
  have hS : va_S A s.heap H [] := by rw [hHe]; exact hS
  refine lv_aload_n hx hb dX3_takeBack_0 rfl (lv_at hl 0 rfl) ?_
  refine gf hC hK hP iX3 0 rfl rfl 2 (by decide) mw_fieldLink_RX3_19_MirrorDrill_Earnest_now_I h_fe__2 dX3_takeBack_1 ?_
  refine lv_if_ne (tgt := 9) hx hb dX3_takeBack_4 (by decide) (fun c_1 => absurd (by decide) c_1) (fun c_1 => ?_)
  refine lv_iconst (v := 0) hx hb dX3_takeBack_7 (by decide) ?_
  exact retZ hC hP hD hS (by decide) (by decide) () [] rfl rfl rfl rfl dX3_takeBack_8
set_option maxHeartbeats 4000000 in
set_option maxRecDepth 100000 in
theorem k_X3_doAgain (l : Launch) (D : va_G) (cyB cyI cyJ cyZ : ClassId) (sz : Nat) (ea : Nat) (fe_ : List Value) (hl_fe_ : fe_.length = 4) (h_fe__2 : fe_[2]? = some (.int 0)) (h_fe__3 : fe_[3]? = some (.int 0)) : KI l yX3_doAgain cX3_doAgain 1 .boolean 0 0 0 D (TYS cyB cyI cyJ cyZ) [(ea, .inr (3, fe_))] sz [.ref ea] (fun (r : Int32) (u : Unit) => r = 0) (fun (u : Unit) => ([] : va_W)) := by
  refine entI (by decide) (Nat.le_of_ble_eq_true rfl) ?_
  intro p e s m below meth c ls A hC hl hP hK hD hA
  obtain ⟨hx, hb, hr, hml, hown, hts, hlk, hnm⟩ := id hC
  have hS : va_S A s.heap s.heap [] := va_S.rf
  have hl : lv_has ls 1 [(0, .ref ea)] := hl
  generalize hHe : s.heap = H at hP ⊢
  rw [hHe] at hS
  have hS : va_S A s.heap H [] := by rw [hHe]; exact hS
  refine lv_aload_n hx hb dX3_doAgain_0 rfl (lv_at hl 0 rfl) ?_
  refine gf hC hK hP iX3 0 rfl rfl 2 (by decide) mw_fieldLink_RX3_19_MirrorDrill_Earnest_now_I h_fe__2 dX3_doAgain_1 ?_
  refine lv_aload_n hx hb dX3_doAgain_4 rfl (lv_at hl 0 rfl) ?_
  refine gf hC hK hP iX3 0 rfl rfl 3 (by decide) mw_fieldLink_RX3_23_MirrorDrill_Earnest_last_I h_fe__3 dX3_doAgain_5 ?_
  refine lv_icmp_ne (tgt := 13) hx hb dX3_doAgain_8 (by decide) (fun c_1 => absurd (by decide) c_1) (fun c_1 => ?_)
  refine lv_iconst (v := 0) hx hb dX3_doAgain_11 (by decide) ?_
  exact retZ hC hP hD hS (by decide) (by decide) () [] rfl rfl rfl rfl dX3_doAgain_12
set_option maxHeartbeats 4000000 in
set_option maxRecDepth 100000 in
theorem k_X9_undo (l : Launch) (D : va_G) (cyB cyI cyJ cyZ : ClassId) (sz : Nat) (h0 : Nat) (fs : List Value) (ea : Nat) (fe_ : List Value) (hl_fs : fs.length = 17) (h_fs_7 : fs[7]? = some (.ref ea)) (hl_fe_ : fe_.length = 4) (h_fe__2 : fe_[2]? = some (.int 0)) : KI l yX9_undo cX9_undo 1 .boolean 1 0 0 D (TYS cyB cyI cyJ cyZ) [(h0, .inr (9, fs)), (ea, .inr (3, fe_))] sz [.ref h0] (fun (r : Int32) (u : Unit) => r = 0) (fun (u : Unit) => ([] : va_W)) := by
  refine entI (by decide) (Nat.le_of_ble_eq_true rfl) ?_
  intro p e s m below meth c ls A hC hl hP hK hD hA
  obtain ⟨hx, hb, hr, hml, hown, hts, hlk, hnm⟩ := id hC
  have hS : va_S A s.heap s.heap [] := va_S.rf
  have hl : lv_has ls 1 [(0, .ref h0)] := hl
  generalize hHe : s.heap = H at hP ⊢
  rw [hHe] at hS
  have hS : va_S A s.heap H [] := by rw [hHe]; exact hS
  refine lv_aload_n hx hb dX9_undo_0 rfl (lv_at hl 0 rfl) ?_
  refine gf hC hK hP iX9 0 rfl rfl 7 (by decide) mw_fieldLink_RX9_43_MirrorDrill_earnest_LMirrorDrill_Earnest h_fs_7 dX9_undo_1 ?_
  refine aftI (wr := [(h0, .inr (9, fs))]) (runV hC hK hP hD hl.1 (k_X3_takeBack l D cyB cyI cyJ cyZ H.size ea fe_ hl_fe_ h_fe__2) cV_X3_takeBack mw_methodLink_RX9_188_yX3_takeBack [1] rfl rfl 1 rfl rfl rfl rfl rfl (Nat.le_of_ble_eq_true rfl) ⟨by decide, by decide⟩ ⟨by decide, by decide⟩ dX9_undo_4) hP hD hS hA [1] [0] rfl rfl rfl (by decide) (fun r_1 u_1 H locs hw_1 hP hD hS => ?_)
  have hr_1 := hw_1
  refine lv_cst (v := 0) hr_1 ?_
  have hP : va_P D classes [(h0, .inr (9, fs))] H := hP
  have hD : va_D A [(h0, .inr (9, fs))] := hD
  refine W.widen (k := 0) (n := 0) (by decide) (by decide) ?_
  exact retZ hC hP hD hS (by decide) (by decide) () [] rfl rfl rfl rfl dX9_undo_7
set_option maxHeartbeats 4000000 in
set_option maxRecDepth 100000 in
theorem k_X9_redo (l : Launch) (D : va_G) (cyB cyI cyJ cyZ : ClassId) (sz : Nat) (h0 : Nat) (fs : List Value) (ea : Nat) (fe_ : List Value) (hl_fs : fs.length = 17) (h_fs_7 : fs[7]? = some (.ref ea)) (hl_fe_ : fe_.length = 4) (h_fe__2 : fe_[2]? = some (.int 0)) (h_fe__3 : fe_[3]? = some (.int 0)) : KI l yX9_redo cX9_redo 1 .boolean 1 0 0 D (TYS cyB cyI cyJ cyZ) [(h0, .inr (9, fs)), (ea, .inr (3, fe_))] sz [.ref h0] (fun (r : Int32) (u : Unit) => r = 0) (fun (u : Unit) => ([] : va_W)) := by
  refine entI (by decide) (Nat.le_of_ble_eq_true rfl) ?_
  intro p e s m below meth c ls A hC hl hP hK hD hA
  obtain ⟨hx, hb, hr, hml, hown, hts, hlk, hnm⟩ := id hC
  have hS : va_S A s.heap s.heap [] := va_S.rf
  have hl : lv_has ls 1 [(0, .ref h0)] := hl
  generalize hHe : s.heap = H at hP ⊢
  rw [hHe] at hS
  have hS : va_S A s.heap H [] := by rw [hHe]; exact hS
  refine lv_aload_n hx hb dX9_redo_0 rfl (lv_at hl 0 rfl) ?_
  refine gf hC hK hP iX9 0 rfl rfl 7 (by decide) mw_fieldLink_RX9_43_MirrorDrill_earnest_LMirrorDrill_Earnest h_fs_7 dX9_redo_1 ?_
  refine aftI (wr := [(h0, .inr (9, fs))]) (runV hC hK hP hD hl.1 (k_X3_doAgain l D cyB cyI cyJ cyZ H.size ea fe_ hl_fe_ h_fe__2 h_fe__3) cV_X3_doAgain mw_methodLink_RX9_191_yX3_doAgain [1] rfl rfl 1 rfl rfl rfl rfl rfl (Nat.le_of_ble_eq_true rfl) ⟨by decide, by decide⟩ ⟨by decide, by decide⟩ dX9_redo_4) hP hD hS hA [1] [0] rfl rfl rfl (by decide) (fun r_1 u_1 H locs hw_1 hP hD hS => ?_)
  have hr_1 := hw_1
  refine lv_cst (v := 0) hr_1 ?_
  have hP : va_P D classes [(h0, .inr (9, fs))] H := hP
  have hD : va_D A [(h0, .inr (9, fs))] := hD
  refine W.widen (k := 0) (n := 0) (by decide) (by decide) ?_
  exact retZ hC hP hD hS (by decide) (by decide) () [] rfl rfl rfl rfl dX9_redo_7
set_option maxHeartbeats 4000000 in
set_option maxRecDepth 100000 in
theorem k_X3_row (l : Launch) (D : va_G) (cyB cyI cyJ cyZ : ClassId) (sz : Nat) (ea : Nat) (fe_ : List Value) (er : Nat) (fer : Nat → Int64) (hl_fe_ : fe_.length = 4) (h_fe__0 : fe_[0]? = some (.ref er)) (h_fe__2 : fe_[2]? = some (.int 0)) (h_fer_0 : fer 0 = 0) : KL l yX3_row cX3_row 1 0 0 0 D (TYS cyB cyI cyJ cyZ) [(ea, .inr (3, fe_)), (er, .inl (cyJ, 41, .inr (.inl fer)))] sz [.ref ea] (fun (r : Int64) (u : Unit) => r = 0) (fun (u : Unit) => ([(ea, .inr (3, fe_)), (er, .inl (cyJ, 41, .inr (.inl fer)))] : va_W)) := by
  refine entL (by decide) (Nat.le_of_ble_eq_true rfl) ?_
  intro p e s m below meth c ls A hC hl hP hK hD hA
  obtain ⟨hx, hb, hr, hml, hown, hts, hlk, hnm⟩ := id hC
  have hS : va_S A s.heap s.heap [] := va_S.rf
  have hl : lv_has ls 1 [(0, .ref ea)] := hl
  generalize hHe : s.heap = H at hP ⊢
  rw [hHe] at hS
  have hS : va_S A s.heap H [] := by rw [hHe]; exact hS
  refine lv_aload_n hx hb dX3_row_0 rfl (lv_at hl 0 rfl) ?_
  refine gf hC hK hP iX3 0 rfl rfl 0 (by decide) mw_fieldLink_RX3_9_MirrorDrill_Earnest_rows_J h_fe__0 dX3_row_1 ?_
  refine lv_aload_n hx hb dX3_row_4 rfl (lv_at hl 0 rfl) ?_
  refine gf hC hK hP iX3 0 rfl rfl 2 (by decide) mw_fieldLink_RX3_19_MirrorDrill_Earnest_now_I h_fe__2 dX3_row_5 ?_
  refine va_lald hx hb hK hP 1 2 rfl rfl (vin (by decide)) dX3_row_8 ?_
  refine lv_cstL (v := 0) (h_fer_0) ?_
  exact retL hC hP hD hS (by decide) (by decide) () [0, 1] rfl rfl rfl dX3_row_9
set_option maxHeartbeats 4000000 in
set_option maxRecDepth 100000 in
theorem k_X3_beats (l : Launch) (D : va_G) (cyB cyI cyJ cyZ : ClassId) (sz : Nat) (ea : Nat) (fe_ : List Value) (eb : Nat) (feb : Nat → Int32) (hl_fe_ : fe_.length = 4) (h_fe__1 : fe_[1]? = some (.ref eb)) (h_fe__2 : fe_[2]? = some (.int 0)) (h_feb_0 : feb 0 = 0) : KI l yX3_beats cX3_beats 1 .int 0 0 0 D (TYS cyB cyI cyJ cyZ) [(ea, .inr (3, fe_)), (eb, .inl (cyI, 41, .inl feb))] sz [.ref ea] (fun (r : Int32) (u : Unit) => r = 0) (fun (u : Unit) => ([(ea, .inr (3, fe_)), (eb, .inl (cyI, 41, .inl feb))] : va_W)) := by
  refine entI (by decide) (Nat.le_of_ble_eq_true rfl) ?_
  intro p e s m below meth c ls A hC hl hP hK hD hA
  obtain ⟨hx, hb, hr, hml, hown, hts, hlk, hnm⟩ := id hC
  have hS : va_S A s.heap s.heap [] := va_S.rf
  have hl : lv_has ls 1 [(0, .ref ea)] := hl
  generalize hHe : s.heap = H at hP ⊢
  rw [hHe] at hS
  have hS : va_S A s.heap H [] := by rw [hHe]; exact hS
  refine lv_aload_n hx hb dX3_beats_0 rfl (lv_at hl 0 rfl) ?_
  refine gf hC hK hP iX3 0 rfl rfl 1 (by decide) mw_fieldLink_RX3_15_MirrorDrill_Earnest_beatsThen_I h_fe__1 dX3_beats_1 ?_
  refine lv_aload_n hx hb dX3_beats_4 rfl (lv_at hl 0 rfl) ?_
  refine gf hC hK hP iX3 0 rfl rfl 2 (by decide) mw_fieldLink_RX3_19_MirrorDrill_Earnest_now_I h_fe__2 dX3_beats_5 ?_
  refine va_iald hx hb hK hP 1 1 rfl rfl (vin (by decide)) dX3_beats_8 ?_
  refine lv_cst (v := 0) (h_feb_0) ?_
  exact retI hC hP hD hS (by decide) (by decide) () [0, 1] rfl rfl rfl dX3_beats_9
set_option maxHeartbeats 4000000 in
set_option maxRecDepth 100000 in
theorem k_X3_beats1 (l : Launch) (D : va_G) (cyB cyI cyJ cyZ : ClassId) (sz : Nat) (ea : Nat) (fe_ : List Value) (eb : Nat) (feb : Nat → Int32) (v : Int32) (hl_fe_ : fe_.length = 4) (h_fe__1 : fe_[1]? = some (.ref eb)) (h_fe__2 : fe_[2]? = some (.int 1)) (h_feb_1 : feb 1 = v) : KI l yX3_beats cX3_beats 1 .int 0 0 0 D (TYS cyB cyI cyJ cyZ) [(ea, .inr (3, fe_)), (eb, .inl (cyI, 41, .inl feb))] sz [.ref ea] (fun (r : Int32) (u : Unit) => r = v) (fun (u : Unit) => ([(ea, .inr (3, fe_)), (eb, .inl (cyI, 41, .inl feb))] : va_W)) := by
  refine entI (by decide) (Nat.le_of_ble_eq_true rfl) ?_
  intro p e s m below meth c ls A hC hl hP hK hD hA
  obtain ⟨hx, hb, hr, hml, hown, hts, hlk, hnm⟩ := id hC
  have hS : va_S A s.heap s.heap [] := va_S.rf
  have hl : lv_has ls 1 [(0, .ref ea)] := hl
  generalize hHe : s.heap = H at hP ⊢
  rw [hHe] at hS
  have hS : va_S A s.heap H [] := by rw [hHe]; exact hS
  refine lv_aload_n hx hb dX3_beats_0 rfl (lv_at hl 0 rfl) ?_
  refine gf hC hK hP iX3 0 rfl rfl 1 (by decide) mw_fieldLink_RX3_15_MirrorDrill_Earnest_beatsThen_I h_fe__1 dX3_beats_1 ?_
  refine lv_aload_n hx hb dX3_beats_4 rfl (lv_at hl 0 rfl) ?_
  refine gf hC hK hP iX3 0 rfl rfl 2 (by decide) mw_fieldLink_RX3_19_MirrorDrill_Earnest_now_I h_fe__2 dX3_beats_5 ?_
  refine va_iald hx hb hK hP 1 1 rfl rfl (vin (by decide)) dX3_beats_8 ?_
  refine lv_cst (v := v) (h_feb_1) ?_
  exact retI hC hP hD hS (by decide) (by decide) () [0, 1] rfl rfl rfl dX3_beats_9
set_option maxHeartbeats 4000000 in
set_option maxRecDepth 100000 in
theorem k_X2_worthOf (l : Launch) (D : va_G) (cyB cyI cyJ cyZ : ClassId) (sz : Nat) (dd : Nat) (ds_ : List Value) (hl_ds_ : ds_.length = 15) (h_ds__1 : ds_[1]? = some (.int 0)) : KI l yX2_worthOf cX2_worthOf 5 .int 0 0 0 D (TYS cyB cyI cyJ cyZ) [(dd, .inr (2, ds_))] sz [.ref dd, .long 0] (fun (r : Int32) (u : Unit) => r = 0) (fun (u : Unit) => ([] : va_W)) := by
  refine entI (by decide) (Nat.le_of_ble_eq_true rfl) ?_
  intro p e s m below meth c ls A hC hl hP hK hD hA
  obtain ⟨hx, hb, hr, hml, hown, hts, hlk, hnm⟩ := id hC
  have hS : va_S A s.heap s.heap [] := va_S.rf
  have hl : lv_has ls 5 [(0, .ref dd), (1, .long 0)] := hl
  generalize hHe : s.heap = H at hP ⊢
  rw [hHe] at hS
  have hS : va_S A s.heap H [] := by rw [hHe]; exact hS
  refine lv_iconst (v := 0) hx hb dX2_worthOf_0 (by decide) ?_
  refine lv_istore_n (lv' := [(3, .int 0), (0, .ref dd), (1, .long 0)]) hx hb dX2_worthOf_1 rfl hl (by decide) rfl (fun ls hl => ?_)
  refine lv_iconst (v := 0) hx hb dX2_worthOf_2 (by decide) ?_
  refine lv_istore (lv' := [(4, .int 0), (3, .int 0), (0, .ref dd), (1, .long 0)]) hx hb dX2_worthOf_3 hl (by decide) rfl (fun ls hl => ?_)
  refine lv_iload hx hb dX2_worthOf_5 (lv_at hl 0 rfl) ?_
  refine lv_aload_n hx hb dX2_worthOf_7 rfl (lv_at hl 2 rfl) ?_
  refine gf hC hK hP iX2 0 rfl rfl 1 (by decide) mw_fieldLink_RX2_15_MirrorDrill_Drill_men_I h_ds__1 dX2_worthOf_8 ?_
  refine lv_icmp_ge (tgt := 34) hx hb dX2_worthOf_11 (by decide) (fun c_1 => ?_) (fun c_1 => absurd (by decide) c_1)
  refine lv_iload_n hx hb dX2_worthOf_34 rfl (lv_at hl 1 rfl) ?_
  exact retI hC hP hD hS (by decide) (by decide) () [] rfl rfl rfl dX2_worthOf_35
set_option maxHeartbeats 4000000 in
set_option maxRecDepth 100000 in
theorem k_X9_worth (l : Launch) (D : va_G) (cyB cyI cyJ cyZ : ClassId) (sz : Nat) (h0 : Nat) (fs : List Value) (dd : Nat) (ea : Nat) (ds_ : List Value) (fe_ : List Value) (er : Nat) (fer : Nat → Int64) (hl_fs : fs.length = 17) (h_fs_3 : fs[3]? = some (.ref dd)) (h_fs_7 : fs[7]? = some (.ref ea)) (hl_ds_ : ds_.length = 15) (h_ds__1 : ds_[1]? = some (.int 0)) (hl_fe_ : fe_.length = 4) (h_fe__0 : fe_[0]? = some (.ref er)) (h_fe__2 : fe_[2]? = some (.int 0)) (h_fer_0 : fer 0 = 0) : KI l yX9_worth cX9_worth 1 .int 1 0 0 D (TYS cyB cyI cyJ cyZ) [(h0, .inr (9, fs)), (dd, .inr (2, ds_)), (ea, .inr (3, fe_)), (er, .inl (cyJ, 41, .inr (.inl fer)))] sz [.ref h0] (fun (r : Int32) (u : Unit) => r = 0) (fun (u : Unit) => ([] : va_W)) := by
  refine entI (by decide) (Nat.le_of_ble_eq_true rfl) ?_
  intro p e s m below meth c ls A hC hl hP hK hD hA
  obtain ⟨hx, hb, hr, hml, hown, hts, hlk, hnm⟩ := id hC
  have hS : va_S A s.heap s.heap [] := va_S.rf
  have hl : lv_has ls 1 [(0, .ref h0)] := hl
  generalize hHe : s.heap = H at hP ⊢
  rw [hHe] at hS
  have hS : va_S A s.heap H [] := by rw [hHe]; exact hS
  refine lv_aload_n hx hb dX9_worth_0 rfl (lv_at hl 0 rfl) ?_
  refine gf hC hK hP iX9 0 rfl rfl 3 (by decide) mw_fieldLink_RX9_27_MirrorDrill_drill_LMirrorDrill_Drill h_fs_3 dX9_worth_1 ?_
  refine lv_aload_n hx hb dX9_worth_4 rfl (lv_at hl 0 rfl) ?_
  refine gf hC hK hP iX9 0 rfl rfl 7 (by decide) mw_fieldLink_RX9_43_MirrorDrill_earnest_LMirrorDrill_Earnest h_fs_7 dX9_worth_5 ?_
  refine aftL (wr := [(h0, .inr (9, fs)), (dd, .inr (2, ds_))]) (runV hC hK hP hD hl.1 (k_X3_row l D cyB cyI cyJ cyZ H.size ea fe_ er fer hl_fe_ h_fe__0 h_fe__2 h_fer_0) cV_X3_row mw_methodLink_RX9_151_yX3_row [2, 3] rfl rfl 2 rfl rfl rfl rfl rfl (Nat.le_of_ble_eq_true rfl) ⟨by decide, by decide⟩ ⟨by decide, by decide⟩ dX9_worth_8) hP hD hS hA [2, 3] [0, 1] rfl rfl rfl (by decide) (fun r_1 u_1 H locs hw_1 hP hD hS => ?_)
  have hr_1 := hw_1
  refine lv_cstL (v := 0) hr_1 ?_
  have hP : va_P D classes [(h0, .inr (9, fs)), (dd, .inr (2, ds_)), (ea, .inr (3, fe_)), (er, .inl (cyJ, 41, .inr (.inl fer)))] H := hP
  have hD : va_D A [(h0, .inr (9, fs)), (dd, .inr (2, ds_)), (ea, .inr (3, fe_)), (er, .inl (cyJ, 41, .inr (.inl fer)))] := hD
  refine W.widen (k := 0) (n := 0) (by decide) (by decide) ?_
  refine aftI (wr := [(h0, .inr (9, fs)), (ea, .inr (3, fe_)), (er, .inl (cyJ, 41, .inr (.inl fer)))]) (runV hC hK hP hD hl.1 (k_X2_worthOf l D cyB cyI cyJ cyZ H.size dd ds_ hl_ds_ h_ds__1) cV_X2_worthOf mw_methodLink_RX9_194_yX2_worthOf [1] rfl rfl 1 rfl rfl rfl rfl rfl (Nat.le_of_ble_eq_true rfl) ⟨by decide, by decide⟩ ⟨by decide, by decide⟩ dX9_worth_11) hP hD hS hA [1] [0, 2, 3] rfl rfl rfl (by decide) (fun r_2 u_2 H locs hw_2 hP hD hS => ?_)
  have hr_2 := hw_2
  refine lv_cst (v := 0) hr_2 ?_
  have hP : va_P D classes [(h0, .inr (9, fs)), (ea, .inr (3, fe_)), (er, .inl (cyJ, 41, .inr (.inl fer)))] H := hP
  have hD : va_D A [(h0, .inr (9, fs)), (ea, .inr (3, fe_)), (er, .inl (cyJ, 41, .inr (.inl fer)))] := hD
  refine W.widen (k := 0) (n := 0) (by decide) (by decide) ?_
  exact retI hC hP hD hS (by decide) (by decide) () [] rfl rfl rfl dX9_worth_14
set_option maxHeartbeats 4000000 in
set_option maxRecDepth 100000 in
theorem k_X8_takeAway (l : Launch) (D : va_G) (cyB cyI cyJ cyZ : ClassId) (sz : Nat) (wt : Nat) (p0 : Int32) (t : Int32) (fw_ : List Value) (hl_fw_ : fw_.length = 17) (h_fw__5 : fw_[5]? = some (.int 0)) : KI l yX8_takeAway cX8_takeAway 3 .boolean 0 0 0 D (TYS cyB cyI cyJ cyZ) [(wt, .inr (8, fw_))] sz [.ref wt, .int p0, .int t] (fun (r : Int32) (u : Unit) => r = 0) (fun (u : Unit) => ([] : va_W)) := by
  refine entI (by decide) (Nat.le_of_ble_eq_true rfl) ?_
  intro p e s m below meth c ls A hC hl hP hK hD hA
  obtain ⟨hx, hb, hr, hml, hown, hts, hlk, hnm⟩ := id hC
  have hS : va_S A s.heap s.heap [] := va_S.rf
  have hl : lv_has ls 3 [(0, .ref wt), (1, .int p0), (2, .int t)] := hl
  generalize hHe : s.heap = H at hP ⊢
  rw [hHe] at hS
  have hS : va_S A s.heap H [] := by rw [hHe]; exact hS
  refine lv_iload_n hx hb dX8_takeAway_0 rfl (lv_at hl 1 rfl) ?_
  refine lv_if_lt (tgt := 22) hx hb dX8_takeAway_1 (by decide) (fun c_1 => ?_) (fun c_1 => ?_)
  · refine lv_iconst (v := 0) hx hb dX8_takeAway_22 (by decide) ?_
    exact retZ hC hP hD hS (by decide) (by decide) () [] rfl rfl rfl rfl dX8_takeAway_23
  · refine lv_iload_n hx hb dX8_takeAway_4 rfl (lv_at hl 1 rfl) ?_
    refine lv_aload_n hx hb dX8_takeAway_5 rfl (lv_at hl 0 rfl) ?_
    refine gf hC hK hP iX8 0 rfl rfl 5 (by decide) mw_fieldLink_RX8_27_MirrorDrill_Witness_sights_I h_fw__5 dX8_takeAway_6 ?_
    refine lv_icmp_ge (tgt := 22) hx hb dX8_takeAway_9 (by decide) (fun c_2 => ?_) (fun c_2 => absurd (Int32.not_lt.mp c_1) c_2)
    refine lv_iconst (v := 0) hx hb dX8_takeAway_22 (by decide) ?_
    exact retZ hC hP hD hS (by decide) (by decide) () [] rfl rfl rfl rfl dX8_takeAway_23
set_option maxHeartbeats 4000000 in
set_option maxRecDepth 100000 in
theorem k_X9_untell (l : Launch) (D : va_G) (cyB cyI cyJ cyZ : ClassId) (sz : Nat) (h0 : Nat) (p0 : Int32) (fs : List Value) (wt : Nat) (fw_ : List Value) (hl_fs : fs.length = 17) (h_fs_16 : fs[16]? = some (.ref wt)) (h_fs_11 : fs[11]? = some (.int 0)) (hl_fw_ : fw_.length = 17) (h_fw__5 : fw_[5]? = some (.int 0)) : KI l yX9_untell cX9_untell 2 .boolean 1 0 0 D (TYS cyB cyI cyJ cyZ) [(h0, .inr (9, fs)), (wt, .inr (8, fw_))] sz [.ref h0, .int p0] (fun (r : Int32) (u : Unit) => r = 0) (fun (u : Unit) => ([] : va_W)) := by
  refine entI (by decide) (Nat.le_of_ble_eq_true rfl) ?_
  intro p e s m below meth c ls A hC hl hP hK hD hA
  obtain ⟨hx, hb, hr, hml, hown, hts, hlk, hnm⟩ := id hC
  have hS : va_S A s.heap s.heap [] := va_S.rf
  have hl : lv_has ls 2 [(0, .ref h0), (1, .int p0)] := hl
  generalize hHe : s.heap = H at hP ⊢
  rw [hHe] at hS
  have hS : va_S A s.heap H [] := by rw [hHe]; exact hS
  refine lv_aload_n hx hb dX9_untell_0 rfl (lv_at hl 0 rfl) ?_
  refine gf hC hK hP iX9 0 rfl rfl 16 (by decide) mw_fieldLink_RX9_95_MirrorDrill_witness_LMirrorDrill_Witness h_fs_16 dX9_untell_1 ?_
  refine lv_iload_n hx hb dX9_untell_4 rfl (lv_at hl 1 rfl) ?_
  refine lv_aload_n hx hb dX9_untell_5 rfl (lv_at hl 0 rfl) ?_
  refine gf hC hK hP iX9 0 rfl rfl 11 (by decide) mw_fieldLink_RX9_61_MirrorDrill_time_I h_fs_11 dX9_untell_6 ?_
  refine aftI (wr := [(h0, .inr (9, fs))]) (runV hC hK hP hD hl.1 (k_X8_takeAway l D cyB cyI cyJ cyZ H.size wt p0 0 fw_ hl_fw_ h_fw__5) cV_X8_takeAway mw_methodLink_RX9_263_yX8_takeAway [1] rfl rfl 1 rfl rfl rfl rfl rfl (Nat.le_of_ble_eq_true rfl) ⟨by decide, by decide⟩ ⟨by decide, by decide⟩ dX9_untell_9) hP hD hS hA [1] [0] rfl rfl rfl (by decide) (fun r_1 u_1 H locs hw_1 hP hD hS => ?_)
  have hr_1 := hw_1
  refine lv_cst (v := 0) hr_1 ?_
  have hP : va_P D classes [(h0, .inr (9, fs))] H := hP
  have hD : va_D A [(h0, .inr (9, fs))] := hD
  refine W.widen (k := 0) (n := 0) (by decide) (by decide) ?_
  exact retZ hC hP hD hS (by decide) (by decide) () [] rfl rfl rfl rfl dX9_untell_12
set_option maxHeartbeats 4000000 in
set_option maxRecDepth 100000 in
theorem k_X9_later (l : Launch) (D : va_G) (cyB cyI cyJ cyZ : ClassId) (sz : Nat) (h0 : Nat) (p0 : Int32) (fs : List Value) (hl_fs : fs.length = 17) (h_fs_11 : fs[11]? = some (.int 0)) : KI l yX9_later cX9_later 2 .int 0 0 0 D (TYS cyB cyI cyJ cyZ) [(h0, .inr (9, fs))] sz [.ref h0, .int p0] (fun (r : Int32) (u : Unit) => r = sp_later p0) (fun (u : Unit) => ([] : va_W)) := by
  refine entI (by decide) (Nat.le_of_ble_eq_true rfl) ?_
  intro p e s m below meth c ls A hC hl hP hK hD hA
  obtain ⟨hx, hb, hr, hml, hown, hts, hlk, hnm⟩ := id hC
  have hS : va_S A s.heap s.heap [] := va_S.rf
  have hl : lv_has ls 2 [(0, .ref h0), (1, .int p0)] := hl
  generalize hHe : s.heap = H at hP ⊢
  rw [hHe] at hS
  have hS : va_S A s.heap H [] := by rw [hHe]; exact hS
  refine lv_iload_n hx hb dX9_later_0 rfl (lv_at hl 1 rfl) ?_
  refine lv_if_lt (tgt := 22) hx hb dX9_later_1 (by decide) (fun c_1 => ?_) (fun c_1 => ?_)
  · refine lv_iconst (v := (-1)) hx hb dX9_later_22 (by decide) ?_
    exact retI hC hP hD hS (by decide) (by decide) () [] rfl rfl (by have z0 := zt_lt c_1; have y0 : ((-1) : Int32).toInt = (-1) := (by decide); have y1 : (0 : Int32).toInt = 0 := (by decide); have y2 : (1000 : Int32).toInt = 1000 := (by decide); unfold sp_later; (repeat' split) <;> first | rfl | (exact Int32.zero_add _) | (exfalso; omega)) dX9_later_23
  · refine lv_iload_n hx hb dX9_later_4 rfl (lv_at hl 1 rfl) ?_
    refine lv_sipush (v := 1000) hx hb dX9_later_5 (by decide) ?_
    refine lv_icmp_gt (tgt := 22) hx hb dX9_later_8 (by decide) (fun c_2 => ?_) (fun c_2 => ?_)
    · refine lv_iconst (v := (-1)) hx hb dX9_later_22 (by decide) ?_
      exact retI hC hP hD hS (by decide) (by decide) () [] rfl rfl (by have z0 := zt_nlt c_1; have z1 := zt_lt c_2; have y0 : ((-1) : Int32).toInt = (-1) := (by decide); have y1 : (0 : Int32).toInt = 0 := (by decide); have y2 : (1000 : Int32).toInt = 1000 := (by decide); unfold sp_later; (repeat' split) <;> first | rfl | (exact Int32.zero_add _) | (exfalso; omega)) dX9_later_23
    · refine lv_aload_n hx hb dX9_later_11 rfl (lv_at hl 0 rfl) ?_
      refine gf hC hK hP iX9 0 rfl rfl 11 (by decide) mw_fieldLink_RX9_61_MirrorDrill_time_I h_fs_11 dX9_later_12 ?_
      refine lv_iload_n hx hb dX9_later_15 rfl (lv_at hl 1 rfl) ?_
      refine lv_iadd hx hb dX9_later_16 ?_
      refine lv_cst (v := p0) (Int32.zero_add _) ?_
      refine lv_ldc (v := 100000) hx hb hown (hts _ mw_constant_RX9_176_100000) dX9_later_17 ?_
      refine lv_icmp_le (tgt := 24) hx hb dX9_later_19 (by decide) (fun c_3 => ?_) (fun c_3 => absurd (Int32.not_lt.mp (fun h => by have z0 := zt_nlt c_1; have z1 := zt_nlt c_2; have y0 : ((-1) : Int32).toInt = (-1) := (by decide); have y1 : (0 : Int32).toInt = 0 := (by decide); have y2 : (1000 : Int32).toInt = 1000 := (by decide); have y3 : (100000 : Int32).toInt = 100000 := (by decide); have zz := zt_lt h; (try rw [Int32.zero_add] at zz); omega)) c_3)
      refine lv_aload_n hx hb dX9_later_24 rfl (lv_at hl 0 rfl) ?_
      refine lv_dup hx hb dX9_later_25 rfl ?_
      refine gf hC hK hP iX9 0 rfl rfl 11 (by decide) mw_fieldLink_RX9_61_MirrorDrill_time_I h_fs_11 dX9_later_26 ?_
      refine lv_iload_n hx hb dX9_later_29 rfl (lv_at hl 1 rfl) ?_
      refine lv_iadd hx hb dX9_later_30 ?_
      refine lv_cst (v := p0) (Int32.zero_add _) ?_
      refine pf (v := .int p0) hC hK hP hD hS iX9 tyX9_ok nmX9 0 rfl rfl 11 (by decide) mw_fieldLink_RX9_61_MirrorDrill_time_I rfl rfl rfl (ln_lt hl_fs (by decide)) dX9_later_31 (fun H locs hP hD hS => ?_)
      have hP : va_P D classes [(h0, .inr (9, (fs.set 11 (.int p0))))] H := hP
      have hD : va_D A [(h0, .inr (9, (fs.set 11 (.int p0))))] := hD
      refine lv_aload_n hx hb dX9_later_34 rfl (lv_at hl 0 rfl) ?_
      refine gf hC hK hP iX9 0 rfl rfl 11 (by decide) mw_fieldLink_RX9_61_MirrorDrill_time_I (gs_eq (ln_lt hl_fs (by decide))) dX9_later_35 ?_
      exact retI hC hP hD hS (by decide) (by decide) () [] rfl rfl (by have z0 := zt_nlt c_1; have z1 := zt_nlt c_2; have y0 : ((-1) : Int32).toInt = (-1) := (by decide); have y1 : (0 : Int32).toInt = 0 := (by decide); have y2 : (1000 : Int32).toInt = 1000 := (by decide); unfold sp_later; (repeat' split) <;> first | rfl | (exact Int32.zero_add _) | (exfalso; omega)) dX9_later_38
set_option maxHeartbeats 4000000 in
set_option maxRecDepth 100000 in
theorem k_X9_end (l : Launch) (D : va_G) (cyB cyI cyJ cyZ : ClassId) (sz : Nat) (h0 : Nat) (p0 : Int32) (fs : List Value) (hl_fs : fs.length = 17) (h_fs_1 : fs[1]? = some (.int 0)) : KI l yX9_end cX9_end 2 .int 0 0 0 D (TYS cyB cyI cyJ cyZ) [(h0, .inr (9, fs))] sz [.ref h0, .int p0] (fun (r : Int32) (u : Unit) => r = sp_end p0) (fun (u : Unit) => ([] : va_W)) := by
  refine entI (by decide) (Nat.le_of_ble_eq_true rfl) ?_
  intro p e s m below meth c ls A hC hl hP hK hD hA
  obtain ⟨hx, hb, hr, hml, hown, hts, hlk, hnm⟩ := id hC
  have hS : va_S A s.heap s.heap [] := va_S.rf
  have hl : lv_has ls 2 [(0, .ref h0), (1, .int p0)] := hl
  generalize hHe : s.heap = H at hP ⊢
  rw [hHe] at hS
  have hS : va_S A s.heap H [] := by rw [hHe]; exact hS
  refine lv_iload_n hx hb dX9_end_0 rfl (lv_at hl 1 rfl) ?_
  refine lv_if_lt (tgt := 12) hx hb dX9_end_1 (by decide) (fun c_1 => ?_) (fun c_1 => ?_)
  · refine lv_iconst (v := (-1)) hx hb dX9_end_12 (by decide) ?_
    exact retI hC hP hD hS (by decide) (by decide) () [] rfl rfl (by have z0 := zt_lt c_1; have y0 : ((-1) : Int32).toInt = (-1) := (by decide); have y1 : (0 : Int32).toInt = 0 := (by decide); unfold sp_end; (repeat' split) <;> first | rfl | (exact Int32.zero_add _) | (exact zu_eq (by omega)) | (exfalso; omega)) dX9_end_13
  · refine lv_iload_n hx hb dX9_end_4 rfl (lv_at hl 1 rfl) ?_
    refine lv_aload_n hx hb dX9_end_5 rfl (lv_at hl 0 rfl) ?_
    refine gf hC hK hP iX9 0 rfl rfl 1 (by decide) mw_fieldLink_RX9_13_MirrorDrill_taped_I h_fs_1 dX9_end_6 ?_
    refine lv_icmp_le (tgt := 14) hx hb dX9_end_9 (by decide) (fun c_2 => ?_) (fun c_2 => ?_)
    · refine lv_aload_n hx hb dX9_end_14 rfl (lv_at hl 0 rfl) ?_
      refine lv_iload_n hx hb dX9_end_15 rfl (lv_at hl 1 rfl) ?_
      refine pf (v := .int p0) hC hK hP hD hS iX9 tyX9_ok nmX9 0 rfl rfl 1 (by decide) mw_fieldLink_RX9_13_MirrorDrill_taped_I rfl rfl rfl (ln_lt hl_fs (by decide)) dX9_end_16 (fun H locs hP hD hS => ?_)
      have hP : va_P D classes [(h0, .inr (9, (fs.set 1 (.int p0))))] H := hP
      have hD : va_D A [(h0, .inr (9, (fs.set 1 (.int p0))))] := hD
      refine lv_iload_n hx hb dX9_end_19 rfl (lv_at hl 1 rfl) ?_
      exact retI hC hP hD hS (by decide) (by decide) () [] rfl rfl (by have z0 := zt_nlt c_1; have z1 := zt_le c_2; have y0 : ((-1) : Int32).toInt = (-1) := (by decide); have y1 : (0 : Int32).toInt = 0 := (by decide); unfold sp_end; (repeat' split) <;> first | rfl | (exact Int32.zero_add _) | (exact zu_eq (by omega)) | (exfalso; omega)) dX9_end_20
    · refine lv_iconst (v := (-1)) hx hb dX9_end_12 (by decide) ?_
      exact retI hC hP hD hS (by decide) (by decide) () [] rfl rfl (by have z0 := zt_nlt c_1; have z1 := zt_nle c_2; have y0 : ((-1) : Int32).toInt = (-1) := (by decide); have y1 : (0 : Int32).toInt = 0 := (by decide); unfold sp_end; (repeat' split) <;> first | rfl | (exact Int32.zero_add _) | (exact zu_eq (by omega)) | (exfalso; omega)) dX9_end_13
set_option maxHeartbeats 4000000 in
set_option maxRecDepth 100000 in
theorem k_X9_fault (l : Launch) (D : va_G) (cyB cyI cyJ cyZ : ClassId) (sz : Nat) (h0 : Nat) (p0 : Int32) (fs : List Value) (hl_fs : fs.length = 17) (h_fs_5 : fs[5]? = some (.int 0)) (h_fs_6 : fs[6]? = some (.int (-1))) : KI l yX9_fault cX9_fault 2 .int 0 0 0 D (TYS cyB cyI cyJ cyZ) [(h0, .inr (9, fs))] sz [.ref h0, .int p0] (fun (r : Int32) (u : Unit) => r = sp_fault p0) (fun (u : Unit) => ([] : va_W)) := by
  refine entI (by decide) (Nat.le_of_ble_eq_true rfl) ?_
  intro p e s m below meth c ls A hC hl hP hK hD hA
  obtain ⟨hx, hb, hr, hml, hown, hts, hlk, hnm⟩ := id hC
  have hS : va_S A s.heap s.heap [] := va_S.rf
  have hl : lv_has ls 2 [(0, .ref h0), (1, .int p0)] := hl
  generalize hHe : s.heap = H at hP ⊢
  rw [hHe] at hS
  have hS : va_S A s.heap H [] := by rw [hHe]; exact hS
  refine lv_iload_n hx hb dX9_fault_0 rfl (lv_at hl 1 rfl) ?_
  refine lv_if_ne (tgt := 9) hx hb dX9_fault_1 (by decide) (fun c_1 => ?_) (fun c_1 => ?_)
  · refine lv_iload_n hx hb dX9_fault_9 rfl (lv_at hl 1 rfl) ?_
    refine lv_iconst (v := 1) hx hb dX9_fault_10 (by decide) ?_
    refine lv_icmp_ne (tgt := 21) hx hb dX9_fault_11 (by decide) (fun c_2 => ?_) (fun c_2 => ?_)
    · refine lv_iconst (v := (-1)) hx hb dX9_fault_21 (by decide) ?_
      exact retI hC hP hD hS (by decide) (by decide) () [] rfl rfl (by have z0 := zt_ne c_1; have z1 := zt_ne c_2; have y0 : ((-1) : Int32).toInt = (-1) := (by decide); have y1 : (0 : Int32).toInt = 0 := (by decide); have y2 : (1 : Int32).toInt = 1 := (by decide); unfold sp_fault; (repeat' split) <;> first | rfl | (exact Int32.zero_add _) | (exfalso; omega)) dX9_fault_22
    · refine lv_aload_n hx hb dX9_fault_14 rfl (lv_at hl 0 rfl) ?_
      refine gf hC hK hP iX9 0 rfl rfl 6 (by decide) mw_fieldLink_RX9_37_MirrorDrill_faultPlace_I h_fs_6 dX9_fault_15 ?_
      refine lv_goto (tgt := 22) hx hb dX9_fault_18 (by decide) ?_
      exact retI hC hP hD hS (by decide) (by decide) () [] rfl rfl (by have z0 := zt_ne c_1; have z1 := zt_eq c_2; have y0 : ((-1) : Int32).toInt = (-1) := (by decide); have y1 : (0 : Int32).toInt = 0 := (by decide); have y2 : (1 : Int32).toInt = 1 := (by decide); unfold sp_fault; (repeat' split) <;> first | rfl | (exact Int32.zero_add _) | (exfalso; omega)) dX9_fault_22
  · refine lv_aload_n hx hb dX9_fault_4 rfl (lv_at hl 0 rfl) ?_
    refine gf hC hK hP iX9 0 rfl rfl 5 (by decide) mw_fieldLink_RX9_34_MirrorDrill_fault_I h_fs_5 dX9_fault_5 ?_
    exact retI hC hP hD hS (by decide) (by decide) () [] rfl rfl (by have z0 := zt_eq c_1; have y0 : ((-1) : Int32).toInt = (-1) := (by decide); have y1 : (0 : Int32).toInt = 0 := (by decide); have y2 : (1 : Int32).toInt = 1 := (by decide); unfold sp_fault; (repeat' split) <;> first | rfl | (exact Int32.zero_add _) | (exfalso; omega)) dX9_fault_8
