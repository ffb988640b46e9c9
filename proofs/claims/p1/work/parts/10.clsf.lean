theorem ush0 (p : Int32) : (p.toUInt32 >>> ((0 : Int32).toUInt32 &&& Int32.toUInt32 31)).toInt32 = p := by
  apply Int32.toBitVec_inj.mp
  apply BitVec.eq_of_toNat_eq
  rw [pk_ushr p 0 0 (by decide)]
  simp
theorem fill_sL {g : Nat → Int64} {i : Nat} {v : Int64} (h : ∀ j, j < i → g j = v) : ∀ j, j < i + 1 → vp_updL g i v j = v := by
  intro j hj
  rcases Nat.lt_or_ge j i with q | q
  · exact (pk_uLn (Nat.ne_of_lt q)).trans (h j q)
  · obtain rfl : j = i := by omega
    exact pk_uLs
theorem dJ7_fill_d0a16_0 : decode cJ7_fill_d0a16 0 = .ok (.iconst 0, 1) := by decide +kernel
theorem dJ7_fill_d0a16_1 : decode cJ7_fill_d0a16 1 = .ok (.istore_n 3, 1) := by decide +kernel
theorem dJ7_fill_d0a16_2 : decode cJ7_fill_d0a16 2 = .ok (.aload_n 0, 1) := by decide +kernel
theorem dJ7_fill_d0a16_3 : decode cJ7_fill_d0a16 3 = .ok (.arraylength, 1) := by decide +kernel
theorem dJ7_fill_d0a16_4 : decode cJ7_fill_d0a16 4 = .ok (.istore 4, 2) := by decide +kernel
theorem dJ7_fill_d0a16_6 : decode cJ7_fill_d0a16 6 = .ok (.iload_n 3, 1) := by decide +kernel
theorem dJ7_fill_d0a16_7 : decode cJ7_fill_d0a16 7 = .ok (.iload 4, 2) := by decide +kernel
theorem dJ7_fill_d0a16_9 : decode cJ7_fill_d0a16 9 = .ok (.if_icmp .ge 13, 3) := by decide +kernel
theorem dJ7_fill_d0a16_12 : decode cJ7_fill_d0a16 12 = .ok (.aload_n 0, 1) := by decide +kernel
theorem dJ7_fill_d0a16_13 : decode cJ7_fill_d0a16 13 = .ok (.iload_n 3, 1) := by decide +kernel
theorem dJ7_fill_d0a16_14 : decode cJ7_fill_d0a16 14 = .ok (.lload_n 1, 1) := by decide +kernel
theorem dJ7_fill_d0a16_15 : decode cJ7_fill_d0a16 15 = .ok (.lastore, 1) := by decide +kernel
theorem dJ7_fill_d0a16_16 : decode cJ7_fill_d0a16 16 = .ok (.iinc 3 1, 3) := by decide +kernel
theorem dJ7_fill_d0a16_19 : decode cJ7_fill_d0a16 19 = .ok (.goto (-13), 3) := by decide +kernel
theorem dJ7_fill_d0a16_22 : decode cJ7_fill_d0a16 22 = .ok (.return_, 1) := by decide +kernel
theorem dJ7_fill_53178_0 : decode cJ7_fill_53178 0 = .ok (.iconst 0, 1) := by decide +kernel
theorem dJ7_fill_53178_1 : decode cJ7_fill_53178 1 = .ok (.istore_n 2, 1) := by decide +kernel
theorem dJ7_fill_53178_2 : decode cJ7_fill_53178 2 = .ok (.aload_n 0, 1) := by decide +kernel
theorem dJ7_fill_53178_3 : decode cJ7_fill_53178 3 = .ok (.arraylength, 1) := by decide +kernel
theorem dJ7_fill_53178_4 : decode cJ7_fill_53178 4 = .ok (.istore_n 3, 1) := by decide +kernel
theorem dJ7_fill_53178_5 : decode cJ7_fill_53178 5 = .ok (.iload_n 2, 1) := by decide +kernel
theorem dJ7_fill_53178_6 : decode cJ7_fill_53178 6 = .ok (.iload_n 3, 1) := by decide +kernel
theorem dJ7_fill_53178_7 : decode cJ7_fill_53178 7 = .ok (.if_icmp .ge 13, 3) := by decide +kernel
theorem dJ7_fill_53178_10 : decode cJ7_fill_53178 10 = .ok (.aload_n 0, 1) := by decide +kernel
theorem dJ7_fill_53178_11 : decode cJ7_fill_53178 11 = .ok (.iload_n 2, 1) := by decide +kernel
theorem dJ7_fill_53178_12 : decode cJ7_fill_53178 12 = .ok (.iload_n 1, 1) := by decide +kernel
theorem dJ7_fill_53178_13 : decode cJ7_fill_53178 13 = .ok (.iastore, 1) := by decide +kernel
theorem dJ7_fill_53178_14 : decode cJ7_fill_53178 14 = .ok (.iinc 2 1, 3) := by decide +kernel
theorem dJ7_fill_53178_17 : decode cJ7_fill_53178 17 = .ok (.goto (-12), 3) := by decide +kernel
theorem dJ7_fill_53178_20 : decode cJ7_fill_53178 20 = .ok (.return_, 1) := by decide +kernel
theorem dJ6_bitCount_0f7a4_0 : decode cJ6_bitCount_0f7a4 0 = .ok (.iload_n 0, 1) := by decide +kernel
theorem dJ6_bitCount_0f7a4_1 : decode cJ6_bitCount_0f7a4 1 = .ok (.iload_n 0, 1) := by decide +kernel
theorem dJ6_bitCount_0f7a4_2 : decode cJ6_bitCount_0f7a4 2 = .ok (.iconst 1, 1) := by decide +kernel
theorem dJ6_bitCount_0f7a4_3 : decode cJ6_bitCount_0f7a4 3 = .ok (.iushr, 1) := by decide +kernel
theorem dJ6_bitCount_0f7a4_4 : decode cJ6_bitCount_0f7a4 4 = .ok (.ldc_w 265, 3) := by decide +kernel
theorem dJ6_bitCount_0f7a4_7 : decode cJ6_bitCount_0f7a4 7 = .ok (.iand, 1) := by decide +kernel
theorem dJ6_bitCount_0f7a4_8 : decode cJ6_bitCount_0f7a4 8 = .ok (.isub, 1) := by decide +kernel
theorem dJ6_bitCount_0f7a4_9 : decode cJ6_bitCount_0f7a4 9 = .ok (.istore_n 0, 1) := by decide +kernel
theorem dJ6_bitCount_0f7a4_10 : decode cJ6_bitCount_0f7a4 10 = .ok (.iload_n 0, 1) := by decide +kernel
theorem dJ6_bitCount_0f7a4_11 : decode cJ6_bitCount_0f7a4 11 = .ok (.ldc_w 266, 3) := by decide +kernel
theorem dJ6_bitCount_0f7a4_14 : decode cJ6_bitCount_0f7a4 14 = .ok (.iand, 1) := by decide +kernel
theorem dJ6_bitCount_0f7a4_15 : decode cJ6_bitCount_0f7a4 15 = .ok (.iload_n 0, 1) := by decide +kernel
theorem dJ6_bitCount_0f7a4_16 : decode cJ6_bitCount_0f7a4 16 = .ok (.iconst 2, 1) := by decide +kernel
theorem dJ6_bitCount_0f7a4_17 : decode cJ6_bitCount_0f7a4 17 = .ok (.iushr, 1) := by decide +kernel
theorem dJ6_bitCount_0f7a4_18 : decode cJ6_bitCount_0f7a4 18 = .ok (.ldc_w 266, 3) := by decide +kernel
theorem dJ6_bitCount_0f7a4_21 : decode cJ6_bitCount_0f7a4 21 = .ok (.iand, 1) := by decide +kernel
theorem dJ6_bitCount_0f7a4_22 : decode cJ6_bitCount_0f7a4 22 = .ok (.iadd, 1) := by decide +kernel
theorem dJ6_bitCount_0f7a4_23 : decode cJ6_bitCount_0f7a4 23 = .ok (.istore_n 0, 1) := by decide +kernel
theorem dJ6_bitCount_0f7a4_24 : decode cJ6_bitCount_0f7a4 24 = .ok (.iload_n 0, 1) := by decide +kernel
theorem dJ6_bitCount_0f7a4_25 : decode cJ6_bitCount_0f7a4 25 = .ok (.iload_n 0, 1) := by decide +kernel
theorem dJ6_bitCount_0f7a4_26 : decode cJ6_bitCount_0f7a4 26 = .ok (.iconst 4, 1) := by decide +kernel
theorem dJ6_bitCount_0f7a4_27 : decode cJ6_bitCount_0f7a4 27 = .ok (.iushr, 1) := by decide +kernel
theorem dJ6_bitCount_0f7a4_28 : decode cJ6_bitCount_0f7a4 28 = .ok (.iadd, 1) := by decide +kernel
theorem dJ6_bitCount_0f7a4_29 : decode cJ6_bitCount_0f7a4 29 = .ok (.ldc_w 267, 3) := by decide +kernel
theorem dJ6_bitCount_0f7a4_32 : decode cJ6_bitCount_0f7a4 32 = .ok (.iand, 1) := by decide +kernel
theorem dJ6_bitCount_0f7a4_33 : decode cJ6_bitCount_0f7a4 33 = .ok (.istore_n 0, 1) := by decide +kernel
theorem dJ6_bitCount_0f7a4_34 : decode cJ6_bitCount_0f7a4 34 = .ok (.iload_n 0, 1) := by decide +kernel
theorem dJ6_bitCount_0f7a4_35 : decode cJ6_bitCount_0f7a4 35 = .ok (.iload_n 0, 1) := by decide +kernel
theorem dJ6_bitCount_0f7a4_36 : decode cJ6_bitCount_0f7a4 36 = .ok (.bipush 8, 2) := by decide +kernel
theorem dJ6_bitCount_0f7a4_38 : decode cJ6_bitCount_0f7a4 38 = .ok (.iushr, 1) := by decide +kernel
theorem dJ6_bitCount_0f7a4_39 : decode cJ6_bitCount_0f7a4 39 = .ok (.iadd, 1) := by decide +kernel
theorem dJ6_bitCount_0f7a4_40 : decode cJ6_bitCount_0f7a4 40 = .ok (.istore_n 0, 1) := by decide +kernel
theorem dJ6_bitCount_0f7a4_41 : decode cJ6_bitCount_0f7a4 41 = .ok (.iload_n 0, 1) := by decide +kernel
theorem dJ6_bitCount_0f7a4_42 : decode cJ6_bitCount_0f7a4 42 = .ok (.iload_n 0, 1) := by decide +kernel
theorem dJ6_bitCount_0f7a4_43 : decode cJ6_bitCount_0f7a4 43 = .ok (.bipush 16, 2) := by decide +kernel
theorem dJ6_bitCount_0f7a4_45 : decode cJ6_bitCount_0f7a4 45 = .ok (.iushr, 1) := by decide +kernel
theorem dJ6_bitCount_0f7a4_46 : decode cJ6_bitCount_0f7a4 46 = .ok (.iadd, 1) := by decide +kernel
theorem dJ6_bitCount_0f7a4_47 : decode cJ6_bitCount_0f7a4 47 = .ok (.istore_n 0, 1) := by decide +kernel
theorem dJ6_bitCount_0f7a4_48 : decode cJ6_bitCount_0f7a4 48 = .ok (.iload_n 0, 1) := by decide +kernel
theorem dJ6_bitCount_0f7a4_49 : decode cJ6_bitCount_0f7a4 49 = .ok (.bipush 63, 2) := by decide +kernel
theorem dJ6_bitCount_0f7a4_51 : decode cJ6_bitCount_0f7a4 51 = .ok (.iand, 1) := by decide +kernel
theorem dJ6_bitCount_0f7a4_52 : decode cJ6_bitCount_0f7a4 52 = .ok (.ireturn, 1) := by decide +kernel
theorem dX8_doubt_0 : decode cX8_doubt 0 = .ok (.aload_n 0, 1) := by decide +kernel
theorem dX8_doubt_1 : decode cX8_doubt 1 = .ok (.iload_n 1, 1) := by decide +kernel
theorem dX8_doubt_2 : decode cX8_doubt 2 = .ok (.putfield 31, 3) := by decide +kernel
theorem dX8_doubt_5 : decode cX8_doubt 5 = .ok (.aload_n 0, 1) := by decide +kernel
theorem dX8_doubt_6 : decode cX8_doubt 6 = .ok (.iconst 0, 1) := by decide +kernel
theorem dX8_doubt_7 : decode cX8_doubt 7 = .ok (.putfield 44, 3) := by decide +kernel
theorem dX8_doubt_10 : decode cX8_doubt 10 = .ok (.return_, 1) := by decide +kernel
theorem dX9_unsure_0 : decode cX9_unsure 0 = .ok (.iload_n 1, 1) := by decide +kernel
theorem dX9_unsure_1 : decode cX9_unsure 1 = .ok (.aload_n 0, 1) := by decide +kernel
theorem dX9_unsure_2 : decode cX9_unsure 2 = .ok (.getfield 27, 3) := by decide +kernel
theorem dX9_unsure_5 : decode cX9_unsure 5 = .ok (.getfield 144, 3) := by decide +kernel
theorem dX9_unsure_8 : decode cX9_unsure 8 = .ok (.iushr, 1) := by decide +kernel
theorem dX9_unsure_9 : decode cX9_unsure 9 = .ok (.ifCond .ne 12, 3) := by decide +kernel
theorem dX9_unsure_12 : decode cX9_unsure 12 = .ok (.iload_n 1, 1) := by decide +kernel
theorem dX9_unsure_13 : decode cX9_unsure 13 = .ok (.invokestatic 267, 3) := by decide +kernel
theorem dX9_unsure_16 : decode cX9_unsure 16 = .ok (.bipush 6, 2) := by decide +kernel
theorem dX9_unsure_18 : decode cX9_unsure 18 = .ok (.if_icmp .le 5, 3) := by decide +kernel
theorem dX9_unsure_21 : decode cX9_unsure 21 = .ok (.iconst (-1), 1) := by decide +kernel
theorem dX9_unsure_22 : decode cX9_unsure 22 = .ok (.ireturn, 1) := by decide +kernel
theorem dX9_unsure_23 : decode cX9_unsure 23 = .ok (.aload_n 0, 1) := by decide +kernel
theorem dX9_unsure_24 : decode cX9_unsure 24 = .ok (.getfield 95, 3) := by decide +kernel
theorem dX9_unsure_27 : decode cX9_unsure 27 = .ok (.iload_n 1, 1) := by decide +kernel
theorem dX9_unsure_28 : decode cX9_unsure 28 = .ok (.invokevirtual 272, 3) := by decide +kernel
theorem dX9_unsure_31 : decode cX9_unsure 31 = .ok (.iload_n 1, 1) := by decide +kernel
theorem dX9_unsure_32 : decode cX9_unsure 32 = .ok (.invokestatic 267, 3) := by decide +kernel
theorem dX9_unsure_35 : decode cX9_unsure 35 = .ok (.ireturn, 1) := by decide +kernel
theorem dX9_tapeNumber_0 : decode cX9_tapeNumber 0 = .ok (.bipush 24, 2) := by decide +kernel
theorem dX9_tapeNumber_2 : decode cX9_tapeNumber 2 = .ok (.istore_n 2, 1) := by decide +kernel
theorem dX9_tapeNumber_3 : decode cX9_tapeNumber 3 = .ok (.iload_n 2, 1) := by decide +kernel
theorem dX9_tapeNumber_4 : decode cX9_tapeNumber 4 = .ok (.ifCond .lt 45, 3) := by decide +kernel
theorem dX9_tapeNumber_7 : decode cX9_tapeNumber 7 = .ok (.aload_n 0, 1) := by decide +kernel
theorem dX9_tapeNumber_8 : decode cX9_tapeNumber 8 = .ok (.getfield 13, 3) := by decide +kernel
theorem dX9_tapeNumber_11 : decode cX9_tapeNumber 11 = .ok (.sipush 1600, 3) := by decide +kernel
theorem dX9_tapeNumber_14 : decode cX9_tapeNumber 14 = .ok (.if_icmp .ge 35, 3) := by decide +kernel
theorem dX9_tapeNumber_17 : decode cX9_tapeNumber 17 = .ok (.aload_n 0, 1) := by decide +kernel
theorem dX9_tapeNumber_18 : decode cX9_tapeNumber 18 = .ok (.getfield 9, 3) := by decide +kernel
theorem dX9_tapeNumber_21 : decode cX9_tapeNumber 21 = .ok (.aload_n 0, 1) := by decide +kernel
theorem dX9_tapeNumber_22 : decode cX9_tapeNumber 22 = .ok (.getfield 13, 3) := by decide +kernel
theorem dX9_tapeNumber_25 : decode cX9_tapeNumber 25 = .ok (.iload_n 1, 1) := by decide +kernel
theorem dX9_tapeNumber_26 : decode cX9_tapeNumber 26 = .ok (.iload_n 2, 1) := by decide +kernel
theorem dX9_tapeNumber_27 : decode cX9_tapeNumber 27 = .ok (.iushr, 1) := by decide +kernel
theorem dX9_tapeNumber_28 : decode cX9_tapeNumber 28 = .ok (.sipush 255, 3) := by decide +kernel
theorem dX9_tapeNumber_31 : decode cX9_tapeNumber 31 = .ok (.iand, 1) := by decide +kernel
theorem dX9_tapeNumber_32 : decode cX9_tapeNumber 32 = .ok (.iastore, 1) := by decide +kernel
theorem dX9_tapeNumber_33 : decode cX9_tapeNumber 33 = .ok (.aload_n 0, 1) := by decide +kernel
theorem dX9_tapeNumber_34 : decode cX9_tapeNumber 34 = .ok (.dup, 1) := by decide +kernel
theorem dX9_tapeNumber_35 : decode cX9_tapeNumber 35 = .ok (.getfield 13, 3) := by decide +kernel
theorem dX9_tapeNumber_38 : decode cX9_tapeNumber 38 = .ok (.iconst 1, 1) := by decide +kernel
theorem dX9_tapeNumber_39 : decode cX9_tapeNumber 39 = .ok (.iadd, 1) := by decide +kernel
theorem dX9_tapeNumber_40 : decode cX9_tapeNumber 40 = .ok (.putfield 13, 3) := by decide +kernel
theorem dX9_tapeNumber_43 : decode cX9_tapeNumber 43 = .ok (.iinc 2 (-8), 3) := by decide +kernel
theorem dX9_tapeNumber_46 : decode cX9_tapeNumber 46 = .ok (.goto (-43), 3) := by decide +kernel
theorem dX9_tapeNumber_49 : decode cX9_tapeNumber 49 = .ok (.return_, 1) := by decide +kernel
theorem dX9_feed_0 : decode cX9_feed 0 = .ok (.aload_n 0, 1) := by decide +kernel
theorem dX9_feed_1 : decode cX9_feed 1 = .ok (.getfield 13, 3) := by decide +kernel
theorem dX9_feed_4 : decode cX9_feed 4 = .ok (.bipush 20, 2) := by decide +kernel
theorem dX9_feed_6 : decode cX9_feed 6 = .ok (.iadd, 1) := by decide +kernel
theorem dX9_feed_7 : decode cX9_feed 7 = .ok (.sipush 1600, 3) := by decide +kernel
theorem dX9_feed_10 : decode cX9_feed 10 = .ok (.if_icmp .le 5, 3) := by decide +kernel
theorem dX9_feed_13 : decode cX9_feed 13 = .ok (.iconst (-1), 1) := by decide +kernel
theorem dX9_feed_14 : decode cX9_feed 14 = .ok (.ireturn, 1) := by decide +kernel
theorem dX9_feed_15 : decode cX9_feed 15 = .ok (.aload_n 0, 1) := by decide +kernel
theorem dX9_feed_16 : decode cX9_feed 16 = .ok (.iload_n 1, 1) := by decide +kernel
theorem dX9_feed_17 : decode cX9_feed 17 = .ok (.invokevirtual 99, 3) := by decide +kernel
theorem dX9_feed_20 : decode cX9_feed 20 = .ok (.aload_n 0, 1) := by decide +kernel
theorem dX9_feed_21 : decode cX9_feed 21 = .ok (.iload_n 2, 1) := by decide +kernel
theorem dX9_feed_22 : decode cX9_feed 22 = .ok (.invokevirtual 99, 3) := by decide +kernel
theorem dX9_feed_25 : decode cX9_feed 25 = .ok (.aload_n 0, 1) := by decide +kernel
theorem dX9_feed_26 : decode cX9_feed 26 = .ok (.iload_n 3, 1) := by decide +kernel
theorem dX9_feed_27 : decode cX9_feed 27 = .ok (.invokevirtual 99, 3) := by decide +kernel
theorem dX9_feed_30 : decode cX9_feed 30 = .ok (.aload_n 0, 1) := by decide +kernel
theorem dX9_feed_31 : decode cX9_feed 31 = .ok (.iload 4, 2) := by decide +kernel
theorem dX9_feed_33 : decode cX9_feed 33 = .ok (.invokevirtual 99, 3) := by decide +kernel
theorem dX9_feed_36 : decode cX9_feed 36 = .ok (.aload_n 0, 1) := by decide +kernel
theorem dX9_feed_37 : decode cX9_feed 37 = .ok (.iload 5, 2) := by decide +kernel
theorem dX9_feed_39 : decode cX9_feed 39 = .ok (.invokevirtual 99, 3) := by decide +kernel
theorem dX9_feed_42 : decode cX9_feed 42 = .ok (.aload_n 0, 1) := by decide +kernel
theorem dX9_feed_43 : decode cX9_feed 43 = .ok (.getfield 13, 3) := by decide +kernel
theorem dX9_feed_46 : decode cX9_feed 46 = .ok (.ireturn, 1) := by decide +kernel
theorem dX9_image_0 : decode cX9_image 0 = .ok (.iload_n 1, 1) := by decide +kernel
theorem dX9_image_1 : decode cX9_image 1 = .ok (.ifCond .lt 8, 3) := by decide +kernel
theorem dX9_image_4 : decode cX9_image 4 = .ok (.iload_n 1, 1) := by decide +kernel
theorem dX9_image_5 : decode cX9_image 5 = .ok (.iconst 3, 1) := by decide +kernel
theorem dX9_image_6 : decode cX9_image 6 = .ok (.if_icmp .lt 5, 3) := by decide +kernel
theorem dX9_image_9 : decode cX9_image 9 = .ok (.iconst (-1), 1) := by decide +kernel
theorem dX9_image_10 : decode cX9_image 10 = .ok (.ireturn, 1) := by decide +kernel
theorem dX9_image_11 : decode cX9_image 11 = .ok (.aload_n 0, 1) := by decide +kernel
theorem dX9_image_12 : decode cX9_image 12 = .ok (.getfield 47, 3) := by decide +kernel
theorem dX9_image_15 : decode cX9_image 15 = .ok (.iload_n 1, 1) := by decide +kernel
theorem dX9_image_16 : decode cX9_image 16 = .ok (.aload_n 0, 1) := by decide +kernel
theorem dX9_image_17 : decode cX9_image 17 = .ok (.getfield 43, 3) := by decide +kernel
theorem dX9_image_20 : decode cX9_image 20 = .ok (.invokevirtual 151, 3) := by decide +kernel
theorem dX9_image_23 : decode cX9_image 23 = .ok (.lastore, 1) := by decide +kernel
theorem dX9_image_24 : decode cX9_image 24 = .ok (.aload_n 0, 1) := by decide +kernel
theorem dX9_image_25 : decode cX9_image 25 = .ok (.getfield 51, 3) := by decide +kernel
theorem dX9_image_28 : decode cX9_image 28 = .ok (.iload_n 1, 1) := by decide +kernel
theorem dX9_image_29 : decode cX9_image 29 = .ok (.aload_n 0, 1) := by decide +kernel
theorem dX9_image_30 : decode cX9_image 30 = .ok (.getfield 43, 3) := by decide +kernel
theorem dX9_image_33 : decode cX9_image 33 = .ok (.invokevirtual 173, 3) := by decide +kernel
theorem dX9_image_36 : decode cX9_image 36 = .ok (.iastore, 1) := by decide +kernel
theorem dX9_image_37 : decode cX9_image 37 = .ok (.aload_n 0, 1) := by decide +kernel
theorem dX9_image_38 : decode cX9_image 38 = .ok (.getfield 51, 3) := by decide +kernel
theorem dX9_image_41 : decode cX9_image 41 = .ok (.iload_n 1, 1) := by decide +kernel
theorem dX9_image_42 : decode cX9_image 42 = .ok (.iaload, 1) := by decide +kernel
theorem dX9_image_43 : decode cX9_image 43 = .ok (.ireturn, 1) := by decide +kernel
theorem dX9_back_0 : decode cX9_back 0 = .ok (.iload_n 1, 1) := by decide +kernel
theorem dX9_back_1 : decode cX9_back 1 = .ok (.ifCond .lt 18, 3) := by decide +kernel
theorem dX9_back_4 : decode cX9_back 4 = .ok (.iload_n 1, 1) := by decide +kernel
theorem dX9_back_5 : decode cX9_back 5 = .ok (.iconst 3, 1) := by decide +kernel
theorem dX9_back_6 : decode cX9_back 6 = .ok (.if_icmp .ge 13, 3) := by decide +kernel
theorem dX9_back_9 : decode cX9_back 9 = .ok (.aload_n 0, 1) := by decide +kernel
theorem dX9_back_10 : decode cX9_back 10 = .ok (.getfield 51, 3) := by decide +kernel
theorem dX9_back_13 : decode cX9_back 13 = .ok (.iload_n 1, 1) := by decide +kernel
theorem dX9_back_14 : decode cX9_back 14 = .ok (.iaload, 1) := by decide +kernel
theorem dX9_back_15 : decode cX9_back 15 = .ok (.iconst (-1), 1) := by decide +kernel
theorem dX9_back_16 : decode cX9_back 16 = .ok (.if_icmp .ne 5, 3) := by decide +kernel
theorem dX9_back_19 : decode cX9_back 19 = .ok (.iconst (-1), 1) := by decide +kernel
theorem dX9_back_20 : decode cX9_back 20 = .ok (.ireturn, 1) := by decide +kernel
theorem dX9_back_21 : decode cX9_back 21 = .ok (.aload_n 0, 1) := by decide +kernel
theorem dX9_back_22 : decode cX9_back 22 = .ok (.getfield 43, 3) := by decide +kernel
theorem dX9_back_25 : decode cX9_back 25 = .ok (.aload_n 0, 1) := by decide +kernel
theorem dX9_back_26 : decode cX9_back 26 = .ok (.getfield 47, 3) := by decide +kernel
theorem dX9_back_29 : decode cX9_back 29 = .ok (.iload_n 1, 1) := by decide +kernel
theorem dX9_back_30 : decode cX9_back 30 = .ok (.laload, 1) := by decide +kernel
theorem dX9_back_31 : decode cX9_back 31 = .ok (.aload_n 0, 1) := by decide +kernel
theorem dX9_back_32 : decode cX9_back 32 = .ok (.getfield 51, 3) := by decide +kernel
theorem dX9_back_35 : decode cX9_back 35 = .ok (.iload_n 1, 1) := by decide +kernel
theorem dX9_back_36 : decode cX9_back 36 = .ok (.iaload, 1) := by decide +kernel
theorem dX9_back_37 : decode cX9_back 37 = .ok (.invokevirtual 128, 3) := by decide +kernel
theorem dX9_back_40 : decode cX9_back 40 = .ok (.aload_n 0, 1) := by decide +kernel
theorem dX9_back_41 : decode cX9_back 41 = .ok (.getfield 51, 3) := by decide +kernel
theorem dX9_back_44 : decode cX9_back 44 = .ok (.iload_n 1, 1) := by decide +kernel
theorem dX9_back_45 : decode cX9_back 45 = .ok (.iaload, 1) := by decide +kernel
theorem dX9_back_46 : decode cX9_back 46 = .ok (.ireturn, 1) := by decide +kernel
theorem dX3_actsDone_0 : decode cX3_actsDone 0 = .ok (.aload_n 0, 1) := by decide +kernel
theorem dX3_actsDone_1 : decode cX3_actsDone 1 = .ok (.getfield 19, 3) := by decide +kernel
theorem dX3_actsDone_4 : decode cX3_actsDone 4 = .ok (.ireturn, 1) := by decide +kernel
theorem dX3_actsTakenBack_0 : decode cX3_actsTakenBack 0 = .ok (.aload_n 0, 1) := by decide +kernel
theorem dX3_actsTakenBack_1 : decode cX3_actsTakenBack 1 = .ok (.getfield 23, 3) := by decide +kernel
theorem dX3_actsTakenBack_4 : decode cX3_actsTakenBack 4 = .ok (.aload_n 0, 1) := by decide +kernel
theorem dX3_actsTakenBack_5 : decode cX3_actsTakenBack 5 = .ok (.getfield 19, 3) := by decide +kernel
theorem dX3_actsTakenBack_8 : decode cX3_actsTakenBack 8 = .ok (.isub, 1) := by decide +kernel
theorem dX3_actsTakenBack_9 : decode cX3_actsTakenBack 9 = .ok (.ireturn, 1) := by decide +kernel
theorem dX6_size_0 : decode cX6_size 0 = .ok (.aload_n 0, 1) := by decide +kernel
theorem dX6_size_1 : decode cX6_size 1 = .ok (.getfield 15, 3) := by decide +kernel
theorem dX6_size_4 : decode cX6_size 4 = .ok (.ireturn, 1) := by decide +kernel
theorem dX8_sights_0 : decode cX8_sights 0 = .ok (.aload_n 0, 1) := by decide +kernel
theorem dX8_sights_1 : decode cX8_sights 1 = .ok (.getfield 27, 3) := by decide +kernel
theorem dX8_sights_4 : decode cX8_sights 4 = .ok (.ireturn, 1) := by decide +kernel
theorem dX8_doubted_0 : decode cX8_doubted 0 = .ok (.aload_n 0, 1) := by decide +kernel
theorem dX8_doubted_1 : decode cX8_doubted 1 = .ok (.getfield 31, 3) := by decide +kernel
theorem dX8_doubted_4 : decode cX8_doubted 4 = .ok (.ireturn, 1) := by decide +kernel
theorem dX9_about_0 : decode cX9_about 0 = .ok (.iload_n 1, 1) := by decide +kernel
theorem dX9_about_1 : decode cX9_about 1 = .ok (.tableswitch 173 0 12 #[67, 75, 83, 91, 99, 107, 115, 123, 128, 133, 141, 157, 165], 67) := by decide +kernel
theorem dX9_about_68 : decode cX9_about 68 = .ok (.aload_n 0, 1) := by decide +kernel
theorem dX9_about_69 : decode cX9_about 69 = .ok (.getfield 27, 3) := by decide +kernel
theorem dX9_about_72 : decode cX9_about 72 = .ok (.getfield 144, 3) := by decide +kernel
theorem dX9_about_75 : decode cX9_about 75 = .ok (.ireturn, 1) := by decide +kernel
theorem dX9_about_76 : decode cX9_about 76 = .ok (.aload_n 0, 1) := by decide +kernel
theorem dX9_about_77 : decode cX9_about 77 = .ok (.getfield 27, 3) := by decide +kernel
theorem dX9_about_80 : decode cX9_about 80 = .ok (.getfield 285, 3) := by decide +kernel
theorem dX9_about_83 : decode cX9_about 83 = .ok (.ireturn, 1) := by decide +kernel
theorem dX9_about_84 : decode cX9_about 84 = .ok (.aload_n 0, 1) := by decide +kernel
theorem dX9_about_85 : decode cX9_about 85 = .ok (.getfield 27, 3) := by decide +kernel
theorem dX9_about_88 : decode cX9_about 88 = .ok (.getfield 297, 3) := by decide +kernel
theorem dX9_about_91 : decode cX9_about 91 = .ok (.ireturn, 1) := by decide +kernel
theorem dX9_about_92 : decode cX9_about 92 = .ok (.aload_n 0, 1) := by decide +kernel
theorem dX9_about_93 : decode cX9_about 93 = .ok (.getfield 43, 3) := by decide +kernel
theorem dX9_about_96 : decode cX9_about 96 = .ok (.invokevirtual 173, 3) := by decide +kernel
theorem dX9_about_99 : decode cX9_about 99 = .ok (.ireturn, 1) := by decide +kernel
theorem dX9_about_100 : decode cX9_about 100 = .ok (.aload_n 0, 1) := by decide +kernel
theorem dX9_about_101 : decode cX9_about 101 = .ok (.getfield 43, 3) := by decide +kernel
theorem dX9_about_104 : decode cX9_about 104 = .ok (.invokevirtual 300, 3) := by decide +kernel
theorem dX9_about_107 : decode cX9_about 107 = .ok (.ireturn, 1) := by decide +kernel
theorem dX9_about_108 : decode cX9_about 108 = .ok (.aload_n 0, 1) := by decide +kernel
theorem dX9_about_109 : decode cX9_about 109 = .ok (.getfield 43, 3) := by decide +kernel
theorem dX9_about_112 : decode cX9_about 112 = .ok (.invokevirtual 303, 3) := by decide +kernel
theorem dX9_about_115 : decode cX9_about 115 = .ok (.ireturn, 1) := by decide +kernel
theorem dX9_about_116 : decode cX9_about 116 = .ok (.aload_n 0, 1) := by decide +kernel
theorem dX9_about_117 : decode cX9_about 117 = .ok (.getfield 95, 3) := by decide +kernel
theorem dX9_about_120 : decode cX9_about 120 = .ok (.invokevirtual 306, 3) := by decide +kernel
theorem dX9_about_123 : decode cX9_about 123 = .ok (.ireturn, 1) := by decide +kernel
theorem dX9_about_124 : decode cX9_about 124 = .ok (.aload_n 0, 1) := by decide +kernel
theorem dX9_about_125 : decode cX9_about 125 = .ok (.getfield 61, 3) := by decide +kernel
theorem dX9_about_128 : decode cX9_about 128 = .ok (.ireturn, 1) := by decide +kernel
theorem dX9_about_129 : decode cX9_about 129 = .ok (.aload_n 0, 1) := by decide +kernel
theorem dX9_about_130 : decode cX9_about 130 = .ok (.getfield 13, 3) := by decide +kernel
theorem dX9_about_133 : decode cX9_about 133 = .ok (.ireturn, 1) := by decide +kernel
theorem dX9_about_134 : decode cX9_about 134 = .ok (.aload_n 0, 1) := by decide +kernel
theorem dX9_about_135 : decode cX9_about 135 = .ok (.getfield 27, 3) := by decide +kernel
theorem dX9_about_138 : decode cX9_about 138 = .ok (.getfield 309, 3) := by decide +kernel
theorem dX9_about_141 : decode cX9_about 141 = .ok (.ireturn, 1) := by decide +kernel
theorem dX9_about_142 : decode cX9_about 142 = .ok (.aload_n 0, 1) := by decide +kernel
theorem dX9_about_143 : decode cX9_about 143 = .ok (.getfield 27, 3) := by decide +kernel
theorem dX9_about_146 : decode cX9_about 146 = .ok (.getfield 312, 3) := by decide +kernel
theorem dX9_about_149 : decode cX9_about 149 = .ok (.ifCond .eq 7, 3) := by decide +kernel
theorem dX9_about_152 : decode cX9_about 152 = .ok (.iconst 1, 1) := by decide +kernel
theorem dX9_about_153 : decode cX9_about 153 = .ok (.goto 4, 3) := by decide +kernel
theorem dX9_about_156 : decode cX9_about 156 = .ok (.iconst 0, 1) := by decide +kernel
theorem dX9_about_157 : decode cX9_about 157 = .ok (.ireturn, 1) := by decide +kernel
theorem dX9_about_158 : decode cX9_about 158 = .ok (.aload_n 0, 1) := by decide +kernel
theorem dX9_about_159 : decode cX9_about 159 = .ok (.getfield 57, 3) := by decide +kernel
theorem dX9_about_162 : decode cX9_about 162 = .ok (.invokevirtual 316, 3) := by decide +kernel
theorem dX9_about_165 : decode cX9_about 165 = .ok (.ireturn, 1) := by decide +kernel
theorem dX9_about_166 : decode cX9_about 166 = .ok (.aload_n 0, 1) := by decide +kernel
theorem dX9_about_167 : decode cX9_about 167 = .ok (.getfield 95, 3) := by decide +kernel
theorem dX9_about_170 : decode cX9_about 170 = .ok (.invokevirtual 319, 3) := by decide +kernel
theorem dX9_about_173 : decode cX9_about 173 = .ok (.ireturn, 1) := by decide +kernel
theorem dX9_about_174 : decode cX9_about 174 = .ok (.iconst (-1), 1) := by decide +kernel
theorem dX9_about_175 : decode cX9_about 175 = .ok (.ireturn, 1) := by decide +kernel
theorem mw_constant_RJ6_265_1431655765 : (.constant RJ6 265 (1431655765) : Cond) ∈ BIG := big_tab (List.mem_of_getElem? (i := 1169) (by decide +kernel)) rfl
theorem mw_constant_RJ6_266_858993459 : (.constant RJ6 266 (858993459) : Cond) ∈ BIG := big_tab (List.mem_of_getElem? (i := 1170) (by decide +kernel)) rfl
theorem mw_constant_RJ6_267_252645135 : (.constant RJ6 267 (252645135) : Cond) ∈ BIG := big_tab (List.mem_of_getElem? (i := 1171) (by decide +kernel)) rfl
set_option maxHeartbeats 4000000 in
set_option maxRecDepth 100000 in
theorem k_J7_fill_d0a16 (l : Launch) (D : va_G) (cyB cyI cyJ cyZ : ClassId) (sz : Nat) (a : Nat) (v : Int64) (f : Nat → Int64) : KV l yJ7_fill_d0a16 cJ7_fill_d0a16 5 0 0 0 D (TYS cyB cyI cyJ cyZ) [(a, .inl (cyJ, 31, .inr (.inl f)))] sz [.ref a, .long v] (fun (u : (Nat → Int64)) => ∀ j, j < 31 → u j = v) (fun (u : (Nat → Int64)) => ([(a, .inl (cyJ, 31, .inr (.inl u)))] : va_W)) := by
  refine entV (by decide) (Nat.le_of_ble_eq_true rfl) ?_
  intro p e s m below meth c ls A hC hl hP hK hD hA
  obtain ⟨hx, hb, hr, hml, hown, hts, hlk, hnm⟩ := id hC
  have hS : va_S A s.heap s.heap [] := va_S.rf
  have hl : lv_has ls 5 [(0, .ref a), (1, .long v)] := hl
  generalize hHe : s.heap = H at hP ⊢
  rw [hHe] at hS
  have hS : va_S A s.heap H [] := by rw [hHe]; exact hS
  refine lv_iconst (v := 0) hx hb dJ7_fill_d0a16_0 (by decide) ?_
  refine lv_istore_n (lv' := [(3, .int 0), (0, .ref a), (1, .long v)]) hx hb dJ7_fill_d0a16_1 rfl hl (by decide) rfl (fun ls hl => ?_)
  refine lv_aload_n hx hb dJ7_fill_d0a16_2 rfl (lv_at hl 1 rfl) ?_
  refine va_alen (v := 31) hx hb hK hP 0 2 rfl rfl rfl dJ7_fill_d0a16_3 ?_
  refine lv_istore (lv' := [(4, .int 31), (3, .int 0), (0, .ref a), (1, .long v)]) hx hb dJ7_fill_d0a16_4 hl (by decide) rfl (fun ls hl => ?_)
  have lp : ∀ (n i : Nat) (g0 : Nat → Int64) (H : Heap) (locs : List Loc) (ls : Array Slot), i + n = 31 → (∀ j, j < i → g0 j = v) → lv_has ls 5 [(4, .int 31), (3, .int (nI i)), (0, .ref a), (1, .long v)] → va_P D classes [(a, .inl (cyJ, 31, .inr (.inl g0)))] H → va_D A [(a, .inl (cyJ, 31, .inr (.inl g0)))] → va_S A s.heap H locs → W p l e (rmK 0 0 0) s m ([.ref a, .long v] : List Value).toArray below meth c H locs 0 0 (MQ below (va_Qv (fun (u : (Nat → Int64)) => ∀ j, j < 31 → u j = v) (fun u => Aft D A ((fun (u : (Nat → Int64)) => ([(a, .inl (cyJ, 31, .inr (.inl u)))] : va_W)) u)) A) ([.ref a, .long v] : List Value).toArray s 0 0 A) (F0 m 6 ls []) := by
    intro n
    induction n with
    | zero =>
      intro i g0 H locs ls hi hinv hl hP hD hS
      obtain rfl : i = 31 := by omega
      refine lv_iload_n hx hb dJ7_fill_d0a16_6 rfl (lv_at hl 1 rfl) ?_
      refine lv_iload hx hb dJ7_fill_d0a16_7 (lv_at hl 0 rfl) ?_
      refine lv_icmp_ge (tgt := 22) hx hb dJ7_fill_d0a16_9 (by decide) (fun c_1 => ?_) (fun c_1 => absurd (by decide) c_1)
      exact retV hC hP hD hS (by decide) (by decide) g0 [0] rfl rfl hinv dJ7_fill_d0a16_22
    | succ n ih =>
      intro i g0 H locs ls hi hinv hl hP hD hS
      have hlt : i < 31 := by omega
      refine lv_iload_n hx hb dJ7_fill_d0a16_6 rfl (lv_at hl 1 rfl) ?_
      refine lv_iload hx hb dJ7_fill_d0a16_7 (lv_at hl 0 rfl) ?_
      refine lv_icmp_ge (tgt := 22) hx hb dJ7_fill_d0a16_9 (by decide) (fun c_2 => absurd c_2 (nI_ge (b := 31) hlt (by decide))) (fun c_2 => ?_)
      refine lv_aload_n hx hb dJ7_fill_d0a16_12 rfl (lv_at hl 2 rfl) ?_
      refine lv_iload_n hx hb dJ7_fill_d0a16_13 rfl (lv_at hl 1 rfl) ?_
      refine lv_lload_n hx hb dJ7_fill_d0a16_14 rfl (lv_at hl 3 rfl) ?_
      refine va_last hx hb hK hP hD hS 0 2 rfl rfl (vp_in_nI (by omega) (by decide)) dJ7_fill_d0a16_15 (fun H locs hP hD hS => ?_)
      obtain ⟨f_3, ef_3⟩ : ∃ g : Nat → Int64, g = vp_updL g0 (((nI i) : Int32).toNatClampNeg) v := ⟨_, rfl⟩
      rw [← ef_3] at hP hD
      have hP : va_P D classes [(a, .inl (cyJ, 31, .inr (.inl f_3)))] H := hP
      have hD : va_D A [(a, .inl (cyJ, 31, .inr (.inl f_3)))] := hD
      refine lv_iinc (v := (nI (i + 1))) (lv' := [(3, .int (nI (i + 1))), (4, .int 31), (0, .ref a), (1, .long v)]) hx hb dJ7_fill_d0a16_16 hl (k := 1) rfl (nI_1 _) (by decide) rfl (fun ls hl => ?_)
      refine lv_goto (tgt := 6) hx hb dJ7_fill_d0a16_19 (by decide) ?_
      exact ih (i + 1) f_3 _ _ _ (by omega) (by rw [ef_3, nI_clamp (by omega)]; exact fill_sL hinv) (lv_sub hl [1, 0, 2, 3] rfl) hP hD hS
  exact lp 31 0 f _ _ _ (by decide) (fun j hj => absurd hj (Nat.not_lt_zero j)) hl hP hD hS
set_option maxHeartbeats 4000000 in
set_option maxRecDepth 100000 in
theorem k_J7_fill_30 (l : Launch) (D : va_G) (cyB cyI cyJ cyZ : ClassId) (sz : Nat) (a : Nat) (v : Int32) (f : Nat → Int32) : KV l yJ7_fill_53178 cJ7_fill_53178 4 0 0 0 D (TYS cyB cyI cyJ cyZ) [(a, .inl (cyI, 30, .inl f))] sz [.ref a, .int v] (fun (u : (Nat → Int32)) => True) (fun (u : (Nat → Int32)) => ([(a, .inl (cyI, 30, .inl u))] : va_W)) := by
  refine entV (by decide) (Nat.le_of_ble_eq_true rfl) ?_
  intro p e s m below meth c ls A hC hl hP hK hD hA
  obtain ⟨hx, hb, hr, hml, hown, hts, hlk, hnm⟩ := id hC
  have hS : va_S A s.heap s.heap [] := va_S.rf
  have hl : lv_has ls 4 [(0, .ref a), (1, .int v)] := hl
  generalize hHe : s.heap = H at hP ⊢
  rw [hHe] at hS
  have hS : va_S A s.heap H [] := by rw [hHe]; exact hS
  refine lv_iconst (v := 0) hx hb dJ7_fill_53178_0 (by decide) ?_
  refine lv_istore_n (lv' := [(2, .int 0), (0, .ref a), (1, .int v)]) hx hb dJ7_fill_53178_1 rfl hl (by decide) rfl (fun ls hl => ?_)
  refine lv_aload_n hx hb dJ7_fill_53178_2 rfl (lv_at hl 1 rfl) ?_
  refine va_alen (v := 30) hx hb hK hP 0 1 rfl rfl rfl dJ7_fill_53178_3 ?_
  refine lv_istore_n (lv' := [(3, .int 30), (2, .int 0), (0, .ref a), (1, .int v)]) hx hb dJ7_fill_53178_4 rfl hl (by decide) rfl (fun ls hl => ?_)
  have lp : ∀ (n i : Nat) (g0 : Nat → Int32) (H : Heap) (locs : List Loc) (ls : Array Slot), i + n = 30 → lv_has ls 4 [(3, .int 30), (2, .int (nI i)), (0, .ref a), (1, .int v)] → va_P D classes [(a, .inl (cyI, 30, .inl g0))] H → va_D A [(a, .inl (cyI, 30, .inl g0))] → va_S A s.heap H locs → W p l e (rmK 0 0 0) s m ([.ref a, .int v] : List Value).toArray below meth c H locs 0 0 (MQ below (va_Qv (fun (u : (Nat → Int32)) => True) (fun u => Aft D A ((fun (u : (Nat → Int32)) => ([(a, .inl (cyI, 30, .inl u))] : va_W)) u)) A) ([.ref a, .int v] : List Value).toArray s 0 0 A) (F0 m 5 ls []) := by
    intro n
    induction n with
    | zero =>
      intro i g0 H locs ls hi hl hP hD hS
      obtain rfl : i = 30 := by omega
      refine lv_iload_n hx hb dJ7_fill_53178_5 rfl (lv_at hl 1 rfl) ?_
      refine lv_iload_n hx hb dJ7_fill_53178_6 rfl (lv_at hl 0 rfl) ?_
      refine lv_icmp_ge (tgt := 20) hx hb dJ7_fill_53178_7 (by decide) (fun c_1 => ?_) (fun c_1 => absurd (by decide) c_1)
      exact retV hC hP hD hS (by decide) (by decide) g0 [0] rfl rfl trivial dJ7_fill_53178_20
    | succ n ih =>
      intro i g0 H locs ls hi hl hP hD hS
      have hlt : i < 30 := by omega
      refine lv_iload_n hx hb dJ7_fill_53178_5 rfl (lv_at hl 1 rfl) ?_
      refine lv_iload_n hx hb dJ7_fill_53178_6 rfl (lv_at hl 0 rfl) ?_
      refine lv_icmp_ge (tgt := 20) hx hb dJ7_fill_53178_7 (by decide) (fun c_2 => absurd c_2 (nI_ge (b := 30) hlt (by decide))) (fun c_2 => ?_)
      refine lv_aload_n hx hb dJ7_fill_53178_10 rfl (lv_at hl 2 rfl) ?_
      refine lv_iload_n hx hb dJ7_fill_53178_11 rfl (lv_at hl 1 rfl) ?_
      refine lv_iload_n hx hb dJ7_fill_53178_12 rfl (lv_at hl 3 rfl) ?_
      refine va_iast hx hb hK hP hD hS 0 1 rfl rfl (vp_in_nI (by omega) (by decide)) dJ7_fill_53178_13 (fun H locs hP hD hS => ?_)
      obtain ⟨f_3, ef_3⟩ : ∃ g : Nat → Int32, g = upd g0 (((nI i) : Int32).toNatClampNeg) v := ⟨_, rfl⟩
      rw [← ef_3] at hP hD
      have hP : va_P D classes [(a, .inl (cyI, 30, .inl f_3))] H := hP
      have hD : va_D A [(a, .inl (cyI, 30, .inl f_3))] := hD
      refine lv_iinc (v := (nI (i + 1))) (lv' := [(2, .int (nI (i + 1))), (3, .int 30), (0, .ref a), (1, .int v)]) hx hb dJ7_fill_53178_14 hl (k := 1) rfl (nI_1 _) (by decide) rfl (fun ls hl => ?_)
      refine lv_goto (tgt := 5) hx hb dJ7_fill_53178_17 (by decide) ?_
      exact ih (i + 1) f_3 _ _ _ (by omega) (lv_sub hl [1, 0, 2, 3] rfl) hP hD hS
  exact lp 30 0 f _ _ _ (by decide) hl hP hD hS
set_option maxHeartbeats 4000000 in
set_option maxRecDepth 100000 in
theorem k_J7_fill_3 (l : Launch) (D : va_G) (cyB cyI cyJ cyZ : ClassId) (sz : Nat) (a : Nat) (v : Int32) (f : Nat → Int32) : KV l yJ7_fill_53178 cJ7_fill_53178 4 0 0 0 D (TYS cyB cyI cyJ cyZ) [(a, .inl (cyI, 3, .inl f))] sz [.ref a, .int v] (fun (u : (Nat → Int32)) => True) (fun (u : (Nat → Int32)) => ([(a, .inl (cyI, 3, .inl u))] : va_W)) := by
  refine entV (by decide) (Nat.le_of_ble_eq_true rfl) ?_
  intro p e s m below meth c ls A hC hl hP hK hD hA
  obtain ⟨hx, hb, hr, hml, hown, hts, hlk, hnm⟩ := id hC
  have hS : va_S A s.heap s.heap [] := va_S.rf
  have hl : lv_has ls 4 [(0, .ref a), (1, .int v)] := hl
  generalize hHe : s.heap = H at hP ⊢
  rw [hHe] at hS
  have hS : va_S A s.heap H [] := by rw [hHe]; exact hS
  refine lv_iconst (v := 0) hx hb dJ7_fill_53178_0 (by decide) ?_
  refine lv_istore_n (lv' := [(2, .int 0), (0, .ref a), (1, .int v)]) hx hb dJ7_fill_53178_1 rfl hl (by decide) rfl (fun ls hl => ?_)
  refine lv_aload_n hx hb dJ7_fill_53178_2 rfl (lv_at hl 1 rfl) ?_
  refine va_alen (v := 3) hx hb hK hP 0 1 rfl rfl rfl dJ7_fill_53178_3 ?_
  refine lv_istore_n (lv' := [(3, .int 3), (2, .int 0), (0, .ref a), (1, .int v)]) hx hb dJ7_fill_53178_4 rfl hl (by decide) rfl (fun ls hl => ?_)
  have lp : ∀ (n i : Nat) (g0 : Nat → Int32) (H : Heap) (locs : List Loc) (ls : Array Slot), i + n = 3 → lv_has ls 4 [(3, .int 3), (2, .int (nI i)), (0, .ref a), (1, .int v)] → va_P D classes [(a, .inl (cyI, 3, .inl g0))] H → va_D A [(a, .inl (cyI, 3, .inl g0))] → va_S A s.heap H locs → W p l e (rmK 0 0 0) s m ([.ref a, .int v] : List Value).toArray below meth c H locs 0 0 (MQ below (va_Qv (fun (u : (Nat → Int32)) => True) (fun u => Aft D A ((fun (u : (Nat → Int32)) => ([(a, .inl (cyI, 3, .inl u))] : va_W)) u)) A) ([.ref a, .int v] : List Value).toArray s 0 0 A) (F0 m 5 ls []) := by
    intro n
    induction n with
    | zero =>
      intro i g0 H locs ls hi hl hP hD hS
      obtain rfl : i = 3 := by omega
      refine lv_iload_n hx hb dJ7_fill_53178_5 rfl (lv_at hl 1 rfl) ?_
      refine lv_iload_n hx hb dJ7_fill_53178_6 rfl (lv_at hl 0 rfl) ?_
      refine lv_icmp_ge (tgt := 20) hx hb dJ7_fill_53178_7 (by decide) (fun c_1 => ?_) (fun c_1 => absurd (by decide) c_1)
      exact retV hC hP hD hS (by decide) (by decide) g0 [0] rfl rfl trivial dJ7_fill_53178_20
    | succ n ih =>
      intro i g0 H locs ls hi hl hP hD hS
      have hlt : i < 3 := by omega
      refine lv_iload_n hx hb dJ7_fill_53178_5 rfl (lv_at hl 1 rfl) ?_
      refine lv_iload_n hx hb dJ7_fill_53178_6 rfl (lv_at hl 0 rfl) ?_
      refine lv_icmp_ge (tgt := 20) hx hb dJ7_fill_53178_7 (by decide) (fun c_2 => absurd c_2 (nI_ge (b := 3) hlt (by decide))) (fun c_2 => ?_)
      refine lv_aload_n hx hb dJ7_fill_53178_10 rfl (lv_at hl 2 rfl) ?_
      refine lv_iload_n hx hb dJ7_fill_53178_11 rfl (lv_at hl 1 rfl) ?_
      refine lv_iload_n hx hb dJ7_fill_53178_12 rfl (lv_at hl 3 rfl) ?_
      refine va_iast hx hb hK hP hD hS 0 1 rfl rfl (vp_in_nI (by omega) (by decide)) dJ7_fill_53178_13 (fun H locs hP hD hS => ?_)
      obtain ⟨f_3, ef_3⟩ : ∃ g : Nat → Int32, g = upd g0 (((nI i) : Int32).toNatClampNeg) v := ⟨_, rfl⟩
      rw [← ef_3] at hP hD
      have hP : va_P D classes [(a, .inl (cyI, 3, .inl f_3))] H := hP
      have hD : va_D A [(a, .inl (cyI, 3, .inl f_3))] := hD
      refine lv_iinc (v := (nI (i + 1))) (lv' := [(2, .int (nI (i + 1))), (3, .int 3), (0, .ref a), (1, .int v)]) hx hb dJ7_fill_53178_14 hl (k := 1) rfl (nI_1 _) (by decide) rfl (fun ls hl => ?_)
      refine lv_goto (tgt := 5) hx hb dJ7_fill_53178_17 (by decide) ?_
      exact ih (i + 1) f_3 _ _ _ (by omega) (lv_sub hl [1, 0, 2, 3] rfl) hP hD hS
  exact lp 3 0 f _ _ _ (by decide) hl hP hD hS
set_option maxHeartbeats 4000000 in
set_option maxRecDepth 100000 in
theorem k_J6_bitCount_0f7a4 (l : Launch) (D : va_G) (cyB cyI cyJ cyZ : ClassId) (sz : Nat)  : KI l yJ6_bitCount_0f7a4 cJ6_bitCount_0f7a4 1 .int 0 0 0 D (TYS cyB cyI cyJ cyZ) [] sz [.int 0] (fun (r : Int32) (u : Unit) => r = 0) (fun (u : Unit) => ([] : va_W)) := by
  refine entI (by decide) (Nat.le_of_ble_eq_true rfl) ?_
  intro p e s m below meth c ls A hC hl hP hK hD hA
  obtain ⟨hx, hb, hr, hml, hown, hts, hlk, hnm⟩ := id hC
  have hS : va_S A s.heap s.heap [] := va_S.rf
  have hl : lv_has ls 1 [(0, .int 0)] := hl
  generalize hHe : s.heap = H at hP ⊢
  rw [hHe] at hS
  have hS : va_S A s.heap H [] := by rw [hHe]; exact hS
  refine lv_iload_n hx hb dJ6_bitCount_0f7a4_0 rfl (lv_at hl 0 rfl) ?_
  refine lv_iload_n hx hb dJ6_bitCount_0f7a4_1 rfl (lv_at hl 0 rfl) ?_
  refine lv_iconst (v := 1) hx hb dJ6_bitCount_0f7a4_2 (by decide) ?_
  refine lv_iushr (v := 0) hx hb dJ6_bitCount_0f7a4_3 (by decide) ?_
  refine lv_ldcw (v := 1431655765) hx hb hown (hts _ mw_constant_RJ6_265_1431655765) dJ6_bitCount_0f7a4_4 ?_
  refine lv_iand hx hb dJ6_bitCount_0f7a4_7 ?_
  refine lv_cst (v := 0) (by decide) ?_
  refine lv_isub hx hb dJ6_bitCount_0f7a4_8 ?_
  refine lv_cst (v := 0) (by decide) ?_
  refine lv_istore_n (lv' := [(0, .int 0)]) hx hb dJ6_bitCount_0f7a4_9 rfl hl (by decide) rfl (fun ls hl => ?_)
  refine lv_iload_n hx hb dJ6_bitCount_0f7a4_10 rfl (lv_at hl 0 rfl) ?_
  refine lv_ldcw (v := 858993459) hx hb hown (hts _ mw_constant_RJ6_266_858993459) dJ6_bitCount_0f7a4_11 ?_
  refine lv_iand hx hb dJ6_bitCount_0f7a4_14 ?_
  refine lv_cst (v := 0) (by decide) ?_
  refine lv_iload_n hx hb dJ6_bitCount_0f7a4_15 rfl (lv_at hl 0 rfl) ?_
  refine lv_iconst (v := 2) hx hb dJ6_bitCount_0f7a4_16 (by decide) ?_
  refine lv_iushr (v := 0) hx hb dJ6_bitCount_0f7a4_17 (by decide) ?_
  refine lv_ldcw (v := 858993459) hx hb hown (hts _ mw_constant_RJ6_266_858993459) dJ6_bitCount_0f7a4_18 ?_
  refine lv_iand hx hb dJ6_bitCount_0f7a4_21 ?_
  refine lv_cst (v := 0) (by decide) ?_
  refine lv_iadd hx hb dJ6_bitCount_0f7a4_22 ?_
  refine lv_cst (v := 0) (by decide) ?_
  refine lv_istore_n (lv' := [(0, .int 0)]) hx hb dJ6_bitCount_0f7a4_23 rfl hl (by decide) rfl (fun ls hl => ?_)
  refine lv_iload_n hx hb dJ6_bitCount_0f7a4_24 rfl (lv_at hl 0 rfl) ?_
  refine lv_iload_n hx hb dJ6_bitCount_0f7a4_25 rfl (lv_at hl 0 rfl) ?_
  refine lv_iconst (v := 4) hx hb dJ6_bitCount_0f7a4_26 (by decide) ?_
  refine lv_iushr (v := 0) hx hb dJ6_bitCount_0f7a4_27 (by decide) ?_
  refine lv_iadd hx hb dJ6_bitCount_0f7a4_28 ?_
  refine lv_cst (v := 0) (by decide) ?_
  refine lv_ldcw (v := 252645135) hx hb hown (hts _ mw_constant_RJ6_267_252645135) dJ6_bitCount_0f7a4_29 ?_
  refine lv_iand hx hb dJ6_bitCount_0f7a4_32 ?_
  refine lv_cst (v := 0) (by decide) ?_
  refine lv_istore_n (lv' := [(0, .int 0)]) hx hb dJ6_bitCount_0f7a4_33 rfl hl (by decide) rfl (fun ls hl => ?_)
  refine lv_iload_n hx hb dJ6_bitCount_0f7a4_34 rfl (lv_at hl 0 rfl) ?_
  refine lv_iload_n hx hb dJ6_bitCount_0f7a4_35 rfl (lv_at hl 0 rfl) ?_
  refine lv_bipush (v := 8) hx hb dJ6_bitCount_0f7a4_36 (by decide) ?_
  refine lv_iushr (v := 0) hx hb dJ6_bitCount_0f7a4_38 (by decide) ?_
  refine lv_iadd hx hb dJ6_bitCount_0f7a4_39 ?_
  refine lv_cst (v := 0) (by decide) ?_
  refine lv_istore_n (lv' := [(0, .int 0)]) hx hb dJ6_bitCount_0f7a4_40 rfl hl (by decide) rfl (fun ls hl => ?_)
  refine lv_iload_n hx hb dJ6_bitCount_0f7a4_41 rfl (lv_at hl 0 rfl) ?_
  refine lv_iload_n hx hb dJ6_bitCount_0f7a4_42 rfl (lv_at hl 0 rfl) ?_
  refine lv_bipush (v := 16) hx hb dJ6_bitCount_0f7a4_43 (by decide) ?_
  refine lv_iushr (v := 0) hx hb dJ6_bitCount_0f7a4_45 (by decide) ?_
  refine lv_iadd hx hb dJ6_bitCount_0f7a4_46 ?_
  refine lv_cst (v := 0) (by decide) ?_
  refine lv_istore_n (lv' := [(0, .int 0)]) hx hb dJ6_bitCount_0f7a4_47 rfl hl (by decide) rfl (fun ls hl => ?_)
  refine lv_iload_n hx hb dJ6_bitCount_0f7a4_48 rfl (lv_at hl 0 rfl) ?_
  refine lv_bipush (v := 63) hx hb dJ6_bitCount_0f7a4_49 (by decide) ?_
  refine lv_iand hx hb dJ6_bitCount_0f7a4_51 ?_
  refine lv_cst (v := 0) (by decide) ?_
  exact retI hC hP hD hS (by decide) (by decide) () [] rfl rfl rfl dJ6_bitCount_0f7a4_52
set_option maxHeartbeats 4000000 in
set_option maxRecDepth 100000 in
theorem k_X8_doubt (l : Launch) (D : va_G) (cyB cyI cyJ cyZ : ClassId) (sz : Nat) (wt : Nat) (v : Int32) (fw_ : List Value) (hl_fw_ : fw_.length = 17) : KV l yX8_doubt cX8_doubt 2 0 0 0 D (TYS cyB cyI cyJ cyZ) [(wt, .inr (8, fw_))] sz [.ref wt, .int v] (fun (u : Unit) => True) (fun (u : Unit) => ([(wt, .inr (8, ((fw_.set 6 (.int v)).set 13 (.int 0))))] : va_W)) := by
  refine entV (by decide) (Nat.le_of_ble_eq_true rfl) ?_
  intro p e s m below meth c ls A hC hl hP hK hD hA
  obtain ⟨hx, hb, hr, hml, hown, hts, hlk, hnm⟩ := id hC
  have hS : va_S A s.heap s.heap [] := va_S.rf
  have hl : lv_has ls 2 [(0, .ref wt), (1, .int v)] := hl
  generalize hHe : s.heap = H at hP ⊢
  rw [hHe] at hS
  have hS : va_S A s.heap H [] := by rw [hHe]; exact hS
  refine lv_aload_n hx hb dX8_doubt_0 rfl (lv_at hl 0 rfl) ?_
  refine lv_iload_n hx hb dX8_doubt_1 rfl (lv_at hl 1 rfl) ?_
  refine pf (v := .int v) hC hK hP hD hS iX8 tyX8_ok nmX8 0 rfl rfl 6 (by decide) mw_fieldLink_RX8_31_MirrorDrill_Witness_unsureMen_I rfl rfl rfl (ln_lt hl_fw_ (by decide)) dX8_doubt_2 (fun H locs hP hD hS => ?_)
  have hP : va_P D classes [(wt, .inr (8, (fw_.set 6 (.int v))))] H := hP
  have hD : va_D A [(wt, .inr (8, (fw_.set 6 (.int v))))] := hD
  refine lv_aload_n hx hb dX8_doubt_5 rfl (lv_at hl 0 rfl) ?_
  refine lv_iconst (v := 0) hx hb dX8_doubt_6 (by decide) ?_
  refine pf (v := .int 0) hC hK hP hD hS iX8 tyX8_ok nmX8 0 rfl rfl 13 (by decide) mw_fieldLink_RX8_44_MirrorDrill_Witness_known_Z rfl rfl rfl (ln_lt (ln_set hl_fw_) (by decide)) dX8_doubt_7 (fun H locs hP hD hS => ?_)
  have hP : va_P D classes [(wt, .inr (8, ((fw_.set 6 (.int v)).set 13 (.int 0))))] H := hP
  have hD : va_D A [(wt, .inr (8, ((fw_.set 6 (.int v)).set 13 (.int 0))))] := hD
  exact retV hC hP hD hS (by decide) (by decide) () [0] rfl rfl trivial dX8_doubt_10
set_option maxHeartbeats 4000000 in
set_option maxRecDepth 100000 in
theorem k_X9_unsure (l : Launch) (D : va_G) (cyB cyI cyJ cyZ : ClassId) (sz : Nat) (h0 : Nat) (p0 : Int32) (fs : List Value) (dd : Nat) (wt : Nat) (ds_ : List Value) (fw_ : List Value) (hl_fs : fs.length = 17) (h_fs_3 : fs[3]? = some (.ref dd)) (h_fs_16 : fs[16]? = some (.ref wt)) (hl_ds_ : ds_.length = 15) (h_ds__1 : ds_[1]? = some (.int 0)) (hl_fw_ : fw_.length = 17) : KI l yX9_unsure cX9_unsure 2 .int 1 0 0 D (TYS cyB cyI cyJ cyZ) [(h0, .inr (9, fs)), (dd, .inr (2, ds_)), (wt, .inr (8, fw_))] sz [.ref h0, .int p0] (fun (r : Int32) (u : Unit) => r = sp_end p0) (fun (u : Unit) => ([] : va_W)) := by
  refine entI (by decide) (Nat.le_of_ble_eq_true rfl) ?_
  intro p e s m below meth c ls A hC hl hP hK hD hA
  obtain ⟨hx, hb, hr, hml, hown, hts, hlk, hnm⟩ := id hC
  have hS : va_S A s.heap s.heap [] := va_S.rf
  have hl : lv_has ls 2 [(0, .ref h0), (1, .int p0)] := hl
  generalize hHe : s.heap = H at hP ⊢
  rw [hHe] at hS
  have hS : va_S A s.heap H [] := by rw [hHe]; exact hS
  refine lv_iload_n hx hb dX9_unsure_0 rfl (lv_at hl 1 rfl) ?_
  refine lv_aload_n hx hb dX9_unsure_1 rfl (lv_at hl 0 rfl) ?_
  refine gf hC hK hP iX9 0 rfl rfl 3 (by decide) mw_fieldLink_RX9_27_MirrorDrill_drill_LMirrorDrill_Drill h_fs_3 dX9_unsure_2 ?_
  refine gf hC hK hP iX2 1 rfl rfl 1 (by decide) mw_fieldLink_RX9_144_MirrorDrill_Drill_men_I h_ds__1 dX9_unsure_5 ?_
  refine lv_iushr (v := p0) hx hb dX9_unsure_8 (ush0 p0) ?_
  refine lv_if_ne (tgt := 21) hx hb dX9_unsure_9 (by decide) (fun c_1 => ?_) (fun c_1 => ?_)
  · refine lv_iconst (v := (-1)) hx hb dX9_unsure_21 (by decide) ?_
    exact retI hC hP hD hS (by decide) (by decide) () [] rfl rfl (by have z0 := zt_ne c_1; have y0 : ((-1) : Int32).toInt = (-1) := (by decide); have y1 : (0 : Int32).toInt = 0 := (by decide); have y2 : (1 : Int32).toInt = 1 := (by decide); unfold sp_end; (repeat' split) <;> first | rfl | (exact Int32.zero_add _) | (exfalso; omega)) dX9_unsure_22
  · obtain rfl : p0 = 0 := zu_eq (by have z0 := zt_eq c_1; have y0 : ((-1) : Int32).toInt = (-1) := (by decide); have y1 : (0 : Int32).toInt = 0 := (by decide); have y2 : (1 : Int32).toInt = 1 := (by decide); omega)
    refine lv_iload_n hx hb dX9_unsure_12 rfl (lv_at hl 1 rfl) ?_
    refine aftI (wr := [(h0, .inr (9, fs)), (dd, .inr (2, ds_)), (wt, .inr (8, fw_))]) (runS hC hK hP hD hl.1 (k_J6_bitCount_0f7a4 l D cyB cyI cyJ cyZ H.size  ) cS_J6_bitCount_0f7a4 mw_methodLink_RX9_267_yJ6_bitCount_0f7a4 [] rfl rfl rfl rfl (Nat.le_of_ble_eq_true rfl) ⟨by decide, by decide⟩ ⟨by decide, by decide⟩ dX9_unsure_13) hP hD hS hA [] [0, 1, 2] rfl rfl rfl (by decide) (fun r_2 u_2 H locs hw_2 hP hD hS => ?_)
    have hr_2 := hw_2
    refine lv_cst (v := 0) hr_2 ?_
    have hP : va_P D classes [(h0, .inr (9, fs)), (dd, .inr (2, ds_)), (wt, .inr (8, fw_))] H := hP
    have hD : va_D A [(h0, .inr (9, fs)), (dd, .inr (2, ds_)), (wt, .inr (8, fw_))] := hD
    refine W.widen (k := 0) (n := 0) (by decide) (by decide) ?_
    refine lv_bipush (v := 6) hx hb dX9_unsure_16 (by decide) ?_
    refine lv_icmp_le (tgt := 23) hx hb dX9_unsure_18 (by decide) (fun c_3 => ?_) (fun c_3 => absurd (by decide) c_3)
    refine lv_aload_n hx hb dX9_unsure_23 rfl (lv_at hl 0 rfl) ?_
    refine gf hC hK hP iX9 0 rfl rfl 16 (by decide) mw_fieldLink_RX9_95_MirrorDrill_witness_LMirrorDrill_Witness h_fs_16 dX9_unsure_24 ?_
    refine lv_iload_n hx hb dX9_unsure_27 rfl (lv_at hl 1 rfl) ?_
    refine aftV (wr := [(h0, .inr (9, fs)), (dd, .inr (2, ds_))]) (runV hC hK hP hD hl.1 (k_X8_doubt l D cyB cyI cyJ cyZ H.size wt 0 fw_ hl_fw_) cV_X8_doubt mw_methodLink_RX9_272_yX8_doubt [2] rfl rfl 2 rfl rfl rfl rfl rfl (Nat.le_of_ble_eq_true rfl) ⟨by decide, by decide⟩ ⟨by decide, by decide⟩ dX9_unsure_28) hP hD hS hA [2] [0, 1] rfl rfl rfl (by decide) (fun u_4 H locs hw_4 hP hD hS => ?_)
    have hP : va_P D classes [(h0, .inr (9, fs)), (dd, .inr (2, ds_)), (wt, .inr (8, ((fw_.set 6 (.int 0)).set 13 (.int 0))))] H := hP
    have hD : va_D A [(h0, .inr (9, fs)), (dd, .inr (2, ds_)), (wt, .inr (8, ((fw_.set 6 (.int 0)).set 13 (.int 0))))] := hD
    refine W.widen (k := 0) (n := 0) (by decide) (by decide) ?_
    refine lv_iload_n hx hb dX9_unsure_31 rfl (lv_at hl 1 rfl) ?_
    refine aftI (wr := [(h0, .inr (9, fs)), (dd, .inr (2, ds_)), (wt, .inr (8, ((fw_.set 6 (.int 0)).set 13 (.int 0))))]) (runS hC hK hP hD hl.1 (k_J6_bitCount_0f7a4 l D cyB cyI cyJ cyZ H.size  ) cS_J6_bitCount_0f7a4 mw_methodLink_RX9_267_yJ6_bitCount_0f7a4 [] rfl rfl rfl rfl (Nat.le_of_ble_eq_true rfl) ⟨by decide, by decide⟩ ⟨by decide, by decide⟩ dX9_unsure_32) hP hD hS hA [] [0, 1, 2] rfl rfl rfl (by decide) (fun r_5 u_5 H locs hw_5 hP hD hS => ?_)
    have hr_5 := hw_5
    refine lv_cst (v := 0) hr_5 ?_
    have hP : va_P D classes [(h0, .inr (9, fs)), (dd, .inr (2, ds_)), (wt, .inr (8, ((fw_.set 6 (.int 0)).set 13 (.int 0))))] H := hP
    have hD : va_D A [(h0, .inr (9, fs)), (dd, .inr (2, ds_)), (wt, .inr (8, ((fw_.set 6 (.int 0)).set 13 (.int 0))))] := hD
    refine W.widen (k := 0) (n := 0) (by decide) (by decide) ?_
    exact retI hC hP hD hS (by decide) (by decide) () [] rfl rfl (by decide) dX9_unsure_35
set_option maxHeartbeats 4000000 in
set_option maxRecDepth 100000 in
theorem k_X9_tape_0 (l : Launch) (D : va_G) (cyB cyI cyJ cyZ : ClassId) (sz : Nat) (h0 : Nat) (v : Int32) (fs : List Value) (tp : Nat) (ftp : Nat → Int32) (hl_fs : fs.length = 17) (h_fs_0 : fs[0]? = some (.ref tp)) (h_fs_1 : fs[1]? = some (.int 0)) : KV l yX9_tapeNumber cX9_tapeNumber 3 0 0 0 D (TYS cyB cyI cyJ cyZ) [(h0, .inr (9, fs)), (tp, .inl (cyI, 1600, .inl ftp))] sz [.ref h0, .int v] (fun (u : (Nat → Int32)) => True) (fun (u : (Nat → Int32)) => ([(h0, .inr (9, ((((fs.set 1 (.int 1)).set 1 (.int 2)).set 1 (.int 3)).set 1 (.int 4)))), (tp, .inl (cyI, 1600, .inl u))] : va_W)) := by
  refine entV (by decide) (Nat.le_of_ble_eq_true rfl) ?_
  intro p e s m below meth c ls A hC hl hP hK hD hA
  obtain ⟨hx, hb, hr, hml, hown, hts, hlk, hnm⟩ := id hC
  have hS : va_S A s.heap s.heap [] := va_S.rf
  have hl : lv_has ls 3 [(0, .ref h0), (1, .int v)] := hl
  generalize hHe : s.heap = H at hP ⊢
  rw [hHe] at hS
  have hS : va_S A s.heap H [] := by rw [hHe]; exact hS
  refine lv_bipush (v := 24) hx hb dX9_tapeNumber_0 (by decide) ?_
  refine lv_istore_n (lv' := [(2, .int 24), (0, .ref h0), (1, .int v)]) hx hb dX9_tapeNumber_2 rfl hl (by decide) rfl (fun ls hl => ?_)
  refine lv_iload_n hx hb dX9_tapeNumber_3 rfl (lv_at hl 0 rfl) ?_
  refine lv_if_lt (tgt := 49) hx hb dX9_tapeNumber_4 (by decide) (fun c_1 => absurd c_1 (by decide)) (fun c_1 => ?_)
  refine lv_aload_n hx hb dX9_tapeNumber_7 rfl (lv_at hl 1 rfl) ?_
  refine gf hC hK hP iX9 0 rfl rfl 1 (by decide) mw_fieldLink_RX9_13_MirrorDrill_taped_I h_fs_1 dX9_tapeNumber_8 ?_
  refine lv_sipush (v := 1600) hx hb dX9_tapeNumber_11 (by decide) ?_
  refine lv_icmp_ge (tgt := 49) hx hb dX9_tapeNumber_14 (by decide) (fun c_2 => absurd c_2 (by decide)) (fun c_2 => ?_)
  refine lv_aload_n hx hb dX9_tapeNumber_17 rfl (lv_at hl 1 rfl) ?_
  refine gf hC hK hP iX9 0 rfl rfl 0 (by decide) mw_fieldLink_RX9_9_MirrorDrill_tape_I h_fs_0 dX9_tapeNumber_18 ?_
  refine lv_aload_n hx hb dX9_tapeNumber_21 rfl (lv_at hl 1 rfl) ?_
  refine gf hC hK hP iX9 0 rfl rfl 1 (by decide) mw_fieldLink_RX9_13_MirrorDrill_taped_I h_fs_1 dX9_tapeNumber_22 ?_
  refine lv_iload_n hx hb dX9_tapeNumber_25 rfl (lv_at hl 2 rfl) ?_
  refine lv_iload_n hx hb dX9_tapeNumber_26 rfl (lv_at hl 0 rfl) ?_
  obtain ⟨x_3, ex_3⟩ : ∃ z : Int32, (v.toUInt32 >>> ((24 : Int32).toUInt32 &&& Int32.toUInt32 31)).toInt32 = z := ⟨_, rfl⟩
  refine lv_iushr (v := x_3) hx hb dX9_tapeNumber_27 ex_3 ?_
  refine lv_sipush (v := 255) hx hb dX9_tapeNumber_28 (by decide) ?_
  refine lv_iand hx hb dX9_tapeNumber_31 ?_
  refine lv_topi (fun x_4 ex_4 => ?_)
  refine va_iast hx hb hK hP hD hS 1 1 rfl rfl (vin (by decide)) dX9_tapeNumber_32 (fun H locs hP hD hS => ?_)
  obtain ⟨f_5, ef_5⟩ : ∃ g : Nat → Int32, g = upd ftp ((0 : Int32).toNatClampNeg) x_4 := ⟨_, rfl⟩
  rw [← ef_5] at hP hD
  have hP : va_P D classes [(h0, .inr (9, fs)), (tp, .inl (cyI, 1600, .inl f_5))] H := hP
  have hD : va_D A [(h0, .inr (9, fs)), (tp, .inl (cyI, 1600, .inl f_5))] := hD
  refine lv_aload_n hx hb dX9_tapeNumber_33 rfl (lv_at hl 1 rfl) ?_
  refine lv_dup hx hb dX9_tapeNumber_34 rfl ?_
  refine gf hC hK hP iX9 0 rfl rfl 1 (by decide) mw_fieldLink_RX9_13_MirrorDrill_taped_I h_fs_1 dX9_tapeNumber_35 ?_
  refine lv_iconst (v := 1) hx hb dX9_tapeNumber_38 (by decide) ?_
  refine lv_iadd hx hb dX9_tapeNumber_39 ?_
  refine lv_cst (v := 1) (by decide) ?_
  refine pf (v := .int 1) hC hK hP hD hS iX9 tyX9_ok nmX9 0 rfl rfl 1 (by decide) mw_fieldLink_RX9_13_MirrorDrill_taped_I rfl rfl rfl (ln_lt hl_fs (by decide)) dX9_tapeNumber_40 (fun H locs hP hD hS => ?_)
  have hP : va_P D classes [(h0, .inr (9, (fs.set 1 (.int 1)))), (tp, .inl (cyI, 1600, .inl f_5))] H := hP
  have hD : va_D A [(h0, .inr (9, (fs.set 1 (.int 1)))), (tp, .inl (cyI, 1600, .inl f_5))] := hD
  refine lv_iinc (v := 16) (lv' := [(2, .int 16), (0, .ref h0), (1, .int v)]) hx hb dX9_tapeNumber_43 hl (k := 0) rfl (by decide) (by decide) rfl (fun ls hl => ?_)
  refine lv_goto (tgt := 3) hx hb dX9_tapeNumber_46 (by decide) ?_
  refine lv_iload_n hx hb dX9_tapeNumber_3 rfl (lv_at hl 0 rfl) ?_
  refine lv_if_lt (tgt := 49) hx hb dX9_tapeNumber_4 (by decide) (fun c_6 => absurd c_6 (by decide)) (fun c_6 => ?_)
  refine lv_aload_n hx hb dX9_tapeNumber_7 rfl (lv_at hl 1 rfl) ?_
  refine gf hC hK hP iX9 0 rfl rfl 1 (by decide) mw_fieldLink_RX9_13_MirrorDrill_taped_I (gs_eq (ln_lt hl_fs (by decide))) dX9_tapeNumber_8 ?_
  refine lv_sipush (v := 1600) hx hb dX9_tapeNumber_11 (by decide) ?_
  refine lv_icmp_ge (tgt := 49) hx hb dX9_tapeNumber_14 (by decide) (fun c_7 => absurd c_7 (by decide)) (fun c_7 => ?_)
  refine lv_aload_n hx hb dX9_tapeNumber_17 rfl (lv_at hl 1 rfl) ?_
  refine gf hC hK hP iX9 0 rfl rfl 0 (by decide) mw_fieldLink_RX9_9_MirrorDrill_tape_I (gs_ne (by decide) h_fs_0) dX9_tapeNumber_18 ?_
  refine lv_aload_n hx hb dX9_tapeNumber_21 rfl (lv_at hl 1 rfl) ?_
  refine gf hC hK hP iX9 0 rfl rfl 1 (by decide) mw_fieldLink_RX9_13_MirrorDrill_taped_I (gs_eq (ln_lt hl_fs (by decide))) dX9_tapeNumber_22 ?_
  refine lv_iload_n hx hb dX9_tapeNumber_25 rfl (lv_at hl 2 rfl) ?_
  refine lv_iload_n hx hb dX9_tapeNumber_26 rfl (lv_at hl 0 rfl) ?_
  obtain ⟨x_8, ex_8⟩ : ∃ z : Int32, (v.toUInt32 >>> ((16 : Int32).toUInt32 &&& Int32.toUInt32 31)).toInt32 = z := ⟨_, rfl⟩
  refine lv_iushr (v := x_8) hx hb dX9_tapeNumber_27 ex_8 ?_
  refine lv_sipush (v := 255) hx hb dX9_tapeNumber_28 (by decide) ?_
  refine lv_iand hx hb dX9_tapeNumber_31 ?_
  refine lv_topi (fun x_9 ex_9 => ?_)
  refine va_iast hx hb hK hP hD hS 1 1 rfl rfl (vin (by decide)) dX9_tapeNumber_32 (fun H locs hP hD hS => ?_)
  obtain ⟨f_10, ef_10⟩ : ∃ g : Nat → Int32, g = upd f_5 ((1 : Int32).toNatClampNeg) x_9 := ⟨_, rfl⟩
  rw [← ef_10] at hP hD
  have hP : va_P D classes [(h0, .inr (9, (fs.set 1 (.int 1)))), (tp, .inl (cyI, 1600, .inl f_10))] H := hP
  have hD : va_D A [(h0, .inr (9, (fs.set 1 (.int 1)))), (tp, .inl (cyI, 1600, .inl f_10))] := hD
  refine lv_aload_n hx hb dX9_tapeNumber_33 rfl (lv_at hl 1 rfl) ?_
  refine lv_dup hx hb dX9_tapeNumber_34 rfl ?_
  refine gf hC hK hP iX9 0 rfl rfl 1 (by decide) mw_fieldLink_RX9_13_MirrorDrill_taped_I (gs_eq (ln_lt hl_fs (by decide))) dX9_tapeNumber_35 ?_
  refine lv_iconst (v := 1) hx hb dX9_tapeNumber_38 (by decide) ?_
  refine lv_iadd hx hb dX9_tapeNumber_39 ?_
  refine lv_cst (v := 2) (by decide) ?_
  refine pf (v := .int 2) hC hK hP hD hS iX9 tyX9_ok nmX9 0 rfl rfl 1 (by decide) mw_fieldLink_RX9_13_MirrorDrill_taped_I rfl rfl rfl (ln_lt (ln_set hl_fs) (by decide)) dX9_tapeNumber_40 (fun H locs hP hD hS => ?_)
  have hP : va_P D classes [(h0, .inr (9, ((fs.set 1 (.int 1)).set 1 (.int 2)))), (tp, .inl (cyI, 1600, .inl f_10))] H := hP
  have hD : va_D A [(h0, .inr (9, ((fs.set 1 (.int 1)).set 1 (.int 2)))), (tp, .inl (cyI, 1600, .inl f_10))] := hD
  refine lv_iinc (v := 8) (lv' := [(2, .int 8), (0, .ref h0), (1, .int v)]) hx hb dX9_tapeNumber_43 hl (k := 0) rfl (by decide) (by decide) rfl (fun ls hl => ?_)
  refine lv_goto (tgt := 3) hx hb dX9_tapeNumber_46 (by decide) ?_
  refine lv_iload_n hx hb dX9_tapeNumber_3 rfl (lv_at hl 0 rfl) ?_
  refine lv_if_lt (tgt := 49) hx hb dX9_tapeNumber_4 (by decide) (fun c_11 => absurd c_11 (by decide)) (fun c_11 => ?_)
  refine lv_aload_n hx hb dX9_tapeNumber_7 rfl (lv_at hl 1 rfl) ?_
  refine gf hC hK hP iX9 0 rfl rfl 1 (by decide) mw_fieldLink_RX9_13_MirrorDrill_taped_I (gs_eq (ln_lt (ln_set hl_fs) (by decide))) dX9_tapeNumber_8 ?_
  refine lv_sipush (v := 1600) hx hb dX9_tapeNumber_11 (by decide) ?_
  refine lv_icmp_ge (tgt := 49) hx hb dX9_tapeNumber_14 (by decide) (fun c_12 => absurd c_12 (by decide)) (fun c_12 => ?_)
  refine lv_aload_n hx hb dX9_tapeNumber_17 rfl (lv_at hl 1 rfl) ?_
  refine gf hC hK hP iX9 0 rfl rfl 0 (by decide) mw_fieldLink_RX9_9_MirrorDrill_tape_I (gs_ne (by decide) (gs_ne (by decide) h_fs_0)) dX9_tapeNumber_18 ?_
  refine lv_aload_n hx hb dX9_tapeNumber_21 rfl (lv_at hl 1 rfl) ?_
  refine gf hC hK hP iX9 0 rfl rfl 1 (by decide) mw_fieldLink_RX9_13_MirrorDrill_taped_I (gs_eq (ln_lt (ln_set hl_fs) (by decide))) dX9_tapeNumber_22 ?_
  refine lv_iload_n hx hb dX9_tapeNumber_25 rfl (lv_at hl 2 rfl) ?_
  refine lv_iload_n hx hb dX9_tapeNumber_26 rfl (lv_at hl 0 rfl) ?_
  obtain ⟨x_13, ex_13⟩ : ∃ z : Int32, (v.toUInt32 >>> ((8 : Int32).toUInt32 &&& Int32.toUInt32 31)).toInt32 = z := ⟨_, rfl⟩
  refine lv_iushr (v := x_13) hx hb dX9_tapeNumber_27 ex_13 ?_
  refine lv_sipush (v := 255) hx hb dX9_tapeNumber_28 (by decide) ?_
  refine lv_iand hx hb dX9_tapeNumber_31 ?_
  refine lv_topi (fun x_14 ex_14 => ?_)
  refine va_iast hx hb hK hP hD hS 1 1 rfl rfl (vin (by decide)) dX9_tapeNumber_32 (fun H locs hP hD hS => ?_)
  obtain ⟨f_15, ef_15⟩ : ∃ g : Nat → Int32, g = upd f_10 ((2 : Int32).toNatClampNeg) x_14 := ⟨_, rfl⟩
  rw [← ef_15] at hP hD
  have hP : va_P D classes [(h0, .inr (9, ((fs.set 1 (.int 1)).set 1 (.int 2)))), (tp, .inl (cyI, 1600, .inl f_15))] H := hP
  have hD : va_D A [(h0, .inr (9, ((fs.set 1 (.int 1)).set 1 (.int 2)))), (tp, .inl (cyI, 1600, .inl f_15))] := hD
  refine lv_aload_n hx hb dX9_tapeNumber_33 rfl (lv_at hl 1 rfl) ?_
  refine lv_dup hx hb dX9_tapeNumber_34 rfl ?_
  refine gf hC hK hP iX9 0 rfl rfl 1 (by decide) mw_fieldLink_RX9_13_MirrorDrill_taped_I (gs_eq (ln_lt (ln_set hl_fs) (by decide))) dX9_tapeNumber_35 ?_
  refine lv_iconst (v := 1) hx hb dX9_tapeNumber_38 (by decide) ?_
  refine lv_iadd hx hb dX9_tapeNumber_39 ?_
  refine lv_cst (v := 3) (by decide) ?_
  refine pf (v := .int 3) hC hK hP hD hS iX9 tyX9_ok nmX9 0 rfl rfl 1 (by decide) mw_fieldLink_RX9_13_MirrorDrill_taped_I rfl rfl rfl (ln_lt (ln_set (ln_set hl_fs)) (by decide)) dX9_tapeNumber_40 (fun H locs hP hD hS => ?_)
  have hP : va_P D classes [(h0, .inr (9, (((fs.set 1 (.int 1)).set 1 (.int 2)).set 1 (.int 3)))), (tp, .inl (cyI, 1600, .inl f_15))] H := hP
  have hD : va_D A [(h0, .inr (9, (((fs.set 1 (.int 1)).set 1 (.int 2)).set 1 (.int 3)))), (tp, .inl (cyI, 1600, .inl f_15))] := hD
  refine lv_iinc (v := 0) (lv' := [(2, .int 0), (0, .ref h0), (1, .int v)]) hx hb dX9_tapeNumber_43 hl (k := 0) rfl (by decide) (by decide) rfl (fun ls hl => ?_)
  refine lv_goto (tgt := 3) hx hb dX9_tapeNumber_46 (by decide) ?_
  refine lv_iload_n hx hb dX9_tapeNumber_3 rfl (lv_at hl 0 rfl) ?_
  refine lv_if_lt (tgt := 49) hx hb dX9_tapeNumber_4 (by decide) (fun c_16 => absurd c_16 (by decide)) (fun c_16 => ?_)
  refine lv_aload_n hx hb dX9_tapeNumber_7 rfl (lv_at hl 1 rfl) ?_
  refine gf hC hK hP iX9 0 rfl rfl 1 (by decide) mw_fieldLink_RX9_13_MirrorDrill_taped_I (gs_eq (ln_lt (ln_set (ln_set hl_fs)) (by decide))) dX9_tapeNumber_8 ?_
  refine lv_sipush (v := 1600) hx hb dX9_tapeNumber_11 (by decide) ?_
  refine lv_icmp_ge (tgt := 49) hx hb dX9_tapeNumber_14 (by decide) (fun c_17 => absurd c_17 (by decide)) (fun c_17 => ?_)
  refine lv_aload_n hx hb dX9_tapeNumber_17 rfl (lv_at hl 1 rfl) ?_
  refine gf hC hK hP iX9 0 rfl rfl 0 (by decide) mw_fieldLink_RX9_9_MirrorDrill_tape_I (gs_ne (by decide) (gs_ne (by decide) (gs_ne (by decide) h_fs_0))) dX9_tapeNumber_18 ?_
  refine lv_aload_n hx hb dX9_tapeNumber_21 rfl (lv_at hl 1 rfl) ?_
  refine gf hC hK hP iX9 0 rfl rfl 1 (by decide) mw_fieldLink_RX9_13_MirrorDrill_taped_I (gs_eq (ln_lt (ln_set (ln_set hl_fs)) (by decide))) dX9_tapeNumber_22 ?_
  refine lv_iload_n hx hb dX9_tapeNumber_25 rfl (lv_at hl 2 rfl) ?_
  refine lv_iload_n hx hb dX9_tapeNumber_26 rfl (lv_at hl 0 rfl) ?_
  obtain ⟨x_18, ex_18⟩ : ∃ z : Int32, (v.toUInt32 >>> ((0 : Int32).toUInt32 &&& Int32.toUInt32 31)).toInt32 = z := ⟨_, rfl⟩
  refine lv_iushr (v := x_18) hx hb dX9_tapeNumber_27 ex_18 ?_
  refine lv_sipush (v := 255) hx hb dX9_tapeNumber_28 (by decide) ?_
  refine lv_iand hx hb dX9_tapeNumber_31 ?_
  refine lv_topi (fun x_19 ex_19 => ?_)
  refine va_iast hx hb hK hP hD hS 1 1 rfl rfl (vin (by decide)) dX9_tapeNumber_32 (fun H locs hP hD hS => ?_)
  obtain ⟨f_20, ef_20⟩ : ∃ g : Nat → Int32, g = upd f_15 ((3 : Int32).toNatClampNeg) x_19 := ⟨_, rfl⟩
  rw [← ef_20] at hP hD
  have hP : va_P D classes [(h0, .inr (9, (((fs.set 1 (.int 1)).set 1 (.int 2)).set 1 (.int 3)))), (tp, .inl (cyI, 1600, .inl f_20))] H := hP
  have hD : va_D A [(h0, .inr (9, (((fs.set 1 (.int 1)).set 1 (.int 2)).set 1 (.int 3)))), (tp, .inl (cyI, 1600, .inl f_20))] := hD
  refine lv_aload_n hx hb dX9_tapeNumber_33 rfl (lv_at hl 1 rfl) ?_
  refine lv_dup hx hb dX9_tapeNumber_34 rfl ?_
  refine gf hC hK hP iX9 0 rfl rfl 1 (by decide) mw_fieldLink_RX9_13_MirrorDrill_taped_I (gs_eq (ln_lt (ln_set (ln_set hl_fs)) (by decide))) dX9_tapeNumber_35 ?_
  refine lv_iconst (v := 1) hx hb dX9_tapeNumber_38 (by decide) ?_
  refine lv_iadd hx hb dX9_tapeNumber_39 ?_
  refine lv_cst (v := 4) (by decide) ?_
  refine pf (v := .int 4) hC hK hP hD hS iX9 tyX9_ok nmX9 0 rfl rfl 1 (by decide) mw_fieldLink_RX9_13_MirrorDrill_taped_I rfl rfl rfl (ln_lt (ln_set (ln_set (ln_set hl_fs))) (by decide)) dX9_tapeNumber_40 (fun H locs hP hD hS => ?_)
  have hP : va_P D classes [(h0, .inr (9, ((((fs.set 1 (.int 1)).set 1 (.int 2)).set 1 (.int 3)).set 1 (.int 4)))), (tp, .inl (cyI, 1600, .inl f_20))] H := hP
  have hD : va_D A [(h0, .inr (9, ((((fs.set 1 (.int 1)).set 1 (.int 2)).set 1 (.int 3)).set 1 (.int 4)))), (tp, .inl (cyI, 1600, .inl f_20))] := hD
  refine lv_iinc (v := (-8)) (lv' := [(2, .int (-8)), (0, .ref h0), (1, .int v)]) hx hb dX9_tapeNumber_43 hl (k := 0) rfl (by decide) (by decide) rfl (fun ls hl => ?_)
  refine lv_goto (tgt := 3) hx hb dX9_tapeNumber_46 (by decide) ?_
  refine lv_iload_n hx hb dX9_tapeNumber_3 rfl (lv_at hl 0 rfl) ?_
  refine lv_if_lt (tgt := 49) hx hb dX9_tapeNumber_4 (by decide) (fun c_21 => ?_) (fun c_21 => absurd (by decide) c_21)
  exact retV hC hP hD hS (by decide) (by decide) f_20 [0, 1] rfl rfl trivial dX9_tapeNumber_49
set_option maxHeartbeats 4000000 in
set_option maxRecDepth 100000 in
theorem k_X9_tape_4 (l : Launch) (D : va_G) (cyB cyI cyJ cyZ : ClassId) (sz : Nat) (h0 : Nat) (v : Int32) (fs : List Value) (tp : Nat) (ftp : Nat → Int32) (hl_fs : fs.length = 17) (h_fs_0 : fs[0]? = some (.ref tp)) (h_fs_1 : fs[1]? = some (.int 4)) : KV l yX9_tapeNumber cX9_tapeNumber 3 0 0 0 D (TYS cyB cyI cyJ cyZ) [(h0, .inr (9, fs)), (tp, .inl (cyI, 1600, .inl ftp))] sz [.ref h0, .int v] (fun (u : (Nat → Int32)) => True) (fun (u : (Nat → Int32)) => ([(h0, .inr (9, ((((fs.set 1 (.int 5)).set 1 (.int 6)).set 1 (.int 7)).set 1 (.int 8)))), (tp, .inl (cyI, 1600, .inl u))] : va_W)) := by
  refine entV (by decide) (Nat.le_of_ble_eq_true rfl) ?_
  intro p e s m below meth c ls A hC hl hP hK hD hA
  obtain ⟨hx, hb, hr, hml, hown, hts, hlk, hnm⟩ := id hC
  have hS : va_S A s.heap s.heap [] := va_S.rf
  have hl : lv_has ls 3 [(0, .ref h0), (1, .int v)] := hl
  generalize hHe : s.heap = H at hP ⊢
  rw [hHe] at hS
  have hS : va_S A s.heap H [] := by rw [hHe]; exact hS
  refine lv_bipush (v := 24) hx hb dX9_tapeNumber_0 (by decide) ?_
  refine lv_istore_n (lv' := [(2, .int 24), (0, .ref h0), (1, .int v)]) hx hb dX9_tapeNumber_2 rfl hl (by decide) rfl (fun ls hl => ?_)
  refine lv_iload_n hx hb dX9_tapeNumber_3 rfl (lv_at hl 0 rfl) ?_
  refine lv_if_lt (tgt := 49) hx hb dX9_tapeNumber_4 (by decide) (fun c_1 => absurd c_1 (by decide)) (fun c_1 => ?_)
  refine lv_aload_n hx hb dX9_tapeNumber_7 rfl (lv_at hl 1 rfl) ?_
  refine gf hC hK hP iX9 0 rfl rfl 1 (by decide) mw_fieldLink_RX9_13_MirrorDrill_taped_I h_fs_1 dX9_tapeNumber_8 ?_
  refine lv_sipush (v := 1600) hx hb dX9_tapeNumber_11 (by decide) ?_
  refine lv_icmp_ge (tgt := 49) hx hb dX9_tapeNumber_14 (by decide) (fun c_2 => absurd c_2 (by decide)) (fun c_2 => ?_)
  refine lv_aload_n hx hb dX9_tapeNumber_17 rfl (lv_at hl 1 rfl) ?_
  refine gf hC hK hP iX9 0 rfl rfl 0 (by decide) mw_fieldLink_RX9_9_MirrorDrill_tape_I h_fs_0 dX9_tapeNumber_18 ?_
  refine lv_aload_n hx hb dX9_tapeNumber_21 rfl (lv_at hl 1 rfl) ?_
  refine gf hC hK hP iX9 0 rfl rfl 1 (by decide) mw_fieldLink_RX9_13_MirrorDrill_taped_I h_fs_1 dX9_tapeNumber_22 ?_
  refine lv_iload_n hx hb dX9_tapeNumber_25 rfl (lv_at hl 2 rfl) ?_
  refine lv_iload_n hx hb dX9_tapeNumber_26 rfl (lv_at hl 0 rfl) ?_
  obtain ⟨x_3, ex_3⟩ : ∃ z : Int32, (v.toUInt32 >>> ((24 : Int32).toUInt32 &&& Int32.toUInt32 31)).toInt32 = z := ⟨_, rfl⟩
  refine lv_iushr (v := x_3) hx hb dX9_tapeNumber_27 ex_3 ?_
  refine lv_sipush (v := 255) hx hb dX9_tapeNumber_28 (by decide) ?_
  refine lv_iand hx hb dX9_tapeNumber_31 ?_
  refine lv_topi (fun x_4 ex_4 => ?_)
  refine va_iast hx hb hK hP hD hS 1 1 rfl rfl (vin (by decide)) dX9_tapeNumber_32 (fun H locs hP hD hS => ?_)
  obtain ⟨f_5, ef_5⟩ : ∃ g : Nat → Int32, g = upd ftp ((4 : Int32).toNatClampNeg) x_4 := ⟨_, rfl⟩
  rw [← ef_5] at hP hD
  have hP : va_P D classes [(h0, .inr (9, fs)), (tp, .inl (cyI, 1600, .inl f_5))] H := hP
  have hD : va_D A [(h0, .inr (9, fs)), (tp, .inl (cyI, 1600, .inl f_5))] := hD
  refine lv_aload_n hx hb dX9_tapeNumber_33 rfl (lv_at hl 1 rfl) ?_
  refine lv_dup hx hb dX9_tapeNumber_34 rfl ?_
  refine gf hC hK hP iX9 0 rfl rfl 1 (by decide) mw_fieldLink_RX9_13_MirrorDrill_taped_I h_fs_1 dX9_tapeNumber_35 ?_
  refine lv_iconst (v := 1) hx hb dX9_tapeNumber_38 (by decide) ?_
  refine lv_iadd hx hb dX9_tapeNumber_39 ?_
  refine lv_cst (v := 5) (by decide) ?_
  refine pf (v := .int 5) hC hK hP hD hS iX9 tyX9_ok nmX9 0 rfl rfl 1 (by decide) mw_fieldLink_RX9_13_MirrorDrill_taped_I rfl rfl rfl (ln_lt hl_fs (by decide)) dX9_tapeNumber_40 (fun H locs hP hD hS => ?_)
  have hP : va_P D classes [(h0, .inr (9, (fs.set 1 (.int 5)))), (tp, .inl (cyI, 1600, .inl f_5))] H := hP
  have hD : va_D A [(h0, .inr (9, (fs.set 1 (.int 5)))), (tp, .inl (cyI, 1600, .inl f_5))] := hD
  refine lv_iinc (v := 16) (lv' := [(2, .int 16), (0, .ref h0), (1, .int v)]) hx hb dX9_tapeNumber_43 hl (k := 0) rfl (by decide) (by decide) rfl (fun ls hl => ?_)
  refine lv_goto (tgt := 3) hx hb dX9_tapeNumber_46 (by decide) ?_
  refine lv_iload_n hx hb dX9_tapeNumber_3 rfl (lv_at hl 0 rfl) ?_
  refine lv_if_lt (tgt := 49) hx hb dX9_tapeNumber_4 (by decide) (fun c_6 => absurd c_6 (by decide)) (fun c_6 => ?_)
  refine lv_aload_n hx hb dX9_tapeNumber_7 rfl (lv_at hl 1 rfl) ?_
  refine gf hC hK hP iX9 0 rfl rfl 1 (by decide) mw_fieldLink_RX9_13_MirrorDrill_taped_I (gs_eq (ln_lt hl_fs (by decide))) dX9_tapeNumber_8 ?_
  refine lv_sipush (v := 1600) hx hb dX9_tapeNumber_11 (by decide) ?_
  refine lv_icmp_ge (tgt := 49) hx hb dX9_tapeNumber_14 (by decide) (fun c_7 => absurd c_7 (by decide)) (fun c_7 => ?_)
  refine lv_aload_n hx hb dX9_tapeNumber_17 rfl (lv_at hl 1 rfl) ?_
  refine gf hC hK hP iX9 0 rfl rfl 0 (by decide) mw_fieldLink_RX9_9_MirrorDrill_tape_I (gs_ne (by decide) h_fs_0) dX9_tapeNumber_18 ?_
  refine lv_aload_n hx hb dX9_tapeNumber_21 rfl (lv_at hl 1 rfl) ?_
  refine gf hC hK hP iX9 0 rfl rfl 1 (by decide) mw_fieldLink_RX9_13_MirrorDrill_taped_I (gs_eq (ln_lt hl_fs (by decide))) dX9_tapeNumber_22 ?_
  refine lv_iload_n hx hb dX9_tapeNumber_25 rfl (lv_at hl 2 rfl) ?_
  refine lv_iload_n hx hb dX9_tapeNumber_26 rfl (lv_at hl 0 rfl) ?_
  obtain ⟨x_8, ex_8⟩ : ∃ z : Int32, (v.toUInt32 >>> ((16 : Int32).toUInt32 &&& Int32.toUInt32 31)).toInt32 = z := ⟨_, rfl⟩
  refine lv_iushr (v := x_8) hx hb dX9_tapeNumber_27 ex_8 ?_
  refine lv_sipush (v := 255) hx hb dX9_tapeNumber_28 (by decide) ?_
  refine lv_iand hx hb dX9_tapeNumber_31 ?_
  refine lv_topi (fun x_9 ex_9 => ?_)
  refine va_iast hx hb hK hP hD hS 1 1 rfl rfl (vin (by decide)) dX9_tapeNumber_32 (fun H locs hP hD hS => ?_)
  obtain ⟨f_10, ef_10⟩ : ∃ g : Nat → Int32, g = upd f_5 ((5 : Int32).toNatClampNeg) x_9 := ⟨_, rfl⟩
  rw [← ef_10] at hP hD
  have hP : va_P D classes [(h0, .inr (9, (fs.set 1 (.int 5)))), (tp, .inl (cyI, 1600, .inl f_10))] H := hP
  have hD : va_D A [(h0, .inr (9, (fs.set 1 (.int 5)))), (tp, .inl (cyI, 1600, .inl f_10))] := hD
  refine lv_aload_n hx hb dX9_tapeNumber_33 rfl (lv_at hl 1 rfl) ?_
  refine lv_dup hx hb dX9_tapeNumber_34 rfl ?_
  refine gf hC hK hP iX9 0 rfl rfl 1 (by decide) mw_fieldLink_RX9_13_MirrorDrill_taped_I (gs_eq (ln_lt hl_fs (by decide))) dX9_tapeNumber_35 ?_
  refine lv_iconst (v := 1) hx hb dX9_tapeNumber_38 (by decide) ?_
  refine lv_iadd hx hb dX9_tapeNumber_39 ?_
  refine lv_cst (v := 6) (by decide) ?_
  refine pf (v := .int 6) hC hK hP hD hS iX9 tyX9_ok nmX9 0 rfl rfl 1 (by decide) mw_fieldLink_RX9_13_MirrorDrill_taped_I rfl rfl rfl (ln_lt (ln_set hl_fs) (by decide)) dX9_tapeNumber_40 (fun H locs hP hD hS => ?_)
  have hP : va_P D classes [(h0, .inr (9, ((fs.set 1 (.int 5)).set 1 (.int 6)))), (tp, .inl (cyI, 1600, .inl f_10))] H := hP
  have hD : va_D A [(h0, .inr (9, ((fs.set 1 (.int 5)).set 1 (.int 6)))), (tp, .inl (cyI, 1600, .inl f_10))] := hD
  refine lv_iinc (v := 8) (lv' := [(2, .int 8), (0, .ref h0), (1, .int v)]) hx hb dX9_tapeNumber_43 hl (k := 0) rfl (by decide) (by decide) rfl (fun ls hl => ?_)
  refine lv_goto (tgt := 3) hx hb dX9_tapeNumber_46 (by decide) ?_
  refine lv_iload_n hx hb dX9_tapeNumber_3 rfl (lv_at hl 0 rfl) ?_
  refine lv_if_lt (tgt := 49) hx hb dX9_tapeNumber_4 (by decide) (fun c_11 => absurd c_11 (by decide)) (fun c_11 => ?_)
  refine lv_aload_n hx hb dX9_tapeNumber_7 rfl (lv_at hl 1 rfl) ?_
  refine gf hC hK hP iX9 0 rfl rfl 1 (by decide) mw_fieldLink_RX9_13_MirrorDrill_taped_I (gs_eq (ln_lt (ln_set hl_fs) (by decide))) dX9_tapeNumber_8 ?_
  refine lv_sipush (v := 1600) hx hb dX9_tapeNumber_11 (by decide) ?_
  refine lv_icmp_ge (tgt := 49) hx hb dX9_tapeNumber_14 (by decide) (fun c_12 => absurd c_12 (by decide)) (fun c_12 => ?_)
  refine lv_aload_n hx hb dX9_tapeNumber_17 rfl (lv_at hl 1 rfl) ?_
  refine gf hC hK hP iX9 0 rfl rfl 0 (by decide) mw_fieldLink_RX9_9_MirrorDrill_tape_I (gs_ne (by decide) (gs_ne (by decide) h_fs_0)) dX9_tapeNumber_18 ?_
  refine lv_aload_n hx hb dX9_tapeNumber_21 rfl (lv_at hl 1 rfl) ?_
  refine gf hC hK hP iX9 0 rfl rfl 1 (by decide) mw_fieldLink_RX9_13_MirrorDrill_taped_I (gs_eq (ln_lt (ln_set hl_fs) (by decide))) dX9_tapeNumber_22 ?_
  refine lv_iload_n hx hb dX9_tapeNumber_25 rfl (lv_at hl 2 rfl) ?_
  refine lv_iload_n hx hb dX9_tapeNumber_26 rfl (lv_at hl 0 rfl) ?_
  obtain ⟨x_13, ex_13⟩ : ∃ z : Int32, (v.toUInt32 >>> ((8 : Int32).toUInt32 &&& Int32.toUInt32 31)).toInt32 = z := ⟨_, rfl⟩
  refine lv_iushr (v := x_13) hx hb dX9_tapeNumber_27 ex_13 ?_
  refine lv_sipush (v := 255) hx hb dX9_tapeNumber_28 (by decide) ?_
  refine lv_iand hx hb dX9_tapeNumber_31 ?_
  refine lv_topi (fun x_14 ex_14 => ?_)
  refine va_iast hx hb hK hP hD hS 1 1 rfl rfl (vin (by decide)) dX9_tapeNumber_32 (fun H locs hP hD hS => ?_)
  obtain ⟨f_15, ef_15⟩ : ∃ g : Nat → Int32, g = upd f_10 ((6 : Int32).toNatClampNeg) x_14 := ⟨_, rfl⟩
  rw [← ef_15] at hP hD
  have hP : va_P D classes [(h0, .inr (9, ((fs.set 1 (.int 5)).set 1 (.int 6)))), (tp, .inl (cyI, 1600, .inl f_15))] H := hP
  have hD : va_D A [(h0, .inr (9, ((fs.set 1 (.int 5)).set 1 (.int 6)))), (tp, .inl (cyI, 1600, .inl f_15))] := hD
  refine lv_aload_n hx hb dX9_tapeNumber_33 rfl (lv_at hl 1 rfl) ?_
  refine lv_dup hx hb dX9_tapeNumber_34 rfl ?_
  refine gf hC hK hP iX9 0 rfl rfl 1 (by decide) mw_fieldLink_RX9_13_MirrorDrill_taped_I (gs_eq (ln_lt (ln_set hl_fs) (by decide))) dX9_tapeNumber_35 ?_
  refine lv_iconst (v := 1) hx hb dX9_tapeNumber_38 (by decide) ?_
  refine lv_iadd hx hb dX9_tapeNumber_39 ?_
  refine lv_cst (v := 7) (by decide) ?_
  refine pf (v := .int 7) hC hK hP hD hS iX9 tyX9_ok nmX9 0 rfl rfl 1 (by decide) mw_fieldLink_RX9_13_MirrorDrill_taped_I rfl rfl rfl (ln_lt (ln_set (ln_set hl_fs)) (by decide)) dX9_tapeNumber_40 (fun H locs hP hD hS => ?_)
  have hP : va_P D classes [(h0, .inr (9, (((fs.set 1 (.int 5)).set 1 (.int 6)).set 1 (.int 7)))), (tp, .inl (cyI, 1600, .inl f_15))] H := hP
  have hD : va_D A [(h0, .inr (9, (((fs.set 1 (.int 5)).set 1 (.int 6)).set 1 (.int 7)))), (tp, .inl (cyI, 1600, .inl f_15))] := hD
  refine lv_iinc (v := 0) (lv' := [(2, .int 0), (0, .ref h0), (1, .int v)]) hx hb dX9_tapeNumber_43 hl (k := 0) rfl (by decide) (by decide) rfl (fun ls hl => ?_)
  refine lv_goto (tgt := 3) hx hb dX9_tapeNumber_46 (by decide) ?_
  refine lv_iload_n hx hb dX9_tapeNumber_3 rfl (lv_at hl 0 rfl) ?_
  refine lv_if_lt (tgt := 49) hx hb dX9_tapeNumber_4 (by decide) (fun c_16 => absurd c_16 (by decide)) (fun c_16 => ?_)
  refine lv_aload_n hx hb dX9_tapeNumber_7 rfl (lv_at hl 1 rfl) ?_
  refine gf hC hK hP iX9 0 rfl rfl 1 (by decide) mw_fieldLink_RX9_13_MirrorDrill_taped_I (gs_eq (ln_lt (ln_set (ln_set hl_fs)) (by decide))) dX9_tapeNumber_8 ?_
  refine lv_sipush (v := 1600) hx hb dX9_tapeNumber_11 (by decide) ?_
  refine lv_icmp_ge (tgt := 49) hx hb dX9_tapeNumber_14 (by decide) (fun c_17 => absurd c_17 (by decide)) (fun c_17 => ?_)
  refine lv_aload_n hx hb dX9_tapeNumber_17 rfl (lv_at hl 1 rfl) ?_
  refine gf hC hK hP iX9 0 rfl rfl 0 (by decide) mw_fieldLink_RX9_9_MirrorDrill_tape_I (gs_ne (by decide) (gs_ne (by decide) (gs_ne (by decide) h_fs_0))) dX9_tapeNumber_18 ?_
  refine lv_aload_n hx hb dX9_tapeNumber_21 rfl (lv_at hl 1 rfl) ?_
  refine gf hC hK hP iX9 0 rfl rfl 1 (by decide) mw_fieldLink_RX9_13_MirrorDrill_taped_I (gs_eq (ln_lt (ln_set (ln_set hl_fs)) (by decide))) dX9_tapeNumber_22 ?_
  refine lv_iload_n hx hb dX9_tapeNumber_25 rfl (lv_at hl 2 rfl) ?_
  refine lv_iload_n hx hb dX9_tapeNumber_26 rfl (lv_at hl 0 rfl) ?_
  obtain ⟨x_18, ex_18⟩ : ∃ z : Int32, (v.toUInt32 >>> ((0 : Int32).toUInt32 &&& Int32.toUInt32 31)).toInt32 = z := ⟨_, rfl⟩
  refine lv_iushr (v := x_18) hx hb dX9_tapeNumber_27 ex_18 ?_
  refine lv_sipush (v := 255) hx hb dX9_tapeNumber_28 (by decide) ?_
  refine lv_iand hx hb dX9_tapeNumber_31 ?_
  refine lv_topi (fun x_19 ex_19 => ?_)
  refine va_iast hx hb hK hP hD hS 1 1 rfl rfl (vin (by decide)) dX9_tapeNumber_32 (fun H locs hP hD hS => ?_)
  obtain ⟨f_20, ef_20⟩ : ∃ g : Nat → Int32, g = upd f_15 ((7 : Int32).toNatClampNeg) x_19 := ⟨_, rfl⟩
  rw [← ef_20] at hP hD
  have hP : va_P D classes [(h0, .inr (9, (((fs.set 1 (.int 5)).set 1 (.int 6)).set 1 (.int 7)))), (tp, .inl (cyI, 1600, .inl f_20))] H := hP
  have hD : va_D A [(h0, .inr (9, (((fs.set 1 (.int 5)).set 1 (.int 6)).set 1 (.int 7)))), (tp, .inl (cyI, 1600, .inl f_20))] := hD
  refine lv_aload_n hx hb dX9_tapeNumber_33 rfl (lv_at hl 1 rfl) ?_
  refine lv_dup hx hb dX9_tapeNumber_34 rfl ?_
  refine gf hC hK hP iX9 0 rfl rfl 1 (by decide) mw_fieldLink_RX9_13_MirrorDrill_taped_I (gs_eq (ln_lt (ln_set (ln_set hl_fs)) (by decide))) dX9_tapeNumber_35 ?_
  refine lv_iconst (v := 1) hx hb dX9_tapeNumber_38 (by decide) ?_
  refine lv_iadd hx hb dX9_tapeNumber_39 ?_
  refine lv_cst (v := 8) (by decide) ?_
  refine pf (v := .int 8) hC hK hP hD hS iX9 tyX9_ok nmX9 0 rfl rfl 1 (by decide) mw_fieldLink_RX9_13_MirrorDrill_taped_I rfl rfl rfl (ln_lt (ln_set (ln_set (ln_set hl_fs))) (by decide)) dX9_tapeNumber_40 (fun H locs hP hD hS => ?_)
  have hP : va_P D classes [(h0, .inr (9, ((((fs.set 1 (.int 5)).set 1 (.int 6)).set 1 (.int 7)).set 1 (.int 8)))), (tp, .inl (cyI, 1600, .inl f_20))] H := hP
  have hD : va_D A [(h0, .inr (9, ((((fs.set 1 (.int 5)).set 1 (.int 6)).set 1 (.int 7)).set 1 (.int 8)))), (tp, .inl (cyI, 1600, .inl f_20))] := hD
  refine lv_iinc (v := (-8)) (lv' := [(2, .int (-8)), (0, .ref h0), (1, .int v)]) hx hb dX9_tapeNumber_43 hl (k := 0) rfl (by decide) (by decide) rfl (fun ls hl => ?_)
  refine lv_goto (tgt := 3) hx hb dX9_tapeNumber_46 (by decide) ?_
  refine lv_iload_n hx hb dX9_tapeNumber_3 rfl (lv_at hl 0 rfl) ?_
  refine lv_if_lt (tgt := 49) hx hb dX9_tapeNumber_4 (by decide) (fun c_21 => ?_) (fun c_21 => absurd (by decide) c_21)
  exact retV hC hP hD hS (by decide) (by decide) f_20 [0, 1] rfl rfl trivial dX9_tapeNumber_49
set_option maxHeartbeats 4000000 in
set_option maxRecDepth 100000 in
theorem k_X9_tape_8 (l : Launch) (D : va_G) (cyB cyI cyJ cyZ : ClassId) (sz : Nat) (h0 : Nat) (v : Int32) (fs : List Value) (tp : Nat) (ftp : Nat → Int32) (hl_fs : fs.length = 17) (h_fs_0 : fs[0]? = some (.ref tp)) (h_fs_1 : fs[1]? = some (.int 8)) : KV l yX9_tapeNumber cX9_tapeNumber 3 0 0 0 D (TYS cyB cyI cyJ cyZ) [(h0, .inr (9, fs)), (tp, .inl (cyI, 1600, .inl ftp))] sz [.ref h0, .int v] (fun (u : (Nat → Int32)) => True) (fun (u : (Nat → Int32)) => ([(h0, .inr (9, ((((fs.set 1 (.int 9)).set 1 (.int 10)).set 1 (.int 11)).set 1 (.int 12)))), (tp, .inl (cyI, 1600, .inl u))] : va_W)) := by
  refine entV (by decide) (Nat.le_of_ble_eq_true rfl) ?_
  intro p e s m below meth c ls A hC hl hP hK hD hA
  obtain ⟨hx, hb, hr, hml, hown, hts, hlk, hnm⟩ := id hC
  have hS : va_S A s.heap s.heap [] := va_S.rf
  have hl : lv_has ls 3 [(0, .ref h0), (1, .int v)] := hl
  generalize hHe : s.heap = H at hP ⊢
  rw [hHe] at hS
  have hS : va_S A s.heap H [] := by rw [hHe]; exact hS
  refine lv_bipush (v := 24) hx hb dX9_tapeNumber_0 (by decide) ?_
  refine lv_istore_n (lv' := [(2, .int 24), (0, .ref h0), (1, .int v)]) hx hb dX9_tapeNumber_2 rfl hl (by decide) rfl (fun ls hl => ?_)
  refine lv_iload_n hx hb dX9_tapeNumber_3 rfl (lv_at hl 0 rfl) ?_
  refine lv_if_lt (tgt := 49) hx hb dX9_tapeNumber_4 (by decide) (fun c_1 => absurd c_1 (by decide)) (fun c_1 => ?_)
  refine lv_aload_n hx hb dX9_tapeNumber_7 rfl (lv_at hl 1 rfl) ?_
  refine gf hC hK hP iX9 0 rfl rfl 1 (by decide) mw_fieldLink_RX9_13_MirrorDrill_taped_I h_fs_1 dX9_tapeNumber_8 ?_
  refine lv_sipush (v := 1600) hx hb dX9_tapeNumber_11 (by decide) ?_
  refine lv_icmp_ge (tgt := 49) hx hb dX9_tapeNumber_14 (by decide) (fun c_2 => absurd c_2 (by decide)) (fun c_2 => ?_)
  refine lv_aload_n hx hb dX9_tapeNumber_17 rfl (lv_at hl 1 rfl) ?_
  refine gf hC hK hP iX9 0 rfl rfl 0 (by decide) mw_fieldLink_RX9_9_MirrorDrill_tape_I h_fs_0 dX9_tapeNumber_18 ?_
  refine lv_aload_n hx hb dX9_tapeNumber_21 rfl (lv_at hl 1 rfl) ?_
  refine gf hC hK hP iX9 0 rfl rfl 1 (by decide) mw_fieldLink_RX9_13_MirrorDrill_taped_I h_fs_1 dX9_tapeNumber_22 ?_
  refine lv_iload_n hx hb dX9_tapeNumber_25 rfl (lv_at hl 2 rfl) ?_
  refine lv_iload_n hx hb dX9_tapeNumber_26 rfl (lv_at hl 0 rfl) ?_
  obtain ⟨x_3, ex_3⟩ : ∃ z : Int32, (v.toUInt32 >>> ((24 : Int32).toUInt32 &&& Int32.toUInt32 31)).toInt32 = z := ⟨_, rfl⟩
  refine lv_iushr (v := x_3) hx hb dX9_tapeNumber_27 ex_3 ?_
  refine lv_sipush (v := 255) hx hb dX9_tapeNumber_28 (by decide) ?_
  refine lv_iand hx hb dX9_tapeNumber_31 ?_
  refine lv_topi (fun x_4 ex_4 => ?_)
  refine va_iast hx hb hK hP hD hS 1 1 rfl rfl (vin (by decide)) dX9_tapeNumber_32 (fun H locs hP hD hS => ?_)
  obtain ⟨f_5, ef_5⟩ : ∃ g : Nat → Int32, g = upd ftp ((8 : Int32).toNatClampNeg) x_4 := ⟨_, rfl⟩
  rw [← ef_5] at hP hD
  have hP : va_P D classes [(h0, .inr (9, fs)), (tp, .inl (cyI, 1600, .inl f_5))] H := hP
  have hD : va_D A [(h0, .inr (9, fs)), (tp, .inl (cyI, 1600, .inl f_5))] := hD
  refine lv_aload_n hx hb dX9_tapeNumber_33 rfl (lv_at hl 1 rfl) ?_
  refine lv_dup hx hb dX9_tapeNumber_34 rfl ?_
  refine gf hC hK hP iX9 0 rfl rfl 1 (by decide) mw_fieldLink_RX9_13_MirrorDrill_taped_I h_fs_1 dX9_tapeNumber_35 ?_
  refine lv_iconst (v := 1) hx hb dX9_tapeNumber_38 (by decide) ?_
  refine lv_iadd hx hb dX9_tapeNumber_39 ?_
  refine lv_cst (v := 9) (by decide) ?_
  refine pf (v := .int 9) hC hK hP hD hS iX9 tyX9_ok nmX9 0 rfl rfl 1 (by decide) mw_fieldLink_RX9_13_MirrorDrill_taped_I rfl rfl rfl (ln_lt hl_fs (by decide)) dX9_tapeNumber_40 (fun H locs hP hD hS => ?_)
  have hP : va_P D classes [(h0, .inr (9, (fs.set 1 (.int 9)))), (tp, .inl (cyI, 1600, .inl f_5))] H := hP
  have hD : va_D A [(h0, .inr (9, (fs.set 1 (.int 9)))), (tp, .inl (cyI, 1600, .inl f_5))] := hD
  refine lv_iinc (v := 16) (lv' := [(2, .int 16), (0, .ref h0), (1, .int v)]) hx hb dX9_tapeNumber_43 hl (k := 0) rfl (by decide) (by decide) rfl (fun ls hl => ?_)
  refine lv_goto (tgt := 3) hx hb dX9_tapeNumber_46 (by decide) ?_
  refine lv_iload_n hx hb dX9_tapeNumber_3 rfl (lv_at hl 0 rfl) ?_
  refine lv_if_lt (tgt := 49) hx hb dX9_tapeNumber_4 (by decide) (fun c_6 => absurd c_6 (by decide)) (fun c_6 => ?_)
  refine lv_aload_n hx hb dX9_tapeNumber_7 rfl (lv_at hl 1 rfl) ?_
  refine gf hC hK hP iX9 0 rfl rfl 1 (by decide) mw_fieldLink_RX9_13_MirrorDrill_taped_I (gs_eq (ln_lt hl_fs (by decide))) dX9_tapeNumber_8 ?_
  refine lv_sipush (v := 1600) hx hb dX9_tapeNumber_11 (by decide) ?_
  refine lv_icmp_ge (tgt := 49) hx hb dX9_tapeNumber_14 (by decide) (fun c_7 => absurd c_7 (by decide)) (fun c_7 => ?_)
  refine lv_aload_n hx hb dX9_tapeNumber_17 rfl (lv_at hl 1 rfl) ?_
  refine gf hC hK hP iX9 0 rfl rfl 0 (by decide) mw_fieldLink_RX9_9_MirrorDrill_tape_I (gs_ne (by decide) h_fs_0) dX9_tapeNumber_18 ?_
  refine lv_aload_n hx hb dX9_tapeNumber_21 rfl (lv_at hl 1 rfl) ?_
  refine gf hC hK hP iX9 0 rfl rfl 1 (by decide) mw_fieldLink_RX9_13_MirrorDrill_taped_I (gs_eq (ln_lt hl_fs (by decide))) dX9_tapeNumber_22 ?_
  refine lv_iload_n hx hb dX9_tapeNumber_25 rfl (lv_at hl 2 rfl) ?_
  refine lv_iload_n hx hb dX9_tapeNumber_26 rfl (lv_at hl 0 rfl) ?_
  obtain ⟨x_8, ex_8⟩ : ∃ z : Int32, (v.toUInt32 >>> ((16 : Int32).toUInt32 &&& Int32.toUInt32 31)).toInt32 = z := ⟨_, rfl⟩
  refine lv_iushr (v := x_8) hx hb dX9_tapeNumber_27 ex_8 ?_
  refine lv_sipush (v := 255) hx hb dX9_tapeNumber_28 (by decide) ?_
  refine lv_iand hx hb dX9_tapeNumber_31 ?_
  refine lv_topi (fun x_9 ex_9 => ?_)
  refine va_iast hx hb hK hP hD hS 1 1 rfl rfl (vin (by decide)) dX9_tapeNumber_32 (fun H locs hP hD hS => ?_)
  obtain ⟨f_10, ef_10⟩ : ∃ g : Nat → Int32, g = upd f_5 ((9 : Int32).toNatClampNeg) x_9 := ⟨_, rfl⟩
  rw [← ef_10] at hP hD
  have hP : va_P D classes [(h0, .inr (9, (fs.set 1 (.int 9)))), (tp, .inl (cyI, 1600, .inl f_10))] H := hP
  have hD : va_D A [(h0, .inr (9, (fs.set 1 (.int 9)))), (tp, .inl (cyI, 1600, .inl f_10))] := hD
  refine lv_aload_n hx hb dX9_tapeNumber_33 rfl (lv_at hl 1 rfl) ?_
  refine lv_dup hx hb dX9_tapeNumber_34 rfl ?_
  refine gf hC hK hP iX9 0 rfl rfl 1 (by decide) mw_fieldLink_RX9_13_MirrorDrill_taped_I (gs_eq (ln_lt hl_fs (by decide))) dX9_tapeNumber_35 ?_
  refine lv_iconst (v := 1) hx hb dX9_tapeNumber_38 (by decide) ?_
  refine lv_iadd hx hb dX9_tapeNumber_39 ?_
  refine lv_cst (v := 10) (by decide) ?_
  refine pf (v := .int 10) hC hK hP hD hS iX9 tyX9_ok nmX9 0 rfl rfl 1 (by decide) mw_fieldLink_RX9_13_MirrorDrill_taped_I rfl rfl rfl (ln_lt (ln_set hl_fs) (by decide)) dX9_tapeNumber_40 (fun H locs hP hD hS => ?_)
  have hP : va_P D classes [(h0, .inr (9, ((fs.set 1 (.int 9)).set 1 (.int 10)))), (tp, .inl (cyI, 1600, .inl f_10))] H := hP
  have hD : va_D A [(h0, .inr (9, ((fs.set 1 (.int 9)).set 1 (.int 10)))), (tp, .inl (cyI, 1600, .inl f_10))] := hD
  refine lv_iinc (v := 8) (lv' := [(2, .int 8), (0, .ref h0), (1, .int v)]) hx hb dX9_tapeNumber_43 hl (k := 0) rfl (by decide) (by decide) rfl (fun ls hl => ?_)
  refine lv_goto (tgt := 3) hx hb dX9_tapeNumber_46 (by decide) ?_
  refine lv_iload_n hx hb dX9_tapeNumber_3 rfl (lv_at hl 0 rfl) ?_
  refine lv_if_lt (tgt := 49) hx hb dX9_tapeNumber_4 (by decide) (fun c_11 => absurd c_11 (by decide)) (fun c_11 => ?_)
  refine lv_aload_n hx hb dX9_tapeNumber_7 rfl (lv_at hl 1 rfl) ?_
  refine gf hC hK hP iX9 0 rfl rfl 1 (by decide) mw_fieldLink_RX9_13_MirrorDrill_taped_I (gs_eq (ln_lt (ln_set hl_fs) (by decide))) dX9_tapeNumber_8 ?_
  refine lv_sipush (v := 1600) hx hb dX9_tapeNumber_11 (by decide) ?_
  refine lv_icmp_ge (tgt := 49) hx hb dX9_tapeNumber_14 (by decide) (fun c_12 => absurd c_12 (by decide)) (fun c_12 => ?_)
  refine lv_aload_n hx hb dX9_tapeNumber_17 rfl (lv_at hl 1 rfl) ?_
  refine gf hC hK hP iX9 0 rfl rfl 0 (by decide) mw_fieldLink_RX9_9_MirrorDrill_tape_I (gs_ne (by decide) (gs_ne (by decide) h_fs_0)) dX9_tapeNumber_18 ?_
  refine lv_aload_n hx hb dX9_tapeNumber_21 rfl (lv_at hl 1 rfl) ?_
  refine gf hC hK hP iX9 0 rfl rfl 1 (by decide) mw_fieldLink_RX9_13_MirrorDrill_taped_I (gs_eq (ln_lt (ln_set hl_fs) (by decide))) dX9_tapeNumber_22 ?_
  refine lv_iload_n hx hb dX9_tapeNumber_25 rfl (lv_at hl 2 rfl) ?_
  refine lv_iload_n hx hb dX9_tapeNumber_26 rfl (lv_at hl 0 rfl) ?_
  obtain ⟨x_13, ex_13⟩ : ∃ z : Int32, (v.toUInt32 >>> ((8 : Int32).toUInt32 &&& Int32.toUInt32 31)).toInt32 = z := ⟨_, rfl⟩
  refine lv_iushr (v := x_13) hx hb dX9_tapeNumber_27 ex_13 ?_
  refine lv_sipush (v := 255) hx hb dX9_tapeNumber_28 (by decide) ?_
  refine lv_iand hx hb dX9_tapeNumber_31 ?_
  refine lv_topi (fun x_14 ex_14 => ?_)
  refine va_iast hx hb hK hP hD hS 1 1 rfl rfl (vin (by decide)) dX9_tapeNumber_32 (fun H locs hP hD hS => ?_)
  obtain ⟨f_15, ef_15⟩ : ∃ g : Nat → Int32, g = upd f_10 ((10 : Int32).toNatClampNeg) x_14 := ⟨_, rfl⟩
  rw [← ef_15] at hP hD
  have hP : va_P D classes [(h0, .inr (9, ((fs.set 1 (.int 9)).set 1 (.int 10)))), (tp, .inl (cyI, 1600, .inl f_15))] H := hP
  have hD : va_D A [(h0, .inr (9, ((fs.set 1 (.int 9)).set 1 (.int 10)))), (tp, .inl (cyI, 1600, .inl f_15))] := hD
  refine lv_aload_n hx hb dX9_tapeNumber_33 rfl (lv_at hl 1 rfl) ?_
  refine lv_dup hx hb dX9_tapeNumber_34 rfl ?_
  refine gf hC hK hP iX9 0 rfl rfl 1 (by decide) mw_fieldLink_RX9_13_MirrorDrill_taped_I (gs_eq (ln_lt (ln_set hl_fs) (by decide))) dX9_tapeNumber_35 ?_
  refine lv_iconst (v := 1) hx hb dX9_tapeNumber_38 (by decide) ?_
  refine lv_iadd hx hb dX9_tapeNumber_39 ?_
  refine lv_cst (v := 11) (by decide) ?_
  refine pf (v := .int 11) hC hK hP hD hS iX9 tyX9_ok nmX9 0 rfl rfl 1 (by decide) mw_fieldLink_RX9_13_MirrorDrill_taped_I rfl rfl rfl (ln_lt (ln_set (ln_set hl_fs)) (by decide)) dX9_tapeNumber_40 (fun H locs hP hD hS => ?_)
  have hP : va_P D classes [(h0, .inr (9, (((fs.set 1 (.int 9)).set 1 (.int 10)).set 1 (.int 11)))), (tp, .inl (cyI, 1600, .inl f_15))] H := hP
  have hD : va_D A [(h0, .inr (9, (((fs.set 1 (.int 9)).set 1 (.int 10)).set 1 (.int 11)))), (tp, .inl (cyI, 1600, .inl f_15))] := hD
  refine lv_iinc (v := 0) (lv' := [(2, .int 0), (0, .ref h0), (1, .int v)]) hx hb dX9_tapeNumber_43 hl (k := 0) rfl (by decide) (by decide) rfl (fun ls hl => ?_)
  refine lv_goto (tgt := 3) hx hb dX9_tapeNumber_46 (by decide) ?_
  refine lv_iload_n hx hb dX9_tapeNumber_3 rfl (lv_at hl 0 rfl) ?_
  refine lv_if_lt (tgt := 49) hx hb dX9_tapeNumber_4 (by decide) (fun c_16 => absurd c_16 (by decide)) (fun c_16 => ?_)
  refine lv_aload_n hx hb dX9_tapeNumber_7 rfl (lv_at hl 1 rfl) ?_
  refine gf hC hK hP iX9 0 rfl rfl 1 (by decide) mw_fieldLink_RX9_13_MirrorDrill_taped_I (gs_eq (ln_lt (ln_set (ln_set hl_fs)) (by decide))) dX9_tapeNumber_8 ?_
  refine lv_sipush (v := 1600) hx hb dX9_tapeNumber_11 (by decide) ?_
  refine lv_icmp_ge (tgt := 49) hx hb dX9_tapeNumber_14 (by decide) (fun c_17 => absurd c_17 (by decide)) (fun c_17 => ?_)
  refine lv_aload_n hx hb dX9_tapeNumber_17 rfl (lv_at hl 1 rfl) ?_
  refine gf hC hK hP iX9 0 rfl rfl 0 (by decide) mw_fieldLink_RX9_9_MirrorDrill_tape_I (gs_ne (by decide) (gs_ne (by decide) (gs_ne (by decide) h_fs_0))) dX9_tapeNumber_18 ?_
  refine lv_aload_n hx hb dX9_tapeNumber_21 rfl (lv_at hl 1 rfl) ?_
  refine gf hC hK hP iX9 0 rfl rfl 1 (by decide) mw_fieldLink_RX9_13_MirrorDrill_taped_I (gs_eq (ln_lt (ln_set (ln_set hl_fs)) (by decide))) dX9_tapeNumber_22 ?_
  refine lv_iload_n hx hb dX9_tapeNumber_25 rfl (lv_at hl 2 rfl) ?_
  refine lv_iload_n hx hb dX9_tapeNumber_26 rfl (lv_at hl 0 rfl) ?_
  obtain ⟨x_18, ex_18⟩ : ∃ z : Int32, (v.toUInt32 >>> ((0 : Int32).toUInt32 &&& Int32.toUInt32 31)).toInt32 = z := ⟨_, rfl⟩
  refine lv_iushr (v := x_18) hx hb dX9_tapeNumber_27 ex_18 ?_
  refine lv_sipush (v := 255) hx hb dX9_tapeNumber_28 (by decide) ?_
  refine lv_iand hx hb dX9_tapeNumber_31 ?_
  refine lv_topi (fun x_19 ex_19 => ?_)
  refine va_iast hx hb hK hP hD hS 1 1 rfl rfl (vin (by decide)) dX9_tapeNumber_32 (fun H locs hP hD hS => ?_)
  obtain ⟨f_20, ef_20⟩ : ∃ g : Nat → Int32, g = upd f_15 ((11 : Int32).toNatClampNeg) x_19 := ⟨_, rfl⟩
  rw [← ef_20] at hP hD
  have hP : va_P D classes [(h0, .inr (9, (((fs.set 1 (.int 9)).set 1 (.int 10)).set 1 (.int 11)))), (tp, .inl (cyI, 1600, .inl f_20))] H := hP
  have hD : va_D A [(h0, .inr (9, (((fs.set 1 (.int 9)).set 1 (.int 10)).set 1 (.int 11)))), (tp, .inl (cyI, 1600, .inl f_20))] := hD
  refine lv_aload_n hx hb dX9_tapeNumber_33 rfl (lv_at hl 1 rfl) ?_
  refine lv_dup hx hb dX9_tapeNumber_34 rfl ?_
  refine gf hC hK hP iX9 0 rfl rfl 1 (by decide) mw_fieldLink_RX9_13_MirrorDrill_taped_I (gs_eq (ln_lt (ln_set (ln_set hl_fs)) (by decide))) dX9_tapeNumber_35 ?_
  refine lv_iconst (v := 1) hx hb dX9_tapeNumber_38 (by decide) ?_
  refine lv_iadd hx hb dX9_tapeNumber_39 ?_
  refine lv_cst (v := 12) (by decide) ?_
  refine pf (v := .int 12) hC hK hP hD hS iX9 tyX9_ok nmX9 0 rfl rfl 1 (by decide) mw_fieldLink_RX9_13_MirrorDrill_taped_I rfl rfl rfl (ln_lt (ln_set (ln_set (ln_set hl_fs))) (by decide)) dX9_tapeNumber_40 (fun H locs hP hD hS => ?_)
  have hP : va_P D classes [(h0, .inr (9, ((((fs.set 1 (.int 9)).set 1 (.int 10)).set 1 (.int 11)).set 1 (.int 12)))), (tp, .inl (cyI, 1600, .inl f_20))] H := hP
  have hD : va_D A [(h0, .inr (9, ((((fs.set 1 (.int 9)).set 1 (.int 10)).set 1 (.int 11)).set 1 (.int 12)))), (tp, .inl (cyI, 1600, .inl f_20))] := hD
  refine lv_iinc (v := (-8)) (lv' := [(2, .int (-8)), (0, .ref h0), (1, .int v)]) hx hb dX9_tapeNumber_43 hl (k := 0) rfl (by decide) (by decide) rfl (fun ls hl => ?_)
  refine lv_goto (tgt := 3) hx hb dX9_tapeNumber_46 (by decide) ?_
  refine lv_iload_n hx hb dX9_tapeNumber_3 rfl (lv_at hl 0 rfl) ?_
  refine lv_if_lt (tgt := 49) hx hb dX9_tapeNumber_4 (by decide) (fun c_21 => ?_) (fun c_21 => absurd (by decide) c_21)
  exact retV hC hP hD hS (by decide) (by decide) f_20 [0, 1] rfl rfl trivial dX9_tapeNumber_49
set_option maxHeartbeats 4000000 in
set_option maxRecDepth 100000 in
theorem k_X9_tape_12 (l : Launch) (D : va_G) (cyB cyI cyJ cyZ : ClassId) (sz : Nat) (h0 : Nat) (v : Int32) (fs : List Value) (tp : Nat) (ftp : Nat → Int32) (hl_fs : fs.length = 17) (h_fs_0 : fs[0]? = some (.ref tp)) (h_fs_1 : fs[1]? = some (.int 12)) : KV l yX9_tapeNumber cX9_tapeNumber 3 0 0 0 D (TYS cyB cyI cyJ cyZ) [(h0, .inr (9, fs)), (tp, .inl (cyI, 1600, .inl ftp))] sz [.ref h0, .int v] (fun (u : (Nat → Int32)) => True) (fun (u : (Nat → Int32)) => ([(h0, .inr (9, ((((fs.set 1 (.int 13)).set 1 (.int 14)).set 1 (.int 15)).set 1 (.int 16)))), (tp, .inl (cyI, 1600, .inl u))] : va_W)) := by
  refine entV (by decide) (Nat.le_of_ble_eq_true rfl) ?_
  intro p e s m below meth c ls A hC hl hP hK hD hA
  obtain ⟨hx, hb, hr, hml, hown, hts, hlk, hnm⟩ := id hC
  have hS : va_S A s.heap s.heap [] := va_S.rf
  have hl : lv_has ls 3 [(0, .ref h0), (1, .int v)] := hl
  generalize hHe : s.heap = H at hP ⊢
  rw [hHe] at hS
  have hS : va_S A s.heap H [] := by rw [hHe]; exact hS
  refine lv_bipush (v := 24) hx hb dX9_tapeNumber_0 (by decide) ?_
  refine lv_istore_n (lv' := [(2, .int 24), (0, .ref h0), (1, .int v)]) hx hb dX9_tapeNumber_2 rfl hl (by decide) rfl (fun ls hl => ?_)
  refine lv_iload_n hx hb dX9_tapeNumber_3 rfl (lv_at hl 0 rfl) ?_
  refine lv_if_lt (tgt := 49) hx hb dX9_tapeNumber_4 (by decide) (fun c_1 => absurd c_1 (by decide)) (fun c_1 => ?_)
  refine lv_aload_n hx hb dX9_tapeNumber_7 rfl (lv_at hl 1 rfl) ?_
  refine gf hC hK hP iX9 0 rfl rfl 1 (by decide) mw_fieldLink_RX9_13_MirrorDrill_taped_I h_fs_1 dX9_tapeNumber_8 ?_
  refine lv_sipush (v := 1600) hx hb dX9_tapeNumber_11 (by decide) ?_
  refine lv_icmp_ge (tgt := 49) hx hb dX9_tapeNumber_14 (by decide) (fun c_2 => absurd c_2 (by decide)) (fun c_2 => ?_)
  refine lv_aload_n hx hb dX9_tapeNumber_17 rfl (lv_at hl 1 rfl) ?_
  refine gf hC hK hP iX9 0 rfl rfl 0 (by decide) mw_fieldLink_RX9_9_MirrorDrill_tape_I h_fs_0 dX9_tapeNumber_18 ?_
  refine lv_aload_n hx hb dX9_tapeNumber_21 rfl (lv_at hl 1 rfl) ?_
  refine gf hC hK hP iX9 0 rfl rfl 1 (by decide) mw_fieldLink_RX9_13_MirrorDrill_taped_I h_fs_1 dX9_tapeNumber_22 ?_
  refine lv_iload_n hx hb dX9_tapeNumber_25 rfl (lv_at hl 2 rfl) ?_
  refine lv_iload_n hx hb dX9_tapeNumber_26 rfl (lv_at hl 0 rfl) ?_
  obtain ⟨x_3, ex_3⟩ : ∃ z : Int32, (v.toUInt32 >>> ((24 : Int32).toUInt32 &&& Int32.toUInt32 31)).toInt32 = z := ⟨_, rfl⟩
  refine lv_iushr (v := x_3) hx hb dX9_tapeNumber_27 ex_3 ?_
  refine lv_sipush (v := 255) hx hb dX9_tapeNumber_28 (by decide) ?_
  refine lv_iand hx hb dX9_tapeNumber_31 ?_
  refine lv_topi (fun x_4 ex_4 => ?_)
  refine va_iast hx hb hK hP hD hS 1 1 rfl rfl (vin (by decide)) dX9_tapeNumber_32 (fun H locs hP hD hS => ?_)
  obtain ⟨f_5, ef_5⟩ : ∃ g : Nat → Int32, g = upd ftp ((12 : Int32).toNatClampNeg) x_4 := ⟨_, rfl⟩
  rw [← ef_5] at hP hD
  have hP : va_P D classes [(h0, .inr (9, fs)), (tp, .inl (cyI, 1600, .inl f_5))] H := hP
  have hD : va_D A [(h0, .inr (9, fs)), (tp, .inl (cyI, 1600, .inl f_5))] := hD
  refine lv_aload_n hx hb dX9_tapeNumber_33 rfl (lv_at hl 1 rfl) ?_
  refine lv_dup hx hb dX9_tapeNumber_34 rfl ?_
  refine gf hC hK hP iX9 0 rfl rfl 1 (by decide) mw_fieldLink_RX9_13_MirrorDrill_taped_I h_fs_1 dX9_tapeNumber_35 ?_
  refine lv_iconst (v := 1) hx hb dX9_tapeNumber_38 (by decide) ?_
  refine lv_iadd hx hb dX9_tapeNumber_39 ?_
  refine lv_cst (v := 13) (by decide) ?_
  refine pf (v := .int 13) hC hK hP hD hS iX9 tyX9_ok nmX9 0 rfl rfl 1 (by decide) mw_fieldLink_RX9_13_MirrorDrill_taped_I rfl rfl rfl (ln_lt hl_fs (by decide)) dX9_tapeNumber_40 (fun H locs hP hD hS => ?_)
  have hP : va_P D classes [(h0, .inr (9, (fs.set 1 (.int 13)))), (tp, .inl (cyI, 1600, .inl f_5))] H := hP
  have hD : va_D A [(h0, .inr (9, (fs.set 1 (.int 13)))), (tp, .inl (cyI, 1600, .inl f_5))] := hD
  refine lv_iinc (v := 16) (lv' := [(2, .int 16), (0, .ref h0), (1, .int v)]) hx hb dX9_tapeNumber_43 hl (k := 0) rfl (by decide) (by decide) rfl (fun ls hl => ?_)
  refine lv_goto (tgt := 3) hx hb dX9_tapeNumber_46 (by decide) ?_
  refine lv_iload_n hx hb dX9_tapeNumber_3 rfl (lv_at hl 0 rfl) ?_
  refine lv_if_lt (tgt := 49) hx hb dX9_tapeNumber_4 (by decide) (fun c_6 => absurd c_6 (by decide)) (fun c_6 => ?_)
  refine lv_aload_n hx hb dX9_tapeNumber_7 rfl (lv_at hl 1 rfl) ?_
  refine gf hC hK hP iX9 0 rfl rfl 1 (by decide) mw_fieldLink_RX9_13_MirrorDrill_taped_I (gs_eq (ln_lt hl_fs (by decide))) dX9_tapeNumber_8 ?_
  refine lv_sipush (v := 1600) hx hb dX9_tapeNumber_11 (by decide) ?_
  refine lv_icmp_ge (tgt := 49) hx hb dX9_tapeNumber_14 (by decide) (fun c_7 => absurd c_7 (by decide)) (fun c_7 => ?_)
  refine lv_aload_n hx hb dX9_tapeNumber_17 rfl (lv_at hl 1 rfl) ?_
  refine gf hC hK hP iX9 0 rfl rfl 0 (by decide) mw_fieldLink_RX9_9_MirrorDrill_tape_I (gs_ne (by decide) h_fs_0) dX9_tapeNumber_18 ?_
  refine lv_aload_n hx hb dX9_tapeNumber_21 rfl (lv_at hl 1 rfl) ?_
  refine gf hC hK hP iX9 0 rfl rfl 1 (by decide) mw_fieldLink_RX9_13_MirrorDrill_taped_I (gs_eq (ln_lt hl_fs (by decide))) dX9_tapeNumber_22 ?_
  refine lv_iload_n hx hb dX9_tapeNumber_25 rfl (lv_at hl 2 rfl) ?_
  refine lv_iload_n hx hb dX9_tapeNumber_26 rfl (lv_at hl 0 rfl) ?_
  obtain ⟨x_8, ex_8⟩ : ∃ z : Int32, (v.toUInt32 >>> ((16 : Int32).toUInt32 &&& Int32.toUInt32 31)).toInt32 = z := ⟨_, rfl⟩
  refine lv_iushr (v := x_8) hx hb dX9_tapeNumber_27 ex_8 ?_
  refine lv_sipush (v := 255) hx hb dX9_tapeNumber_28 (by decide) ?_
  refine lv_iand hx hb dX9_tapeNumber_31 ?_
  refine lv_topi (fun x_9 ex_9 => ?_)
  refine va_iast hx hb hK hP hD hS 1 1 rfl rfl (vin (by decide)) dX9_tapeNumber_32 (fun H locs hP hD hS => ?_)
  obtain ⟨f_10, ef_10⟩ : ∃ g : Nat → Int32, g = upd f_5 ((13 : Int32).toNatClampNeg) x_9 := ⟨_, rfl⟩
  rw [← ef_10] at hP hD
  have hP : va_P D classes [(h0, .inr (9, (fs.set 1 (.int 13)))), (tp, .inl (cyI, 1600, .inl f_10))] H := hP
  have hD : va_D A [(h0, .inr (9, (fs.set 1 (.int 13)))), (tp, .inl (cyI, 1600, .inl f_10))] := hD
  refine lv_aload_n hx hb dX9_tapeNumber_33 rfl (lv_at hl 1 rfl) ?_
  refine lv_dup hx hb dX9_tapeNumber_34 rfl ?_
  refine gf hC hK hP iX9 0 rfl rfl 1 (by decide) mw_fieldLink_RX9_13_MirrorDrill_taped_I (gs_eq (ln_lt hl_fs (by decide))) dX9_tapeNumber_35 ?_
  refine lv_iconst (v := 1) hx hb dX9_tapeNumber_38 (by decide) ?_
  refine lv_iadd hx hb dX9_tapeNumber_39 ?_
  refine lv_cst (v := 14) (by decide) ?_
  refine pf (v := .int 14) hC hK hP hD hS iX9 tyX9_ok nmX9 0 rfl rfl 1 (by decide) mw_fieldLink_RX9_13_MirrorDrill_taped_I rfl rfl rfl (ln_lt (ln_set hl_fs) (by decide)) dX9_tapeNumber_40 (fun H locs hP hD hS => ?_)
  have hP : va_P D classes [(h0, .inr (9, ((fs.set 1 (.int 13)).set 1 (.int 14)))), (tp, .inl (cyI, 1600, .inl f_10))] H := hP
  have hD : va_D A [(h0, .inr (9, ((fs.set 1 (.int 13)).set 1 (.int 14)))), (tp, .inl (cyI, 1600, .inl f_10))] := hD
  refine lv_iinc (v := 8) (lv' := [(2, .int 8), (0, .ref h0), (1, .int v)]) hx hb dX9_tapeNumber_43 hl (k := 0) rfl (by decide) (by decide) rfl (fun ls hl => ?_)
  refine lv_goto (tgt := 3) hx hb dX9_tapeNumber_46 (by decide) ?_
  refine lv_iload_n hx hb dX9_tapeNumber_3 rfl (lv_at hl 0 rfl) ?_
  refine lv_if_lt (tgt := 49) hx hb dX9_tapeNumber_4 (by decide) (fun c_11 => absurd c_11 (by decide)) (fun c_11 => ?_)
  refine lv_aload_n hx hb dX9_tapeNumber_7 rfl (lv_at hl 1 rfl) ?_
  refine gf hC hK hP iX9 0 rfl rfl 1 (by decide) mw_fieldLink_RX9_13_MirrorDrill_taped_I (gs_eq (ln_lt (ln_set hl_fs) (by decide))) dX9_tapeNumber_8 ?_
  refine lv_sipush (v := 1600) hx hb dX9_tapeNumber_11 (by decide) ?_
  refine lv_icmp_ge (tgt := 49) hx hb dX9_tapeNumber_14 (by decide) (fun c_12 => absurd c_12 (by decide)) (fun c_12 => ?_)
  refine lv_aload_n hx hb dX9_tapeNumber_17 rfl (lv_at hl 1 rfl) ?_
  refine gf hC hK hP iX9 0 rfl rfl 0 (by decide) mw_fieldLink_RX9_9_MirrorDrill_tape_I (gs_ne (by decide) (gs_ne (by decide) h_fs_0)) dX9_tapeNumber_18 ?_
  refine lv_aload_n hx hb dX9_tapeNumber_21 rfl (lv_at hl 1 rfl) ?_
  refine gf hC hK hP iX9 0 rfl rfl 1 (by decide) mw_fieldLink_RX9_13_MirrorDrill_taped_I (gs_eq (ln_lt (ln_set hl_fs) (by decide))) dX9_tapeNumber_22 ?_
  refine lv_iload_n hx hb dX9_tapeNumber_25 rfl (lv_at hl 2 rfl) ?_
  refine lv_iload_n hx hb dX9_tapeNumber_26 rfl (lv_at hl 0 rfl) ?_
  obtain ⟨x_13, ex_13⟩ : ∃ z : Int32, (v.toUInt32 >>> ((8 : Int32).toUInt32 &&& Int32.toUInt32 31)).toInt32 = z := ⟨_, rfl⟩
  refine lv_iushr (v := x_13) hx hb dX9_tapeNumber_27 ex_13 ?_
  refine lv_sipush (v := 255) hx hb dX9_tapeNumber_28 (by decide) ?_
  refine lv_iand hx hb dX9_tapeNumber_31 ?_
  refine lv_topi (fun x_14 ex_14 => ?_)
  refine va_iast hx hb hK hP hD hS 1 1 rfl rfl (vin (by decide)) dX9_tapeNumber_32 (fun H locs hP hD hS => ?_)
  obtain ⟨f_15, ef_15⟩ : ∃ g : Nat → Int32, g = upd f_10 ((14 : Int32).toNatClampNeg) x_14 := ⟨_, rfl⟩
  rw [← ef_15] at hP hD
  have hP : va_P D classes [(h0, .inr (9, ((fs.set 1 (.int 13)).set 1 (.int 14)))), (tp, .inl (cyI, 1600, .inl f_15))] H := hP
  have hD : va_D A [(h0, .inr (9, ((fs.set 1 (.int 13)).set 1 (.int 14)))), (tp, .inl (cyI, 1600, .inl f_15))] := hD
  refine lv_aload_n hx hb dX9_tapeNumber_33 rfl (lv_at hl 1 rfl) ?_
  refine lv_dup hx hb dX9_tapeNumber_34 rfl ?_
  refine gf hC hK hP iX9 0 rfl rfl 1 (by decide) mw_fieldLink_RX9_13_MirrorDrill_taped_I (gs_eq (ln_lt (ln_set hl_fs) (by decide))) dX9_tapeNumber_35 ?_
  refine lv_iconst (v := 1) hx hb dX9_tapeNumber_38 (by decide) ?_
  refine lv_iadd hx hb dX9_tapeNumber_39 ?_
  refine lv_cst (v := 15) (by decide) ?_
  refine pf (v := .int 15) hC hK hP hD hS iX9 tyX9_ok nmX9 0 rfl rfl 1 (by decide) mw_fieldLink_RX9_13_MirrorDrill_taped_I rfl rfl rfl (ln_lt (ln_set (ln_set hl_fs)) (by decide)) dX9_tapeNumber_40 (fun H locs hP hD hS => ?_)
  have hP : va_P D classes [(h0, .inr (9, (((fs.set 1 (.int 13)).set 1 (.int 14)).set 1 (.int 15)))), (tp, .inl (cyI, 1600, .inl f_15))] H := hP
  have hD : va_D A [(h0, .inr (9, (((fs.set 1 (.int 13)).set 1 (.int 14)).set 1 (.int 15)))), (tp, .inl (cyI, 1600, .inl f_15))] := hD
  refine lv_iinc (v := 0) (lv' := [(2, .int 0), (0, .ref h0), (1, .int v)]) hx hb dX9_tapeNumber_43 hl (k := 0) rfl (by decide) (by decide) rfl (fun ls hl => ?_)
  refine lv_goto (tgt := 3) hx hb dX9_tapeNumber_46 (by decide) ?_
  refine lv_iload_n hx hb dX9_tapeNumber_3 rfl (lv_at hl 0 rfl) ?_
  refine lv_if_lt (tgt := 49) hx hb dX9_tapeNumber_4 (by decide) (fun c_16 => absurd c_16 (by decide)) (fun c_16 => ?_)
  refine lv_aload_n hx hb dX9_tapeNumber_7 rfl (lv_at hl 1 rfl) ?_
  refine gf hC hK hP iX9 0 rfl rfl 1 (by decide) mw_fieldLink_RX9_13_MirrorDrill_taped_I (gs_eq (ln_lt (ln_set (ln_set hl_fs)) (by decide))) dX9_tapeNumber_8 ?_
  refine lv_sipush (v := 1600) hx hb dX9_tapeNumber_11 (by decide) ?_
  refine lv_icmp_ge (tgt := 49) hx hb dX9_tapeNumber_14 (by decide) (fun c_17 => absurd c_17 (by decide)) (fun c_17 => ?_)
  refine lv_aload_n hx hb dX9_tapeNumber_17 rfl (lv_at hl 1 rfl) ?_
  refine gf hC hK hP iX9 0 rfl rfl 0 (by decide) mw_fieldLink_RX9_9_MirrorDrill_tape_I (gs_ne (by decide) (gs_ne (by decide) (gs_ne (by decide) h_fs_0))) dX9_tapeNumber_18 ?_
  refine lv_aload_n hx hb dX9_tapeNumber_21 rfl (lv_at hl 1 rfl) ?_
  refine gf hC hK hP iX9 0 rfl rfl 1 (by decide) mw_fieldLink_RX9_13_MirrorDrill_taped_I (gs_eq (ln_lt (ln_set (ln_set hl_fs)) (by decide))) dX9_tapeNumber_22 ?_
  refine lv_iload_n hx hb dX9_tapeNumber_25 rfl (lv_at hl 2 rfl) ?_
  refine lv_iload_n hx hb dX9_tapeNumber_26 rfl (lv_at hl 0 rfl) ?_
  obtain ⟨x_18, ex_18⟩ : ∃ z : Int32, (v.toUInt32 >>> ((0 : Int32).toUInt32 &&& Int32.toUInt32 31)).toInt32 = z := ⟨_, rfl⟩
  refine lv_iushr (v := x_18) hx hb dX9_tapeNumber_27 ex_18 ?_
  refine lv_sipush (v := 255) hx hb dX9_tapeNumber_28 (by decide) ?_
  refine lv_iand hx hb dX9_tapeNumber_31 ?_
  refine lv_topi (fun x_19 ex_19 => ?_)
  refine va_iast hx hb hK hP hD hS 1 1 rfl rfl (vin (by decide)) dX9_tapeNumber_32 (fun H locs hP hD hS => ?_)
  obtain ⟨f_20, ef_20⟩ : ∃ g : Nat → Int32, g = upd f_15 ((15 : Int32).toNatClampNeg) x_19 := ⟨_, rfl⟩
  rw [← ef_20] at hP hD
  have hP : va_P D classes [(h0, .inr (9, (((fs.set 1 (.int 13)).set 1 (.int 14)).set 1 (.int 15)))), (tp, .inl (cyI, 1600, .inl f_20))] H := hP
  have hD : va_D A [(h0, .inr (9, (((fs.set 1 (.int 13)).set 1 (.int 14)).set 1 (.int 15)))), (tp, .inl (cyI, 1600, .inl f_20))] := hD
  refine lv_aload_n hx hb dX9_tapeNumber_33 rfl (lv_at hl 1 rfl) ?_
  refine lv_dup hx hb dX9_tapeNumber_34 rfl ?_
  refine gf hC hK hP iX9 0 rfl rfl 1 (by decide) mw_fieldLink_RX9_13_MirrorDrill_taped_I (gs_eq (ln_lt (ln_set (ln_set hl_fs)) (by decide))) dX9_tapeNumber_35 ?_
  refine lv_iconst (v := 1) hx hb dX9_tapeNumber_38 (by decide) ?_
  refine lv_iadd hx hb dX9_tapeNumber_39 ?_
  refine lv_cst (v := 16) (by decide) ?_
  refine pf (v := .int 16) hC hK hP hD hS iX9 tyX9_ok nmX9 0 rfl rfl 1 (by decide) mw_fieldLink_RX9_13_MirrorDrill_taped_I rfl rfl rfl (ln_lt (ln_set (ln_set (ln_set hl_fs))) (by decide)) dX9_tapeNumber_40 (fun H locs hP hD hS => ?_)
  have hP : va_P D classes [(h0, .inr (9, ((((fs.set 1 (.int 13)).set 1 (.int 14)).set 1 (.int 15)).set 1 (.int 16)))), (tp, .inl (cyI, 1600, .inl f_20))] H := hP
  have hD : va_D A [(h0, .inr (9, ((((fs.set 1 (.int 13)).set 1 (.int 14)).set 1 (.int 15)).set 1 (.int 16)))), (tp, .inl (cyI, 1600, .inl f_20))] := hD
  refine lv_iinc (v := (-8)) (lv' := [(2, .int (-8)), (0, .ref h0), (1, .int v)]) hx hb dX9_tapeNumber_43 hl (k := 0) rfl (by decide) (by decide) rfl (fun ls hl => ?_)
  refine lv_goto (tgt := 3) hx hb dX9_tapeNumber_46 (by decide) ?_
  refine lv_iload_n hx hb dX9_tapeNumber_3 rfl (lv_at hl 0 rfl) ?_
  refine lv_if_lt (tgt := 49) hx hb dX9_tapeNumber_4 (by decide) (fun c_21 => ?_) (fun c_21 => absurd (by decide) c_21)
  exact retV hC hP hD hS (by decide) (by decide) f_20 [0, 1] rfl rfl trivial dX9_tapeNumber_49
set_option maxHeartbeats 4000000 in
set_option maxRecDepth 100000 in
theorem k_X9_tape_16 (l : Launch) (D : va_G) (cyB cyI cyJ cyZ : ClassId) (sz : Nat) (h0 : Nat) (v : Int32) (fs : List Value) (tp : Nat) (ftp : Nat → Int32) (hl_fs : fs.length = 17) (h_fs_0 : fs[0]? = some (.ref tp)) (h_fs_1 : fs[1]? = some (.int 16)) : KV l yX9_tapeNumber cX9_tapeNumber 3 0 0 0 D (TYS cyB cyI cyJ cyZ) [(h0, .inr (9, fs)), (tp, .inl (cyI, 1600, .inl ftp))] sz [.ref h0, .int v] (fun (u : (Nat → Int32)) => True) (fun (u : (Nat → Int32)) => ([(h0, .inr (9, ((((fs.set 1 (.int 17)).set 1 (.int 18)).set 1 (.int 19)).set 1 (.int 20)))), (tp, .inl (cyI, 1600, .inl u))] : va_W)) := by
  refine entV (by decide) (Nat.le_of_ble_eq_true rfl) ?_
  intro p e s m below meth c ls A hC hl hP hK hD hA
  obtain ⟨hx, hb, hr, hml, hown, hts, hlk, hnm⟩ := id hC
  have hS : va_S A s.heap s.heap [] := va_S.rf
  have hl : lv_has ls 3 [(0, .ref h0), (1, .int v)] := hl
  generalize hHe : s.heap = H at hP ⊢
  rw [hHe] at hS
  have hS : va_S A s.heap H [] := by rw [hHe]; exact hS
  refine lv_bipush (v := 24) hx hb dX9_tapeNumber_0 (by decide) ?_
  refine lv_istore_n (lv' := [(2, .int 24), (0, .ref h0), (1, .int v)]) hx hb dX9_tapeNumber_2 rfl hl (by decide) rfl (fun ls hl => ?_)
  refine lv_iload_n hx hb dX9_tapeNumber_3 rfl (lv_at hl 0 rfl) ?_
  refine lv_if_lt (tgt := 49) hx hb dX9_tapeNumber_4 (by decide) (fun c_1 => absurd c_1 (by decide)) (fun c_1 => ?_)
  refine lv_aload_n hx hb dX9_tapeNumber_7 rfl (lv_at hl 1 rfl) ?_
  refine gf hC hK hP iX9 0 rfl rfl 1 (by decide) mw_fieldLink_RX9_13_MirrorDrill_taped_I h_fs_1 dX9_tapeNumber_8 ?_
  refine lv_sipush (v := 1600) hx hb dX9_tapeNumber_11 (by decide) ?_
  refine lv_icmp_ge (tgt := 49) hx hb dX9_tapeNumber_14 (by decide) (fun c_2 => absurd c_2 (by decide)) (fun c_2 => ?_)
  refine lv_aload_n hx hb dX9_tapeNumber_17 rfl (lv_at hl 1 rfl) ?_
  refine gf hC hK hP iX9 0 rfl rfl 0 (by decide) mw_fieldLink_RX9_9_MirrorDrill_tape_I h_fs_0 dX9_tapeNumber_18 ?_
  refine lv_aload_n hx hb dX9_tapeNumber_21 rfl (lv_at hl 1 rfl) ?_
  refine gf hC hK hP iX9 0 rfl rfl 1 (by decide) mw_fieldLink_RX9_13_MirrorDrill_taped_I h_fs_1 dX9_tapeNumber_22 ?_
  refine lv_iload_n hx hb dX9_tapeNumber_25 rfl (lv_at hl 2 rfl) ?_
  refine lv_iload_n hx hb dX9_tapeNumber_26 rfl (lv_at hl 0 rfl) ?_
  obtain ⟨x_3, ex_3⟩ : ∃ z : Int32, (v.toUInt32 >>> ((24 : Int32).toUInt32 &&& Int32.toUInt32 31)).toInt32 = z := ⟨_, rfl⟩
  refine lv_iushr (v := x_3) hx hb dX9_tapeNumber_27 ex_3 ?_
  refine lv_sipush (v := 255) hx hb dX9_tapeNumber_28 (by decide) ?_
  refine lv_iand hx hb dX9_tapeNumber_31 ?_
  refine lv_topi (fun x_4 ex_4 => ?_)
  refine va_iast hx hb hK hP hD hS 1 1 rfl rfl (vin (by decide)) dX9_tapeNumber_32 (fun H locs hP hD hS => ?_)
  obtain ⟨f_5, ef_5⟩ : ∃ g : Nat → Int32, g = upd ftp ((16 : Int32).toNatClampNeg) x_4 := ⟨_, rfl⟩
  rw [← ef_5] at hP hD
  have hP : va_P D classes [(h0, .inr (9, fs)), (tp, .inl (cyI, 1600, .inl f_5))] H := hP
  have hD : va_D A [(h0, .inr (9, fs)), (tp, .inl (cyI, 1600, .inl f_5))] := hD
  refine lv_aload_n hx hb dX9_tapeNumber_33 rfl (lv_at hl 1 rfl) ?_
  refine lv_dup hx hb dX9_tapeNumber_34 rfl ?_
  refine gf hC hK hP iX9 0 rfl rfl 1 (by decide) mw_fieldLink_RX9_13_MirrorDrill_taped_I h_fs_1 dX9_tapeNumber_35 ?_
  refine lv_iconst (v := 1) hx hb dX9_tapeNumber_38 (by decide) ?_
  refine lv_iadd hx hb dX9_tapeNumber_39 ?_
  refine lv_cst (v := 17) (by decide) ?_
  refine pf (v := .int 17) hC hK hP hD hS iX9 tyX9_ok nmX9 0 rfl rfl 1 (by decide) mw_fieldLink_RX9_13_MirrorDrill_taped_I rfl rfl rfl (ln_lt hl_fs (by decide)) dX9_tapeNumber_40 (fun H locs hP hD hS => ?_)
  have hP : va_P D classes [(h0, .inr (9, (fs.set 1 (.int 17)))), (tp, .inl (cyI, 1600, .inl f_5))] H := hP
  have hD : va_D A [(h0, .inr (9, (fs.set 1 (.int 17)))), (tp, .inl (cyI, 1600, .inl f_5))] := hD
  refine lv_iinc (v := 16) (lv' := [(2, .int 16), (0, .ref h0), (1, .int v)]) hx hb dX9_tapeNumber_43 hl (k := 0) rfl (by decide) (by decide) rfl (fun ls hl => ?_)
  refine lv_goto (tgt := 3) hx hb dX9_tapeNumber_46 (by decide) ?_
  refine lv_iload_n hx hb dX9_tapeNumber_3 rfl (lv_at hl 0 rfl) ?_
  refine lv_if_lt (tgt := 49) hx hb dX9_tapeNumber_4 (by decide) (fun c_6 => absurd c_6 (by decide)) (fun c_6 => ?_)
  refine lv_aload_n hx hb dX9_tapeNumber_7 rfl (lv_at hl 1 rfl) ?_
  refine gf hC hK hP iX9 0 rfl rfl 1 (by decide) mw_fieldLink_RX9_13_MirrorDrill_taped_I (gs_eq (ln_lt hl_fs (by decide))) dX9_tapeNumber_8 ?_
  refine lv_sipush (v := 1600) hx hb dX9_tapeNumber_11 (by decide) ?_
  refine lv_icmp_ge (tgt := 49) hx hb dX9_tapeNumber_14 (by decide) (fun c_7 => absurd c_7 (by decide)) (fun c_7 => ?_)
  refine lv_aload_n hx hb dX9_tapeNumber_17 rfl (lv_at hl 1 rfl) ?_
  refine gf hC hK hP iX9 0 rfl rfl 0 (by decide) mw_fieldLink_RX9_9_MirrorDrill_tape_I (gs_ne (by decide) h_fs_0) dX9_tapeNumber_18 ?_
  refine lv_aload_n hx hb dX9_tapeNumber_21 rfl (lv_at hl 1 rfl) ?_
  refine gf hC hK hP iX9 0 rfl rfl 1 (by decide) mw_fieldLink_RX9_13_MirrorDrill_taped_I (gs_eq (ln_lt hl_fs (by decide))) dX9_tapeNumber_22 ?_
  refine lv_iload_n hx hb dX9_tapeNumber_25 rfl (lv_at hl 2 rfl) ?_
  refine lv_iload_n hx hb dX9_tapeNumber_26 rfl (lv_at hl 0 rfl) ?_
  obtain ⟨x_8, ex_8⟩ : ∃ z : Int32, (v.toUInt32 >>> ((16 : Int32).toUInt32 &&& Int32.toUInt32 31)).toInt32 = z := ⟨_, rfl⟩
  refine lv_iushr (v := x_8) hx hb dX9_tapeNumber_27 ex_8 ?_
  refine lv_sipush (v := 255) hx hb dX9_tapeNumber_28 (by decide) ?_
  refine lv_iand hx hb dX9_tapeNumber_31 ?_
  refine lv_topi (fun x_9 ex_9 => ?_)
  refine va_iast hx hb hK hP hD hS 1 1 rfl rfl (vin (by decide)) dX9_tapeNumber_32 (fun H locs hP hD hS => ?_)
  obtain ⟨f_10, ef_10⟩ : ∃ g : Nat → Int32, g = upd f_5 ((17 : Int32).toNatClampNeg) x_9 := ⟨_, rfl⟩
  rw [← ef_10] at hP hD
  have hP : va_P D classes [(h0, .inr (9, (fs.set 1 (.int 17)))), (tp, .inl (cyI, 1600, .inl f_10))] H := hP
  have hD : va_D A [(h0, .inr (9, (fs.set 1 (.int 17)))), (tp, .inl (cyI, 1600, .inl f_10))] := hD
  refine lv_aload_n hx hb dX9_tapeNumber_33 rfl (lv_at hl 1 rfl) ?_
  refine lv_dup hx hb dX9_tapeNumber_34 rfl ?_
  refine gf hC hK hP iX9 0 rfl rfl 1 (by decide) mw_fieldLink_RX9_13_MirrorDrill_taped_I (gs_eq (ln_lt hl_fs (by decide))) dX9_tapeNumber_35 ?_
  refine lv_iconst (v := 1) hx hb dX9_tapeNumber_38 (by decide) ?_
  refine lv_iadd hx hb dX9_tapeNumber_39 ?_
  refine lv_cst (v := 18) (by decide) ?_
  refine pf (v := .int 18) hC hK hP hD hS iX9 tyX9_ok nmX9 0 rfl rfl 1 (by decide) mw_fieldLink_RX9_13_MirrorDrill_taped_I rfl rfl rfl (ln_lt (ln_set hl_fs) (by decide)) dX9_tapeNumber_40 (fun H locs hP hD hS => ?_)
  have hP : va_P D classes [(h0, .inr (9, ((fs.set 1 (.int 17)).set 1 (.int 18)))), (tp, .inl (cyI, 1600, .inl f_10))] H := hP
  have hD : va_D A [(h0, .inr (9, ((fs.set 1 (.int 17)).set 1 (.int 18)))), (tp, .inl (cyI, 1600, .inl f_10))] := hD
  refine lv_iinc (v := 8) (lv' := [(2, .int 8), (0, .ref h0), (1, .int v)]) hx hb dX9_tapeNumber_43 hl (k := 0) rfl (by decide) (by decide) rfl (fun ls hl => ?_)
  refine lv_goto (tgt := 3) hx hb dX9_tapeNumber_46 (by decide) ?_
  refine lv_iload_n hx hb dX9_tapeNumber_3 rfl (lv_at hl 0 rfl) ?_
  refine lv_if_lt (tgt := 49) hx hb dX9_tapeNumber_4 (by decide) (fun c_11 => absurd c_11 (by decide)) (fun c_11 => ?_)
  refine lv_aload_n hx hb dX9_tapeNumber_7 rfl (lv_at hl 1 rfl) ?_
  refine gf hC hK hP iX9 0 rfl rfl 1 (by decide) mw_fieldLink_RX9_13_MirrorDrill_taped_I (gs_eq (ln_lt (ln_set hl_fs) (by decide))) dX9_tapeNumber_8 ?_
  refine lv_sipush (v := 1600) hx hb dX9_tapeNumber_11 (by decide) ?_
  refine lv_icmp_ge (tgt := 49) hx hb dX9_tapeNumber_14 (by decide) (fun c_12 => absurd c_12 (by decide)) (fun c_12 => ?_)
  refine lv_aload_n hx hb dX9_tapeNumber_17 rfl (lv_at hl 1 rfl) ?_
  refine gf hC hK hP iX9 0 rfl rfl 0 (by decide) mw_fieldLink_RX9_9_MirrorDrill_tape_I (gs_ne (by decide) (gs_ne (by decide) h_fs_0)) dX9_tapeNumber_18 ?_
  refine lv_aload_n hx hb dX9_tapeNumber_21 rfl (lv_at hl 1 rfl) ?_
  refine gf hC hK hP iX9 0 rfl rfl 1 (by decide) mw_fieldLink_RX9_13_MirrorDrill_taped_I (gs_eq (ln_lt (ln_set hl_fs) (by decide))) dX9_tapeNumber_22 ?_
  refine lv_iload_n hx hb dX9_tapeNumber_25 rfl (lv_at hl 2 rfl) ?_
  refine lv_iload_n hx hb dX9_tapeNumber_26 rfl (lv_at hl 0 rfl) ?_
  obtain ⟨x_13, ex_13⟩ : ∃ z : Int32, (v.toUInt32 >>> ((8 : Int32).toUInt32 &&& Int32.toUInt32 31)).toInt32 = z := ⟨_, rfl⟩
  refine lv_iushr (v := x_13) hx hb dX9_tapeNumber_27 ex_13 ?_
  refine lv_sipush (v := 255) hx hb dX9_tapeNumber_28 (by decide) ?_
  refine lv_iand hx hb dX9_tapeNumber_31 ?_
  refine lv_topi (fun x_14 ex_14 => ?_)
  refine va_iast hx hb hK hP hD hS 1 1 rfl rfl (vin (by decide)) dX9_tapeNumber_32 (fun H locs hP hD hS => ?_)
  obtain ⟨f_15, ef_15⟩ : ∃ g : Nat → Int32, g = upd f_10 ((18 : Int32).toNatClampNeg) x_14 := ⟨_, rfl⟩
  rw [← ef_15] at hP hD
  have hP : va_P D classes [(h0, .inr (9, ((fs.set 1 (.int 17)).set 1 (.int 18)))), (tp, .inl (cyI, 1600, .inl f_15))] H := hP
  have hD : va_D A [(h0, .inr (9, ((fs.set 1 (.int 17)).set 1 (.int 18)))), (tp, .inl (cyI, 1600, .inl f_15))] := hD
  refine lv_aload_n hx hb dX9_tapeNumber_33 rfl (lv_at hl 1 rfl) ?_
  refine lv_dup hx hb dX9_tapeNumber_34 rfl ?_
  refine gf hC hK hP iX9 0 rfl rfl 1 (by decide) mw_fieldLink_RX9_13_MirrorDrill_taped_I (gs_eq (ln_lt (ln_set hl_fs) (by decide))) dX9_tapeNumber_35 ?_
  refine lv_iconst (v := 1) hx hb dX9_tapeNumber_38 (by decide) ?_
  refine lv_iadd hx hb dX9_tapeNumber_39 ?_
  refine lv_cst (v := 19) (by decide) ?_
  refine pf (v := .int 19) hC hK hP hD hS iX9 tyX9_ok nmX9 0 rfl rfl 1 (by decide) mw_fieldLink_RX9_13_MirrorDrill_taped_I rfl rfl rfl (ln_lt (ln_set (ln_set hl_fs)) (by decide)) dX9_tapeNumber_40 (fun H locs hP hD hS => ?_)
  have hP : va_P D classes [(h0, .inr (9, (((fs.set 1 (.int 17)).set 1 (.int 18)).set 1 (.int 19)))), (tp, .inl (cyI, 1600, .inl f_15))] H := hP
  have hD : va_D A [(h0, .inr (9, (((fs.set 1 (.int 17)).set 1 (.int 18)).set 1 (.int 19)))), (tp, .inl (cyI, 1600, .inl f_15))] := hD
  refine lv_iinc (v := 0) (lv' := [(2, .int 0), (0, .ref h0), (1, .int v)]) hx hb dX9_tapeNumber_43 hl (k := 0) rfl (by decide) (by decide) rfl (fun ls hl => ?_)
  refine lv_goto (tgt := 3) hx hb dX9_tapeNumber_46 (by decide) ?_
  refine lv_iload_n hx hb dX9_tapeNumber_3 rfl (lv_at hl 0 rfl) ?_
  refine lv_if_lt (tgt := 49) hx hb dX9_tapeNumber_4 (by decide) (fun c_16 => absurd c_16 (by decide)) (fun c_16 => ?_)
  refine lv_aload_n hx hb dX9_tapeNumber_7 rfl (lv_at hl 1 rfl) ?_
  refine gf hC hK hP iX9 0 rfl rfl 1 (by decide) mw_fieldLink_RX9_13_MirrorDrill_taped_I (gs_eq (ln_lt (ln_set (ln_set hl_fs)) (by decide))) dX9_tapeNumber_8 ?_
  refine lv_sipush (v := 1600) hx hb dX9_tapeNumber_11 (by decide) ?_
  refine lv_icmp_ge (tgt := 49) hx hb dX9_tapeNumber_14 (by decide) (fun c_17 => absurd c_17 (by decide)) (fun c_17 => ?_)
  refine lv_aload_n hx hb dX9_tapeNumber_17 rfl (lv_at hl 1 rfl) ?_
  refine gf hC hK hP iX9 0 rfl rfl 0 (by decide) mw_fieldLink_RX9_9_MirrorDrill_tape_I (gs_ne (by decide) (gs_ne (by decide) (gs_ne (by decide) h_fs_0))) dX9_tapeNumber_18 ?_
  refine lv_aload_n hx hb dX9_tapeNumber_21 rfl (lv_at hl 1 rfl) ?_
  refine gf hC hK hP iX9 0 rfl rfl 1 (by decide) mw_fieldLink_RX9_13_MirrorDrill_taped_I (gs_eq (ln_lt (ln_set (ln_set hl_fs)) (by decide))) dX9_tapeNumber_22 ?_
  refine lv_iload_n hx hb dX9_tapeNumber_25 rfl (lv_at hl 2 rfl) ?_
  refine lv_iload_n hx hb dX9_tapeNumber_26 rfl (lv_at hl 0 rfl) ?_
  obtain ⟨x_18, ex_18⟩ : ∃ z : Int32, (v.toUInt32 >>> ((0 : Int32).toUInt32 &&& Int32.toUInt32 31)).toInt32 = z := ⟨_, rfl⟩
  refine lv_iushr (v := x_18) hx hb dX9_tapeNumber_27 ex_18 ?_
  refine lv_sipush (v := 255) hx hb dX9_tapeNumber_28 (by decide) ?_
  refine lv_iand hx hb dX9_tapeNumber_31 ?_
  refine lv_topi (fun x_19 ex_19 => ?_)
  refine va_iast hx hb hK hP hD hS 1 1 rfl rfl (vin (by decide)) dX9_tapeNumber_32 (fun H locs hP hD hS => ?_)
  obtain ⟨f_20, ef_20⟩ : ∃ g : Nat → Int32, g = upd f_15 ((19 : Int32).toNatClampNeg) x_19 := ⟨_, rfl⟩
  rw [← ef_20] at hP hD
  have hP : va_P D classes [(h0, .inr (9, (((fs.set 1 (.int 17)).set 1 (.int 18)).set 1 (.int 19)))), (tp, .inl (cyI, 1600, .inl f_20))] H := hP
  have hD : va_D A [(h0, .inr (9, (((fs.set 1 (.int 17)).set 1 (.int 18)).set 1 (.int 19)))), (tp, .inl (cyI, 1600, .inl f_20))] := hD
  refine lv_aload_n hx hb dX9_tapeNumber_33 rfl (lv_at hl 1 rfl) ?_
  refine lv_dup hx hb dX9_tapeNumber_34 rfl ?_
  refine gf hC hK hP iX9 0 rfl rfl 1 (by decide) mw_fieldLink_RX9_13_MirrorDrill_taped_I (gs_eq (ln_lt (ln_set (ln_set hl_fs)) (by decide))) dX9_tapeNumber_35 ?_
  refine lv_iconst (v := 1) hx hb dX9_tapeNumber_38 (by decide) ?_
  refine lv_iadd hx hb dX9_tapeNumber_39 ?_
  refine lv_cst (v := 20) (by decide) ?_
  refine pf (v := .int 20) hC hK hP hD hS iX9 tyX9_ok nmX9 0 rfl rfl 1 (by decide) mw_fieldLink_RX9_13_MirrorDrill_taped_I rfl rfl rfl (ln_lt (ln_set (ln_set (ln_set hl_fs))) (by decide)) dX9_tapeNumber_40 (fun H locs hP hD hS => ?_)
  have hP : va_P D classes [(h0, .inr (9, ((((fs.set 1 (.int 17)).set 1 (.int 18)).set 1 (.int 19)).set 1 (.int 20)))), (tp, .inl (cyI, 1600, .inl f_20))] H := hP
  have hD : va_D A [(h0, .inr (9, ((((fs.set 1 (.int 17)).set 1 (.int 18)).set 1 (.int 19)).set 1 (.int 20)))), (tp, .inl (cyI, 1600, .inl f_20))] := hD
  refine lv_iinc (v := (-8)) (lv' := [(2, .int (-8)), (0, .ref h0), (1, .int v)]) hx hb dX9_tapeNumber_43 hl (k := 0) rfl (by decide) (by decide) rfl (fun ls hl => ?_)
  refine lv_goto (tgt := 3) hx hb dX9_tapeNumber_46 (by decide) ?_
  refine lv_iload_n hx hb dX9_tapeNumber_3 rfl (lv_at hl 0 rfl) ?_
  refine lv_if_lt (tgt := 49) hx hb dX9_tapeNumber_4 (by decide) (fun c_21 => ?_) (fun c_21 => absurd (by decide) c_21)
  exact retV hC hP hD hS (by decide) (by decide) f_20 [0, 1] rfl rfl trivial dX9_tapeNumber_49
set_option maxHeartbeats 4000000 in
set_option maxRecDepth 100000 in
theorem k_X9_feed (l : Launch) (D : va_G) (cyB cyI cyJ cyZ : ClassId) (sz : Nat) (h0 : Nat) (p0 : Int32) (p1 : Int32) (p2 : Int32) (p3 : Int32) (p4 : Int32) (fs : List Value) (tp : Nat) (ftp : Nat → Int32) (hl_fs : fs.length = 17) (h_fs_0 : fs[0]? = some (.ref tp)) (h_fs_1 : fs[1]? = some (.int 0)) : KI l yX9_feed cX9_feed 6 .int 1 0 0 D (TYS cyB cyI cyJ cyZ) [(h0, .inr (9, fs)), (tp, .inl (cyI, 1600, .inl ftp))] sz [.ref h0, .int p0, .int p1, .int p2, .int p3, .int p4] (fun (r : Int32) (u : Unit) => r = 20) (fun (u : Unit) => ([] : va_W)) := by
  refine entI (by decide) (Nat.le_of_ble_eq_true rfl) ?_
  intro p e s m below meth c ls A hC hl hP hK hD hA
  obtain ⟨hx, hb, hr, hml, hown, hts, hlk, hnm⟩ := id hC
  have hS : va_S A s.heap s.heap [] := va_S.rf
  have hl : lv_has ls 6 [(0, .ref h0), (1, .int p0), (2, .int p1), (3, .int p2), (4, .int p3), (5, .int p4)] := hl
  generalize hHe : s.heap = H at hP ⊢
  rw [hHe] at hS
  have hS : va_S A s.heap H [] := by rw [hHe]; exact hS
  refine lv_aload_n hx hb dX9_feed_0 rfl (lv_at hl 0 rfl) ?_
  refine gf hC hK hP iX9 0 rfl rfl 1 (by decide) mw_fieldLink_RX9_13_MirrorDrill_taped_I h_fs_1 dX9_feed_1 ?_
  refine lv_bipush (v := 20) hx hb dX9_feed_4 (by decide) ?_
  refine lv_iadd hx hb dX9_feed_6 ?_
  refine lv_cst (v := 20) (by decide) ?_
  refine lv_sipush (v := 1600) hx hb dX9_feed_7 (by decide) ?_
  refine lv_icmp_le (tgt := 15) hx hb dX9_feed_10 (by decide) (fun c_1 => ?_) (fun c_1 => absurd (by decide) c_1)
  refine lv_aload_n hx hb dX9_feed_15 rfl (lv_at hl 0 rfl) ?_
  refine lv_iload_n hx hb dX9_feed_16 rfl (lv_at hl 1 rfl) ?_
  refine aftV (wr := []) (runV hC hK hP hD hl.1 (k_X9_tape_0 l D cyB cyI cyJ cyZ H.size h0 p0 fs tp ftp hl_fs h_fs_0 h_fs_1) cV_X9_tapeNumber mw_methodLink_RX9_99_yX9_tapeNumber [0, 1] rfl rfl 0 rfl rfl rfl rfl rfl (Nat.le_of_ble_eq_true rfl) ⟨by decide, by decide⟩ ⟨by decide, by decide⟩ dX9_feed_17) hP hD hS hA [0, 1] [] rfl rfl rfl (by decide) (fun u_2 H locs hw_2 hP hD hS => ?_)
  obtain ⟨gtp_2, rfl⟩ : ∃ z, z = u_2 := ⟨_, rfl⟩
  try dsimp only at hw_2
  have hP : va_P D classes [(h0, .inr (9, ((((fs.set 1 (.int 1)).set 1 (.int 2)).set 1 (.int 3)).set 1 (.int 4)))), (tp, .inl (cyI, 1600, .inl gtp_2))] H := hP
  have hD : va_D A [(h0, .inr (9, ((((fs.set 1 (.int 1)).set 1 (.int 2)).set 1 (.int 3)).set 1 (.int 4)))), (tp, .inl (cyI, 1600, .inl gtp_2))] := hD
  refine W.widen (k := 0) (n := 0) (by decide) (by decide) ?_
  refine lv_aload_n hx hb dX9_feed_20 rfl (lv_at hl 0 rfl) ?_
  refine lv_iload_n hx hb dX9_feed_21 rfl (lv_at hl 2 rfl) ?_
  refine aftV (wr := []) (runV hC hK hP hD hl.1 (k_X9_tape_4 l D cyB cyI cyJ cyZ H.size h0 p1 ((((fs.set 1 (.int 1)).set 1 (.int 2)).set 1 (.int 3)).set 1 (.int 4)) tp gtp_2 (ln_set (ln_set (ln_set (ln_set hl_fs)))) (gs_ne (by decide) (gs_ne (by decide) (gs_ne (by decide) (gs_ne (by decide) h_fs_0)))) (gs_eq (ln_lt (ln_set (ln_set (ln_set hl_fs))) (by decide)))) cV_X9_tapeNumber mw_methodLink_RX9_99_yX9_tapeNumber [0, 1] rfl rfl 0 rfl rfl rfl rfl rfl (Nat.le_of_ble_eq_true rfl) ⟨by decide, by decide⟩ ⟨by decide, by decide⟩ dX9_feed_22) hP hD hS hA [0, 1] [] rfl rfl rfl (by decide) (fun u_3 H locs hw_3 hP hD hS => ?_)
  obtain ⟨gtp_3, rfl⟩ : ∃ z, z = u_3 := ⟨_, rfl⟩
  try dsimp only at hw_3
  have hP : va_P D classes [(h0, .inr (9, ((((((((fs.set 1 (.int 1)).set 1 (.int 2)).set 1 (.int 3)).set 1 (.int 4)).set 1 (.int 5)).set 1 (.int 6)).set 1 (.int 7)).set 1 (.int 8)))), (tp, .inl (cyI, 1600, .inl gtp_3))] H := hP
  have hD : va_D A [(h0, .inr (9, ((((((((fs.set 1 (.int 1)).set 1 (.int 2)).set 1 (.int 3)).set 1 (.int 4)).set 1 (.int 5)).set 1 (.int 6)).set 1 (.int 7)).set 1 (.int 8)))), (tp, .inl (cyI, 1600, .inl gtp_3))] := hD
  refine W.widen (k := 0) (n := 0) (by decide) (by decide) ?_
  refine lv_aload_n hx hb dX9_feed_25 rfl (lv_at hl 0 rfl) ?_
  refine lv_iload_n hx hb dX9_feed_26 rfl (lv_at hl 3 rfl) ?_
  refine aftV (wr := []) (runV hC hK hP hD hl.1 (k_X9_tape_8 l D cyB cyI cyJ cyZ H.size h0 p2 ((((((((fs.set 1 (.int 1)).set 1 (.int 2)).set 1 (.int 3)).set 1 (.int 4)).set 1 (.int 5)).set 1 (.int 6)).set 1 (.int 7)).set 1 (.int 8)) tp gtp_3 (ln_set (ln_set (ln_set (ln_set (ln_set (ln_set (ln_set (ln_set hl_fs)))))))) (gs_ne (by decide) (gs_ne (by decide) (gs_ne (by decide) (gs_ne (by decide) (gs_ne (by decide) (gs_ne (by decide) (gs_ne (by decide) (gs_ne (by decide) h_fs_0)))))))) (gs_eq (ln_lt (ln_set (ln_set (ln_set (ln_set (ln_set (ln_set (ln_set hl_fs))))))) (by decide)))) cV_X9_tapeNumber mw_methodLink_RX9_99_yX9_tapeNumber [0, 1] rfl rfl 0 rfl rfl rfl rfl rfl (Nat.le_of_ble_eq_true rfl) ⟨by decide, by decide⟩ ⟨by decide, by decide⟩ dX9_feed_27) hP hD hS hA [0, 1] [] rfl rfl rfl (by decide) (fun u_4 H locs hw_4 hP hD hS => ?_)
  obtain ⟨gtp_4, rfl⟩ : ∃ z, z = u_4 := ⟨_, rfl⟩
  try dsimp only at hw_4
  have hP : va_P D classes [(h0, .inr (9, ((((((((((((fs.set 1 (.int 1)).set 1 (.int 2)).set 1 (.int 3)).set 1 (.int 4)).set 1 (.int 5)).set 1 (.int 6)).set 1 (.int 7)).set 1 (.int 8)).set 1 (.int 9)).set 1 (.int 10)).set 1 (.int 11)).set 1 (.int 12)))), (tp, .inl (cyI, 1600, .inl gtp_4))] H := hP
  have hD : va_D A [(h0, .inr (9, ((((((((((((fs.set 1 (.int 1)).set 1 (.int 2)).set 1 (.int 3)).set 1 (.int 4)).set 1 (.int 5)).set 1 (.int 6)).set 1 (.int 7)).set 1 (.int 8)).set 1 (.int 9)).set 1 (.int 10)).set 1 (.int 11)).set 1 (.int 12)))), (tp, .inl (cyI, 1600, .inl gtp_4))] := hD
  refine W.widen (k := 0) (n := 0) (by decide) (by decide) ?_
  refine lv_aload_n hx hb dX9_feed_30 rfl (lv_at hl 0 rfl) ?_
  refine lv_iload hx hb dX9_feed_31 (lv_at hl 4 rfl) ?_
  refine aftV (wr := []) (runV hC hK hP hD hl.1 (k_X9_tape_12 l D cyB cyI cyJ cyZ H.size h0 p3 ((((((((((((fs.set 1 (.int 1)).set 1 (.int 2)).set 1 (.int 3)).set 1 (.int 4)).set 1 (.int 5)).set 1 (.int 6)).set 1 (.int 7)).set 1 (.int 8)).set 1 (.int 9)).set 1 (.int 10)).set 1 (.int 11)).set 1 (.int 12)) tp gtp_4 (ln_set (ln_set (ln_set (ln_set (ln_set (ln_set (ln_set (ln_set (ln_set (ln_set (ln_set (ln_set hl_fs)))))))))))) (gs_ne (by decide) (gs_ne (by decide) (gs_ne (by decide) (gs_ne (by decide) (gs_ne (by decide) (gs_ne (by decide) (gs_ne (by decide) (gs_ne (by decide) (gs_ne (by decide) (gs_ne (by decide) (gs_ne (by decide) (gs_ne (by decide) h_fs_0)))))))))))) (gs_eq (ln_lt (ln_set (ln_set (ln_set (ln_set (ln_set (ln_set (ln_set (ln_set (ln_set (ln_set (ln_set hl_fs))))))))))) (by decide)))) cV_X9_tapeNumber mw_methodLink_RX9_99_yX9_tapeNumber [0, 1] rfl rfl 0 rfl rfl rfl rfl rfl (Nat.le_of_ble_eq_true rfl) ⟨by decide, by decide⟩ ⟨by decide, by decide⟩ dX9_feed_33) hP hD hS hA [0, 1] [] rfl rfl rfl (by decide) (fun u_5 H locs hw_5 hP hD hS => ?_)
  obtain ⟨gtp_5, rfl⟩ : ∃ z, z = u_5 := ⟨_, rfl⟩
  try dsimp only at hw_5
  have hP : va_P D classes [(h0, .inr (9, ((((((((((((((((fs.set 1 (.int 1)).set 1 (.int 2)).set 1 (.int 3)).set 1 (.int 4)).set 1 (.int 5)).set 1 (.int 6)).set 1 (.int 7)).set 1 (.int 8)).set 1 (.int 9)).set 1 (.int 10)).set 1 (.int 11)).set 1 (.int 12)).set 1 (.int 13)).set 1 (.int 14)).set 1 (.int 15)).set 1 (.int 16)))), (tp, .inl (cyI, 1600, .inl gtp_5))] H := hP
  have hD : va_D A [(h0, .inr (9, ((((((((((((((((fs.set 1 (.int 1)).set 1 (.int 2)).set 1 (.int 3)).set 1 (.int 4)).set 1 (.int 5)).set 1 (.int 6)).set 1 (.int 7)).set 1 (.int 8)).set 1 (.int 9)).set 1 (.int 10)).set 1 (.int 11)).set 1 (.int 12)).set 1 (.int 13)).set 1 (.int 14)).set 1 (.int 15)).set 1 (.int 16)))), (tp, .inl (cyI, 1600, .inl gtp_5))] := hD
  refine W.widen (k := 0) (n := 0) (by decide) (by decide) ?_
  refine lv_aload_n hx hb dX9_feed_36 rfl (lv_at hl 0 rfl) ?_
  refine lv_iload hx hb dX9_feed_37 (lv_at hl 5 rfl) ?_
  refine aftV (wr := []) (runV hC hK hP hD hl.1 (k_X9_tape_16 l D cyB cyI cyJ cyZ H.size h0 p4 ((((((((((((((((fs.set 1 (.int 1)).set 1 (.int 2)).set 1 (.int 3)).set 1 (.int 4)).set 1 (.int 5)).set 1 (.int 6)).set 1 (.int 7)).set 1 (.int 8)).set 1 (.int 9)).set 1 (.int 10)).set 1 (.int 11)).set 1 (.int 12)).set 1 (.int 13)).set 1 (.int 14)).set 1 (.int 15)).set 1 (.int 16)) tp gtp_5 (ln_set (ln_set (ln_set (ln_set (ln_set (ln_set (ln_set (ln_set (ln_set (ln_set (ln_set (ln_set (ln_set (ln_set (ln_set (ln_set hl_fs)))))))))))))))) (gs_ne (by decide) (gs_ne (by decide) (gs_ne (by decide) (gs_ne (by decide) (gs_ne (by decide) (gs_ne (by decide) (gs_ne (by decide) (gs_ne (by decide) (gs_ne (by decide) (gs_ne (by decide) (gs_ne (by decide) (gs_ne (by decide) (gs_ne (by decide) (gs_ne (by decide) (gs_ne (by decide) (gs_ne (by decide) h_fs_0)))))))))))))))) (gs_eq (ln_lt (ln_set (ln_set (ln_set (ln_set (ln_set (ln_set (ln_set (ln_set (ln_set (ln_set (ln_set (ln_set (ln_set (ln_set (ln_set hl_fs))))))))))))))) (by decide)))) cV_X9_tapeNumber mw_methodLink_RX9_99_yX9_tapeNumber [0, 1] rfl rfl 0 rfl rfl rfl rfl rfl (Nat.le_of_ble_eq_true rfl) ⟨by decide, by decide⟩ ⟨by decide, by decide⟩ dX9_feed_39) hP hD hS hA [0, 1] [] rfl rfl rfl (by decide) (fun u_6 H locs hw_6 hP hD hS => ?_)
  obtain ⟨gtp_6, rfl⟩ : ∃ z, z = u_6 := ⟨_, rfl⟩
  try dsimp only at hw_6
  have hP : va_P D classes [(h0, .inr (9, ((((((((((((((((((((fs.set 1 (.int 1)).set 1 (.int 2)).set 1 (.int 3)).set 1 (.int 4)).set 1 (.int 5)).set 1 (.int 6)).set 1 (.int 7)).set 1 (.int 8)).set 1 (.int 9)).set 1 (.int 10)).set 1 (.int 11)).set 1 (.int 12)).set 1 (.int 13)).set 1 (.int 14)).set 1 (.int 15)).set 1 (.int 16)).set 1 (.int 17)).set 1 (.int 18)).set 1 (.int 19)).set 1 (.int 20)))), (tp, .inl (cyI, 1600, .inl gtp_6))] H := hP
  have hD : va_D A [(h0, .inr (9, ((((((((((((((((((((fs.set 1 (.int 1)).set 1 (.int 2)).set 1 (.int 3)).set 1 (.int 4)).set 1 (.int 5)).set 1 (.int 6)).set 1 (.int 7)).set 1 (.int 8)).set 1 (.int 9)).set 1 (.int 10)).set 1 (.int 11)).set 1 (.int 12)).set 1 (.int 13)).set 1 (.int 14)).set 1 (.int 15)).set 1 (.int 16)).set 1 (.int 17)).set 1 (.int 18)).set 1 (.int 19)).set 1 (.int 20)))), (tp, .inl (cyI, 1600, .inl gtp_6))] := hD
  refine W.widen (k := 0) (n := 0) (by decide) (by decide) ?_
  refine lv_aload_n hx hb dX9_feed_42 rfl (lv_at hl 0 rfl) ?_
  refine gf hC hK hP iX9 0 rfl rfl 1 (by decide) mw_fieldLink_RX9_13_MirrorDrill_taped_I (gs_eq (ln_lt (ln_set (ln_set (ln_set (ln_set (ln_set (ln_set (ln_set (ln_set (ln_set (ln_set (ln_set (ln_set (ln_set (ln_set (ln_set (ln_set (ln_set (ln_set (ln_set hl_fs))))))))))))))))))) (by decide))) dX9_feed_43 ?_
  exact retI hC hP hD hS (by decide) (by decide) () [] rfl rfl rfl dX9_feed_46
set_option maxHeartbeats 4000000 in
set_option maxRecDepth 100000 in
theorem k_X9_image (l : Launch) (D : va_G) (cyB cyI cyJ cyZ : ClassId) (sz : Nat) (h0 : Nat) (p0 : Int32) (fs : List Value) (ea : Nat) (bx : Nat) (bb : Nat) (fe_ : List Value) (er : Nat) (eb : Nat) (fer : Nat → Int64) (feb : Nat → Int32) (fbx : Nat → Int64) (fbb : Nat → Int32) (hl_fs : fs.length = 17) (h_fs_7 : fs[7]? = some (.ref ea)) (h_fs_8 : fs[8]? = some (.ref bx)) (h_fs_9 : fs[9]? = some (.ref bb)) (hl_fe_ : fe_.length = 4) (h_fe__0 : fe_[0]? = some (.ref er)) (h_fe__1 : fe_[1]? = some (.ref eb)) (h_fe__2 : fe_[2]? = some (.int 0)) (h_fer_0 : fer 0 = 0) (h_feb_0 : feb 0 = 0) : KI l yX9_image cX9_image 2 .int 1 0 0 D (TYS cyB cyI cyJ cyZ) [(h0, .inr (9, fs)), (ea, .inr (3, fe_)), (er, .inl (cyJ, 41, .inr (.inl fer))), (eb, .inl (cyI, 41, .inl feb)), (bx, .inl (cyJ, 3, .inr (.inl fbx))), (bb, .inl (cyI, 3, .inl fbb))] sz [.ref h0, .int p0] (fun (r : Int32) (u : Unit) => r = sp_image p0) (fun (u : Unit) => ([] : va_W)) := by
  refine entI (by decide) (Nat.le_of_ble_eq_true rfl) ?_
  intro p e s m below meth c ls A hC hl hP hK hD hA
  obtain ⟨hx, hb, hr, hml, hown, hts, hlk, hnm⟩ := id hC
  have hS : va_S A s.heap s.heap [] := va_S.rf
  have hl : lv_has ls 2 [(0, .ref h0), (1, .int p0)] := hl
  generalize hHe : s.heap = H at hP ⊢
  rw [hHe] at hS
  have hS : va_S A s.heap H [] := by rw [hHe]; exact hS
  refine lv_iload_n hx hb dX9_image_0 rfl (lv_at hl 1 rfl) ?_
  refine lv_if_lt (tgt := 9) hx hb dX9_image_1 (by decide) (fun c_1 => ?_) (fun c_1 => ?_)
  · refine lv_iconst (v := (-1)) hx hb dX9_image_9 (by decide) ?_
    exact retI hC hP hD hS (by decide) (by decide) () [] rfl rfl (by have z0 := zt_lt c_1; have y0 : ((-1) : Int32).toInt = (-1) := (by decide); have y1 : (0 : Int32).toInt = 0 := (by decide); have y2 : (2 : Int32).toInt = 2 := (by decide); unfold sp_image; (repeat' split) <;> first | rfl | (exact Int32.zero_add _) | (exfalso; omega)) dX9_image_10
  · refine lv_iload_n hx hb dX9_image_4 rfl (lv_at hl 1 rfl) ?_
    refine lv_iconst (v := 3) hx hb dX9_image_5 (by decide) ?_
    refine lv_icmp_lt (tgt := 11) hx hb dX9_image_6 (by decide) (fun c_2 => ?_) (fun c_2 => ?_)
    · rcases tsw_0_2 p0 with rfl | rfl | rfl | ho
      · refine lv_aload_n hx hb dX9_image_11 rfl (lv_at hl 0 rfl) ?_
        refine gf hC hK hP iX9 0 rfl rfl 8 (by decide) mw_fieldLink_RX9_47_MirrorDrill_boxRows_J h_fs_8 dX9_image_12 ?_
        refine lv_iload_n hx hb dX9_image_15 rfl (lv_at hl 1 rfl) ?_
        refine lv_aload_n hx hb dX9_image_16 rfl (lv_at hl 0 rfl) ?_
        refine gf hC hK hP iX9 0 rfl rfl 7 (by decide) mw_fieldLink_RX9_43_MirrorDrill_earnest_LMirrorDrill_Earnest h_fs_7 dX9_image_17 ?_
        refine aftL (wr := [(h0, .inr (9, fs)), (eb, .inl (cyI, 41, .inl feb)), (bx, .inl (cyJ, 3, .inr (.inl fbx))), (bb, .inl (cyI, 3, .inl fbb))]) (runV hC hK hP hD hl.1 (k_X3_row l D cyB cyI cyJ cyZ H.size ea fe_ er fer hl_fe_ h_fe__0 h_fe__2 h_fer_0) cV_X3_row mw_methodLink_RX9_151_yX3_row [1, 2] rfl rfl 1 rfl rfl rfl rfl rfl (Nat.le_of_ble_eq_true rfl) ⟨by decide, by decide⟩ ⟨by decide, by decide⟩ dX9_image_20) hP hD hS hA [1, 2] [0, 3, 4, 5] rfl rfl rfl (by decide) (fun r_3 u_3 H locs hw_3 hP hD hS => ?_)
        have hr_3 := hw_3
        refine lv_cstL (v := 0) hr_3 ?_
        have hP : va_P D classes [(h0, .inr (9, fs)), (eb, .inl (cyI, 41, .inl feb)), (bx, .inl (cyJ, 3, .inr (.inl fbx))), (bb, .inl (cyI, 3, .inl fbb)), (ea, .inr (3, fe_)), (er, .inl (cyJ, 41, .inr (.inl fer)))] H := hP
        have hD : va_D A [(h0, .inr (9, fs)), (eb, .inl (cyI, 41, .inl feb)), (bx, .inl (cyJ, 3, .inr (.inl fbx))), (bb, .inl (cyI, 3, .inl fbb)), (ea, .inr (3, fe_)), (er, .inl (cyJ, 41, .inr (.inl fer)))] := hD
        refine W.widen (k := 0) (n := 0) (by decide) (by decide) ?_
        refine va_last hx hb hK hP hD hS 2 2 rfl rfl (vin (by decide)) dX9_image_23 (fun H locs hP hD hS => ?_)
        obtain ⟨f_4, ef_4⟩ : ∃ g : Nat → Int64, g = vp_updL fbx ((0 : Int32).toNatClampNeg) 0 := ⟨_, rfl⟩
        rw [← ef_4] at hP hD
        have hP : va_P D classes [(h0, .inr (9, fs)), (eb, .inl (cyI, 41, .inl feb)), (bx, .inl (cyJ, 3, .inr (.inl f_4))), (bb, .inl (cyI, 3, .inl fbb)), (ea, .inr (3, fe_)), (er, .inl (cyJ, 41, .inr (.inl fer)))] H := hP
        have hD : va_D A [(h0, .inr (9, fs)), (eb, .inl (cyI, 41, .inl feb)), (bx, .inl (cyJ, 3, .inr (.inl f_4))), (bb, .inl (cyI, 3, .inl fbb)), (ea, .inr (3, fe_)), (er, .inl (cyJ, 41, .inr (.inl fer)))] := hD
        refine lv_aload_n hx hb dX9_image_24 rfl (lv_at hl 0 rfl) ?_
        refine gf hC hK hP iX9 0 rfl rfl 9 (by decide) mw_fieldLink_RX9_51_MirrorDrill_boxBeats_I h_fs_9 dX9_image_25 ?_
        refine lv_iload_n hx hb dX9_image_28 rfl (lv_at hl 1 rfl) ?_
        refine lv_aload_n hx hb dX9_image_29 rfl (lv_at hl 0 rfl) ?_
        refine gf hC hK hP iX9 0 rfl rfl 7 (by decide) mw_fieldLink_RX9_43_MirrorDrill_earnest_LMirrorDrill_Earnest h_fs_7 dX9_image_30 ?_
        refine aftI (wr := [(h0, .inr (9, fs)), (bx, .inl (cyJ, 3, .inr (.inl f_4))), (bb, .inl (cyI, 3, .inl fbb)), (er, .inl (cyJ, 41, .inr (.inl fer)))]) (runV hC hK hP hD hl.1 (k_X3_beats l D cyB cyI cyJ cyZ H.size ea fe_ eb feb hl_fe_ h_fe__1 h_fe__2 h_feb_0) cV_X3_beats mw_methodLink_RX9_173_yX3_beats [4, 1] rfl rfl 4 rfl rfl rfl rfl rfl (Nat.le_of_ble_eq_true rfl) ⟨by decide, by decide⟩ ⟨by decide, by decide⟩ dX9_image_33) hP hD hS hA [4, 1] [0, 2, 3, 5] rfl rfl rfl (by decide) (fun r_5 u_5 H locs hw_5 hP hD hS => ?_)
        have hr_5 := hw_5
        refine lv_cst (v := 0) hr_5 ?_
        have hP : va_P D classes [(h0, .inr (9, fs)), (bx, .inl (cyJ, 3, .inr (.inl f_4))), (bb, .inl (cyI, 3, .inl fbb)), (er, .inl (cyJ, 41, .inr (.inl fer))), (ea, .inr (3, fe_)), (eb, .inl (cyI, 41, .inl feb))] H := hP
        have hD : va_D A [(h0, .inr (9, fs)), (bx, .inl (cyJ, 3, .inr (.inl f_4))), (bb, .inl (cyI, 3, .inl fbb)), (er, .inl (cyJ, 41, .inr (.inl fer))), (ea, .inr (3, fe_)), (eb, .inl (cyI, 41, .inl feb))] := hD
        refine W.widen (k := 0) (n := 0) (by decide) (by decide) ?_
        refine va_iast hx hb hK hP hD hS 2 1 rfl rfl (vin (by decide)) dX9_image_36 (fun H locs hP hD hS => ?_)
        obtain ⟨f_6, ef_6⟩ : ∃ g : Nat → Int32, g = upd fbb ((0 : Int32).toNatClampNeg) 0 := ⟨_, rfl⟩
        rw [← ef_6] at hP hD
        have hP : va_P D classes [(h0, .inr (9, fs)), (bx, .inl (cyJ, 3, .inr (.inl f_4))), (bb, .inl (cyI, 3, .inl f_6)), (er, .inl (cyJ, 41, .inr (.inl fer))), (ea, .inr (3, fe_)), (eb, .inl (cyI, 41, .inl feb))] H := hP
        have hD : va_D A [(h0, .inr (9, fs)), (bx, .inl (cyJ, 3, .inr (.inl f_4))), (bb, .inl (cyI, 3, .inl f_6)), (er, .inl (cyJ, 41, .inr (.inl fer))), (ea, .inr (3, fe_)), (eb, .inl (cyI, 41, .inl feb))] := hD
        refine lv_aload_n hx hb dX9_image_37 rfl (lv_at hl 0 rfl) ?_
        refine gf hC hK hP iX9 0 rfl rfl 9 (by decide) mw_fieldLink_RX9_51_MirrorDrill_boxBeats_I h_fs_9 dX9_image_38 ?_
        refine lv_iload_n hx hb dX9_image_41 rfl (lv_at hl 1 rfl) ?_
        refine va_iald hx hb hK hP 2 1 rfl rfl (vin (by decide)) dX9_image_42 ?_
        refine lv_cst (v := 0) (by rw [ef_6]; exact us_at (by decide)) ?_
        exact retI hC hP hD hS (by decide) (by decide) () [] rfl rfl (by decide) dX9_image_43
      · refine lv_aload_n hx hb dX9_image_11 rfl (lv_at hl 0 rfl) ?_
        refine gf hC hK hP iX9 0 rfl rfl 8 (by decide) mw_fieldLink_RX9_47_MirrorDrill_boxRows_J h_fs_8 dX9_image_12 ?_
        refine lv_iload_n hx hb dX9_image_15 rfl (lv_at hl 1 rfl) ?_
        refine lv_aload_n hx hb dX9_image_16 rfl (lv_at hl 0 rfl) ?_
        refine gf hC hK hP iX9 0 rfl rfl 7 (by decide) mw_fieldLink_RX9_43_MirrorDrill_earnest_LMirrorDrill_Earnest h_fs_7 dX9_image_17 ?_
        refine aftL (wr := [(h0, .inr (9, fs)), (eb, .inl (cyI, 41, .inl feb)), (bx, .inl (cyJ, 3, .inr (.inl fbx))), (bb, .inl (cyI, 3, .inl fbb))]) (runV hC hK hP hD hl.1 (k_X3_row l D cyB cyI cyJ cyZ H.size ea fe_ er fer hl_fe_ h_fe__0 h_fe__2 h_fer_0) cV_X3_row mw_methodLink_RX9_151_yX3_row [1, 2] rfl rfl 1 rfl rfl rfl rfl rfl (Nat.le_of_ble_eq_true rfl) ⟨by decide, by decide⟩ ⟨by decide, by decide⟩ dX9_image_20) hP hD hS hA [1, 2] [0, 3, 4, 5] rfl rfl rfl (by decide) (fun r_7 u_7 H locs hw_7 hP hD hS => ?_)
        have hr_7 := hw_7
        refine lv_cstL (v := 0) hr_7 ?_
        have hP : va_P D classes [(h0, .inr (9, fs)), (eb, .inl (cyI, 41, .inl feb)), (bx, .inl (cyJ, 3, .inr (.inl fbx))), (bb, .inl (cyI, 3, .inl fbb)), (ea, .inr (3, fe_)), (er, .inl (cyJ, 41, .inr (.inl fer)))] H := hP
        have hD : va_D A [(h0, .inr (9, fs)), (eb, .inl (cyI, 41, .inl feb)), (bx, .inl (cyJ, 3, .inr (.inl fbx))), (bb, .inl (cyI, 3, .inl fbb)), (ea, .inr (3, fe_)), (er, .inl (cyJ, 41, .inr (.inl fer)))] := hD
        refine W.widen (k := 0) (n := 0) (by decide) (by decide) ?_
        refine va_last hx hb hK hP hD hS 2 2 rfl rfl (vin (by decide)) dX9_image_23 (fun H locs hP hD hS => ?_)
        obtain ⟨f_8, ef_8⟩ : ∃ g : Nat → Int64, g = vp_updL fbx ((1 : Int32).toNatClampNeg) 0 := ⟨_, rfl⟩
        rw [← ef_8] at hP hD
        have hP : va_P D classes [(h0, .inr (9, fs)), (eb, .inl (cyI, 41, .inl feb)), (bx, .inl (cyJ, 3, .inr (.inl f_8))), (bb, .inl (cyI, 3, .inl fbb)), (ea, .inr (3, fe_)), (er, .inl (cyJ, 41, .inr (.inl fer)))] H := hP
        have hD : va_D A [(h0, .inr (9, fs)), (eb, .inl (cyI, 41, .inl feb)), (bx, .inl (cyJ, 3, .inr (.inl f_8))), (bb, .inl (cyI, 3, .inl fbb)), (ea, .inr (3, fe_)), (er, .inl (cyJ, 41, .inr (.inl fer)))] := hD
        refine lv_aload_n hx hb dX9_image_24 rfl (lv_at hl 0 rfl) ?_
        refine gf hC hK hP iX9 0 rfl rfl 9 (by decide) mw_fieldLink_RX9_51_MirrorDrill_boxBeats_I h_fs_9 dX9_image_25 ?_
        refine lv_iload_n hx hb dX9_image_28 rfl (lv_at hl 1 rfl) ?_
        refine lv_aload_n hx hb dX9_image_29 rfl (lv_at hl 0 rfl) ?_
        refine gf hC hK hP iX9 0 rfl rfl 7 (by decide) mw_fieldLink_RX9_43_MirrorDrill_earnest_LMirrorDrill_Earnest h_fs_7 dX9_image_30 ?_
        refine aftI (wr := [(h0, .inr (9, fs)), (bx, .inl (cyJ, 3, .inr (.inl f_8))), (bb, .inl (cyI, 3, .inl fbb)), (er, .inl (cyJ, 41, .inr (.inl fer)))]) (runV hC hK hP hD hl.1 (k_X3_beats l D cyB cyI cyJ cyZ H.size ea fe_ eb feb hl_fe_ h_fe__1 h_fe__2 h_feb_0) cV_X3_beats mw_methodLink_RX9_173_yX3_beats [4, 1] rfl rfl 4 rfl rfl rfl rfl rfl (Nat.le_of_ble_eq_true rfl) ⟨by decide, by decide⟩ ⟨by decide, by decide⟩ dX9_image_33) hP hD hS hA [4, 1] [0, 2, 3, 5] rfl rfl rfl (by decide) (fun r_9 u_9 H locs hw_9 hP hD hS => ?_)
        have hr_9 := hw_9
        refine lv_cst (v := 0) hr_9 ?_
        have hP : va_P D classes [(h0, .inr (9, fs)), (bx, .inl (cyJ, 3, .inr (.inl f_8))), (bb, .inl (cyI, 3, .inl fbb)), (er, .inl (cyJ, 41, .inr (.inl fer))), (ea, .inr (3, fe_)), (eb, .inl (cyI, 41, .inl feb))] H := hP
        have hD : va_D A [(h0, .inr (9, fs)), (bx, .inl (cyJ, 3, .inr (.inl f_8))), (bb, .inl (cyI, 3, .inl fbb)), (er, .inl (cyJ, 41, .inr (.inl fer))), (ea, .inr (3, fe_)), (eb, .inl (cyI, 41, .inl feb))] := hD
        refine W.widen (k := 0) (n := 0) (by decide) (by decide) ?_
        refine va_iast hx hb hK hP hD hS 2 1 rfl rfl (vin (by decide)) dX9_image_36 (fun H locs hP hD hS => ?_)
        obtain ⟨f_10, ef_10⟩ : ∃ g : Nat → Int32, g = upd fbb ((1 : Int32).toNatClampNeg) 0 := ⟨_, rfl⟩
        rw [← ef_10] at hP hD
        have hP : va_P D classes [(h0, .inr (9, fs)), (bx, .inl (cyJ, 3, .inr (.inl f_8))), (bb, .inl (cyI, 3, .inl f_10)), (er, .inl (cyJ, 41, .inr (.inl fer))), (ea, .inr (3, fe_)), (eb, .inl (cyI, 41, .inl feb))] H := hP
        have hD : va_D A [(h0, .inr (9, fs)), (bx, .inl (cyJ, 3, .inr (.inl f_8))), (bb, .inl (cyI, 3, .inl f_10)), (er, .inl (cyJ, 41, .inr (.inl fer))), (ea, .inr (3, fe_)), (eb, .inl (cyI, 41, .inl feb))] := hD
        refine lv_aload_n hx hb dX9_image_37 rfl (lv_at hl 0 rfl) ?_
        refine gf hC hK hP iX9 0 rfl rfl 9 (by decide) mw_fieldLink_RX9_51_MirrorDrill_boxBeats_I h_fs_9 dX9_image_38 ?_
        refine lv_iload_n hx hb dX9_image_41 rfl (lv_at hl 1 rfl) ?_
        refine va_iald hx hb hK hP 2 1 rfl rfl (vin (by decide)) dX9_image_42 ?_
        refine lv_cst (v := 0) (by rw [ef_10]; exact us_at (by decide)) ?_
        exact retI hC hP hD hS (by decide) (by decide) () [] rfl rfl (by decide) dX9_image_43
      · refine lv_aload_n hx hb dX9_image_11 rfl (lv_at hl 0 rfl) ?_
        refine gf hC hK hP iX9 0 rfl rfl 8 (by decide) mw_fieldLink_RX9_47_MirrorDrill_boxRows_J h_fs_8 dX9_image_12 ?_
        refine lv_iload_n hx hb dX9_image_15 rfl (lv_at hl 1 rfl) ?_
        refine lv_aload_n hx hb dX9_image_16 rfl (lv_at hl 0 rfl) ?_
        refine gf hC hK hP iX9 0 rfl rfl 7 (by decide) mw_fieldLink_RX9_43_MirrorDrill_earnest_LMirrorDrill_Earnest h_fs_7 dX9_image_17 ?_
        refine aftL (wr := [(h0, .inr (9, fs)), (eb, .inl (cyI, 41, .inl feb)), (bx, .inl (cyJ, 3, .inr (.inl fbx))), (bb, .inl (cyI, 3, .inl fbb))]) (runV hC hK hP hD hl.1 (k_X3_row l D cyB cyI cyJ cyZ H.size ea fe_ er fer hl_fe_ h_fe__0 h_fe__2 h_fer_0) cV_X3_row mw_methodLink_RX9_151_yX3_row [1, 2] rfl rfl 1 rfl rfl rfl rfl rfl (Nat.le_of_ble_eq_true rfl) ⟨by decide, by decide⟩ ⟨by decide, by decide⟩ dX9_image_20) hP hD hS hA [1, 2] [0, 3, 4, 5] rfl rfl rfl (by decide) (fun r_11 u_11 H locs hw_11 hP hD hS => ?_)
        have hr_11 := hw_11
        refine lv_cstL (v := 0) hr_11 ?_
        have hP : va_P D classes [(h0, .inr (9, fs)), (eb, .inl (cyI, 41, .inl feb)), (bx, .inl (cyJ, 3, .inr (.inl fbx))), (bb, .inl (cyI, 3, .inl fbb)), (ea, .inr (3, fe_)), (er, .inl (cyJ, 41, .inr (.inl fer)))] H := hP
        have hD : va_D A [(h0, .inr (9, fs)), (eb, .inl (cyI, 41, .inl feb)), (bx, .inl (cyJ, 3, .inr (.inl fbx))), (bb, .inl (cyI, 3, .inl fbb)), (ea, .inr (3, fe_)), (er, .inl (cyJ, 41, .inr (.inl fer)))] := hD
        refine W.widen (k := 0) (n := 0) (by decide) (by decide) ?_
        refine va_last hx hb hK hP hD hS 2 2 rfl rfl (vin (by decide)) dX9_image_23 (fun H locs hP hD hS => ?_)
        obtain ⟨f_12, ef_12⟩ : ∃ g : Nat → Int64, g = vp_updL fbx ((2 : Int32).toNatClampNeg) 0 := ⟨_, rfl⟩
        rw [← ef_12] at hP hD
        have hP : va_P D classes [(h0, .inr (9, fs)), (eb, .inl (cyI, 41, .inl feb)), (bx, .inl (cyJ, 3, .inr (.inl f_12))), (bb, .inl (cyI, 3, .inl fbb)), (ea, .inr (3, fe_)), (er, .inl (cyJ, 41, .inr (.inl fer)))] H := hP
        have hD : va_D A [(h0, .inr (9, fs)), (eb, .inl (cyI, 41, .inl feb)), (bx, .inl (cyJ, 3, .inr (.inl f_12))), (bb, .inl (cyI, 3, .inl fbb)), (ea, .inr (3, fe_)), (er, .inl (cyJ, 41, .inr (.inl fer)))] := hD
        refine lv_aload_n hx hb dX9_image_24 rfl (lv_at hl 0 rfl) ?_
        refine gf hC hK hP iX9 0 rfl rfl 9 (by decide) mw_fieldLink_RX9_51_MirrorDrill_boxBeats_I h_fs_9 dX9_image_25 ?_
        refine lv_iload_n hx hb dX9_image_28 rfl (lv_at hl 1 rfl) ?_
        refine lv_aload_n hx hb dX9_image_29 rfl (lv_at hl 0 rfl) ?_
        refine gf hC hK hP iX9 0 rfl rfl 7 (by decide) mw_fieldLink_RX9_43_MirrorDrill_earnest_LMirrorDrill_Earnest h_fs_7 dX9_image_30 ?_
        refine aftI (wr := [(h0, .inr (9, fs)), (bx, .inl (cyJ, 3, .inr (.inl f_12))), (bb, .inl (cyI, 3, .inl fbb)), (er, .inl (cyJ, 41, .inr (.inl fer)))]) (runV hC hK hP hD hl.1 (k_X3_beats l D cyB cyI cyJ cyZ H.size ea fe_ eb feb hl_fe_ h_fe__1 h_fe__2 h_feb_0) cV_X3_beats mw_methodLink_RX9_173_yX3_beats [4, 1] rfl rfl 4 rfl rfl rfl rfl rfl (Nat.le_of_ble_eq_true rfl) ⟨by decide, by decide⟩ ⟨by decide, by decide⟩ dX9_image_33) hP hD hS hA [4, 1] [0, 2, 3, 5] rfl rfl rfl (by decide) (fun r_13 u_13 H locs hw_13 hP hD hS => ?_)
        have hr_13 := hw_13
        refine lv_cst (v := 0) hr_13 ?_
        have hP : va_P D classes [(h0, .inr (9, fs)), (bx, .inl (cyJ, 3, .inr (.inl f_12))), (bb, .inl (cyI, 3, .inl fbb)), (er, .inl (cyJ, 41, .inr (.inl fer))), (ea, .inr (3, fe_)), (eb, .inl (cyI, 41, .inl feb))] H := hP
        have hD : va_D A [(h0, .inr (9, fs)), (bx, .inl (cyJ, 3, .inr (.inl f_12))), (bb, .inl (cyI, 3, .inl fbb)), (er, .inl (cyJ, 41, .inr (.inl fer))), (ea, .inr (3, fe_)), (eb, .inl (cyI, 41, .inl feb))] := hD
        refine W.widen (k := 0) (n := 0) (by decide) (by decide) ?_
        refine va_iast hx hb hK hP hD hS 2 1 rfl rfl (vin (by decide)) dX9_image_36 (fun H locs hP hD hS => ?_)
        obtain ⟨f_14, ef_14⟩ : ∃ g : Nat → Int32, g = upd fbb ((2 : Int32).toNatClampNeg) 0 := ⟨_, rfl⟩
        rw [← ef_14] at hP hD
        have hP : va_P D classes [(h0, .inr (9, fs)), (bx, .inl (cyJ, 3, .inr (.inl f_12))), (bb, .inl (cyI, 3, .inl f_14)), (er, .inl (cyJ, 41, .inr (.inl fer))), (ea, .inr (3, fe_)), (eb, .inl (cyI, 41, .inl feb))] H := hP
        have hD : va_D A [(h0, .inr (9, fs)), (bx, .inl (cyJ, 3, .inr (.inl f_12))), (bb, .inl (cyI, 3, .inl f_14)), (er, .inl (cyJ, 41, .inr (.inl fer))), (ea, .inr (3, fe_)), (eb, .inl (cyI, 41, .inl feb))] := hD
        refine lv_aload_n hx hb dX9_image_37 rfl (lv_at hl 0 rfl) ?_
        refine gf hC hK hP iX9 0 rfl rfl 9 (by decide) mw_fieldLink_RX9_51_MirrorDrill_boxBeats_I h_fs_9 dX9_image_38 ?_
        refine lv_iload_n hx hb dX9_image_41 rfl (lv_at hl 1 rfl) ?_
        refine va_iald hx hb hK hP 2 1 rfl rfl (vin (by decide)) dX9_image_42 ?_
        refine lv_cst (v := 0) (by rw [ef_14]; exact us_at (by decide)) ?_
        exact retI hC hP hD hS (by decide) (by decide) () [] rfl rfl (by decide) dX9_image_43
      · exfalso; have z0 := zt_nlt c_1; have z1 := zt_lt c_2; have y0 : ((-1) : Int32).toInt = (-1) := (by decide); have y1 : (0 : Int32).toInt = 0 := (by decide); have y2 : (2 : Int32).toInt = 2 := (by decide); have y3 : (3 : Int32).toInt = 3 := (by decide); omega
    · refine lv_iconst (v := (-1)) hx hb dX9_image_9 (by decide) ?_
      exact retI hC hP hD hS (by decide) (by decide) () [] rfl rfl (by have z0 := zt_nlt c_1; have z1 := zt_nlt c_2; have y0 : ((-1) : Int32).toInt = (-1) := (by decide); have y1 : (0 : Int32).toInt = 0 := (by decide); have y2 : (2 : Int32).toInt = 2 := (by decide); have y3 : (3 : Int32).toInt = 3 := (by decide); unfold sp_image; (repeat' split) <;> first | rfl | (exact Int32.zero_add _) | (exfalso; omega)) dX9_image_10
set_option maxHeartbeats 4000000 in
set_option maxRecDepth 100000 in
theorem k_X9_back (l : Launch) (D : va_G) (cyB cyI cyJ cyZ : ClassId) (sz : Nat) (h0 : Nat) (p0 : Int32) (fs : List Value) (bb : Nat) (fbb : Nat → Int32) (hl_fs : fs.length = 17) (h_fs_9 : fs[9]? = some (.ref bb)) (h_fbb_0 : fbb 0 = (-1)) (h_fbb_1 : fbb 1 = (-1)) (h_fbb_2 : fbb 2 = (-1)) : KI l yX9_back cX9_back 2 .int 0 0 0 D (TYS cyB cyI cyJ cyZ) [(h0, .inr (9, fs)), (bb, .inl (cyI, 3, .inl fbb))] sz [.ref h0, .int p0] (fun (r : Int32) (u : Unit) => r = (-1)) (fun (u : Unit) => ([] : va_W)) := by
  refine entI (by decide) (Nat.le_of_ble_eq_true rfl) ?_
  intro p e s m below meth c ls A hC hl hP hK hD hA
  obtain ⟨hx, hb, hr, hml, hown, hts, hlk, hnm⟩ := id hC
  have hS : va_S A s.heap s.heap [] := va_S.rf
  have hl : lv_has ls 2 [(0, .ref h0), (1, .int p0)] := hl
  generalize hHe : s.heap = H at hP ⊢
  rw [hHe] at hS
  have hS : va_S A s.heap H [] := by rw [hHe]; exact hS
  refine lv_iload_n hx hb dX9_back_0 rfl (lv_at hl 1 rfl) ?_
  refine lv_if_lt (tgt := 19) hx hb dX9_back_1 (by decide) (fun c_1 => ?_) (fun c_1 => ?_)
  · refine lv_iconst (v := (-1)) hx hb dX9_back_19 (by decide) ?_
    exact retI hC hP hD hS (by decide) (by decide) () [] rfl rfl rfl dX9_back_20
  · refine lv_iload_n hx hb dX9_back_4 rfl (lv_at hl 1 rfl) ?_
    refine lv_iconst (v := 3) hx hb dX9_back_5 (by decide) ?_
    refine lv_icmp_ge (tgt := 19) hx hb dX9_back_6 (by decide) (fun c_2 => ?_) (fun c_2 => ?_)
    · refine lv_iconst (v := (-1)) hx hb dX9_back_19 (by decide) ?_
      exact retI hC hP hD hS (by decide) (by decide) () [] rfl rfl rfl dX9_back_20
    · rcases tsw_0_2 p0 with rfl | rfl | rfl | ho
      · refine lv_aload_n hx hb dX9_back_9 rfl (lv_at hl 0 rfl) ?_
        refine gf hC hK hP iX9 0 rfl rfl 9 (by decide) mw_fieldLink_RX9_51_MirrorDrill_boxBeats_I h_fs_9 dX9_back_10 ?_
        refine lv_iload_n hx hb dX9_back_13 rfl (lv_at hl 1 rfl) ?_
        refine va_iald hx hb hK hP 1 1 rfl rfl (vin (by decide)) dX9_back_14 ?_
        refine lv_cst (v := (-1)) (h_fbb_0) ?_
        refine lv_iconst (v := (-1)) hx hb dX9_back_15 (by decide) ?_
        refine lv_icmp_ne (tgt := 21) hx hb dX9_back_16 (by decide) (fun c_3 => absurd (by decide) c_3) (fun c_3 => ?_)
        refine lv_iconst (v := (-1)) hx hb dX9_back_19 (by decide) ?_
        exact retI hC hP hD hS (by decide) (by decide) () [] rfl rfl rfl dX9_back_20
      · refine lv_aload_n hx hb dX9_back_9 rfl (lv_at hl 0 rfl) ?_
        refine gf hC hK hP iX9 0 rfl rfl 9 (by decide) mw_fieldLink_RX9_51_MirrorDrill_boxBeats_I h_fs_9 dX9_back_10 ?_
        refine lv_iload_n hx hb dX9_back_13 rfl (lv_at hl 1 rfl) ?_
        refine va_iald hx hb hK hP 1 1 rfl rfl (vin (by decide)) dX9_back_14 ?_
        refine lv_cst (v := (-1)) (h_fbb_1) ?_
        refine lv_iconst (v := (-1)) hx hb dX9_back_15 (by decide) ?_
        refine lv_icmp_ne (tgt := 21) hx hb dX9_back_16 (by decide) (fun c_4 => absurd (by decide) c_4) (fun c_4 => ?_)
        refine lv_iconst (v := (-1)) hx hb dX9_back_19 (by decide) ?_
        exact retI hC hP hD hS (by decide) (by decide) () [] rfl rfl rfl dX9_back_20
      · refine lv_aload_n hx hb dX9_back_9 rfl (lv_at hl 0 rfl) ?_
        refine gf hC hK hP iX9 0 rfl rfl 9 (by decide) mw_fieldLink_RX9_51_MirrorDrill_boxBeats_I h_fs_9 dX9_back_10 ?_
        refine lv_iload_n hx hb dX9_back_13 rfl (lv_at hl 1 rfl) ?_
        refine va_iald hx hb hK hP 1 1 rfl rfl (vin (by decide)) dX9_back_14 ?_
        refine lv_cst (v := (-1)) (h_fbb_2) ?_
        refine lv_iconst (v := (-1)) hx hb dX9_back_15 (by decide) ?_
        refine lv_icmp_ne (tgt := 21) hx hb dX9_back_16 (by decide) (fun c_5 => absurd (by decide) c_5) (fun c_5 => ?_)
        refine lv_iconst (v := (-1)) hx hb dX9_back_19 (by decide) ?_
        exact retI hC hP hD hS (by decide) (by decide) () [] rfl rfl rfl dX9_back_20
      · exfalso; have z0 := zt_nlt c_1; have z1 := zt_nle c_2; have y0 : ((-1) : Int32).toInt = (-1) := (by decide); have y1 : (0 : Int32).toInt = 0 := (by decide); have y2 : (2 : Int32).toInt = 2 := (by decide); have y3 : (3 : Int32).toInt = 3 := (by decide); omega
set_option maxHeartbeats 4000000 in
set_option maxRecDepth 100000 in
theorem k_X3_actsDone (l : Launch) (D : va_G) (cyB cyI cyJ cyZ : ClassId) (sz : Nat) (ea : Nat) (fe_ : List Value) (hl_fe_ : fe_.length = 4) (h_fe__2 : fe_[2]? = some (.int 0)) : KI l yX3_actsDone cX3_actsDone 1 .int 0 0 0 D (TYS cyB cyI cyJ cyZ) [(ea, .inr (3, fe_))] sz [.ref ea] (fun (r : Int32) (u : Unit) => r = 0) (fun (u : Unit) => ([] : va_W)) := by
  refine entI (by decide) (Nat.le_of_ble_eq_true rfl) ?_
  intro p e s m below meth c ls A hC hl hP hK hD hA
  obtain ⟨hx, hb, hr, hml, hown, hts, hlk, hnm⟩ := id hC
  have hS : va_S A s.heap s.heap [] := va_S.rf
  have hl : lv_has ls 1 [(0, .ref ea)] := hl
  generalize hHe : s.heap = H at hP ⊢
  rw [hHe] at hS
  have hS : va_S A s.heap H [] := by rw [hHe]; exact hS
  refine lv_aload_n hx hb dX3_actsDone_0 rfl (lv_at hl 0 rfl) ?_
  refine gf hC hK hP iX3 0 rfl rfl 2 (by decide) mw_fieldLink_RX3_19_MirrorDrill_Earnest_now_I h_fe__2 dX3_actsDone_1 ?_
  exact retI hC hP hD hS (by decide) (by decide) () [] rfl rfl rfl dX3_actsDone_4
set_option maxHeartbeats 4000000 in
set_option maxRecDepth 100000 in
theorem k_X3_actsTakenBack (l : Launch) (D : va_G) (cyB cyI cyJ cyZ : ClassId) (sz : Nat) (ea : Nat) (fe_ : List Value) (hl_fe_ : fe_.length = 4) (h_fe__2 : fe_[2]? = some (.int 0)) (h_fe__3 : fe_[3]? = some (.int 0)) : KI l yX3_actsTakenBack cX3_actsTakenBack 1 .int 0 0 0 D (TYS cyB cyI cyJ cyZ) [(ea, .inr (3, fe_))] sz [.ref ea] (fun (r : Int32) (u : Unit) => r = 0) (fun (u : Unit) => ([] : va_W)) := by
  refine entI (by decide) (Nat.le_of_ble_eq_true rfl) ?_
  intro p e s m below meth c ls A hC hl hP hK hD hA
  obtain ⟨hx, hb, hr, hml, hown, hts, hlk, hnm⟩ := id hC
  have hS : va_S A s.heap s.heap [] := va_S.rf
  have hl : lv_has ls 1 [(0, .ref ea)] := hl
  generalize hHe : s.heap = H at hP ⊢
  rw [hHe] at hS
  have hS : va_S A s.heap H [] := by rw [hHe]; exact hS
  refine lv_aload_n hx hb dX3_actsTakenBack_0 rfl (lv_at hl 0 rfl) ?_
  refine gf hC hK hP iX3 0 rfl rfl 3 (by decide) mw_fieldLink_RX3_23_MirrorDrill_Earnest_last_I h_fe__3 dX3_actsTakenBack_1 ?_
  refine lv_aload_n hx hb dX3_actsTakenBack_4 rfl (lv_at hl 0 rfl) ?_
  refine gf hC hK hP iX3 0 rfl rfl 2 (by decide) mw_fieldLink_RX3_19_MirrorDrill_Earnest_now_I h_fe__2 dX3_actsTakenBack_5 ?_
  refine lv_isub hx hb dX3_actsTakenBack_8 ?_
  refine lv_cst (v := 0) (by decide) ?_
  exact retI hC hP hD hS (by decide) (by decide) () [] rfl rfl rfl dX3_actsTakenBack_9
set_option maxHeartbeats 4000000 in
set_option maxRecDepth 100000 in
theorem k_X6_size (l : Launch) (D : va_G) (cyB cyI cyJ cyZ : ClassId) (sz : Nat) (pl : Nat) (fp_ : List Value) (hl_fp_ : fp_.length = 2) (h_fp__1 : fp_[1]? = some (.int 0)) : KI l yX6_size cX6_size 1 .int 0 0 0 D (TYS cyB cyI cyJ cyZ) [(pl, .inr (6, fp_))] sz [.ref pl] (fun (r : Int32) (u : Unit) => r = 0) (fun (u : Unit) => ([] : va_W)) := by
  refine entI (by decide) (Nat.le_of_ble_eq_true rfl) ?_
  intro p e s m below meth c ls A hC hl hP hK hD hA
  obtain ⟨hx, hb, hr, hml, hown, hts, hlk, hnm⟩ := id hC
  have hS : va_S A s.heap s.heap [] := va_S.rf
  have hl : lv_has ls 1 [(0, .ref pl)] := hl
  generalize hHe : s.heap = H at hP ⊢
  rw [hHe] at hS
  have hS : va_S A s.heap H [] := by rw [hHe]; exact hS
  refine lv_aload_n hx hb dX6_size_0 rfl (lv_at hl 0 rfl) ?_
  refine gf hC hK hP iX6 0 rfl rfl 1 (by decide) mw_fieldLink_RX6_15_MirrorDrill_Pile_count_I h_fp__1 dX6_size_1 ?_
  exact retI hC hP hD hS (by decide) (by decide) () [] rfl rfl rfl dX6_size_4
set_option maxHeartbeats 4000000 in
set_option maxRecDepth 100000 in
theorem k_X8_sights (l : Launch) (D : va_G) (cyB cyI cyJ cyZ : ClassId) (sz : Nat) (wt : Nat) (fw_ : List Value) (hl_fw_ : fw_.length = 17) (h_fw__5 : fw_[5]? = some (.int 0)) : KI l yX8_sights cX8_sights 1 .int 0 0 0 D (TYS cyB cyI cyJ cyZ) [(wt, .inr (8, fw_))] sz [.ref wt] (fun (r : Int32) (u : Unit) => r = 0) (fun (u : Unit) => ([] : va_W)) := by
  refine entI (by decide) (Nat.le_of_ble_eq_true rfl) ?_
  intro p e s m below meth c ls A hC hl hP hK hD hA
  obtain ⟨hx, hb, hr, hml, hown, hts, hlk, hnm⟩ := id hC
  have hS : va_S A s.heap s.heap [] := va_S.rf
  have hl : lv_has ls 1 [(0, .ref wt)] := hl
  generalize hHe : s.heap = H at hP ⊢
  rw [hHe] at hS
  have hS : va_S A s.heap H [] := by rw [hHe]; exact hS
  refine lv_aload_n hx hb dX8_sights_0 rfl (lv_at hl 0 rfl) ?_
  refine gf hC hK hP iX8 0 rfl rfl 5 (by decide) mw_fieldLink_RX8_27_MirrorDrill_Witness_sights_I h_fw__5 dX8_sights_1 ?_
  exact retI hC hP hD hS (by decide) (by decide) () [] rfl rfl rfl dX8_sights_4
set_option maxHeartbeats 4000000 in
set_option maxRecDepth 100000 in
theorem k_X8_doubted (l : Launch) (D : va_G) (cyB cyI cyJ cyZ : ClassId) (sz : Nat) (wt : Nat) (fw_ : List Value) (hl_fw_ : fw_.length = 17) (h_fw__6 : fw_[6]? = some (.int 0)) : KI l yX8_doubted cX8_doubted 1 .int 0 0 0 D (TYS cyB cyI cyJ cyZ) [(wt, .inr (8, fw_))] sz [.ref wt] (fun (r : Int32) (u : Unit) => r = 0) (fun (u : Unit) => ([] : va_W)) := by
  refine entI (by decide) (Nat.le_of_ble_eq_true rfl) ?_
  intro p e s m below meth c ls A hC hl hP hK hD hA
  obtain ⟨hx, hb, hr, hml, hown, hts, hlk, hnm⟩ := id hC
  have hS : va_S A s.heap s.heap [] := va_S.rf
  have hl : lv_has ls 1 [(0, .ref wt)] := hl
  generalize hHe : s.heap = H at hP ⊢
  rw [hHe] at hS
  have hS : va_S A s.heap H [] := by rw [hHe]; exact hS
  refine lv_aload_n hx hb dX8_doubted_0 rfl (lv_at hl 0 rfl) ?_
  refine gf hC hK hP iX8 0 rfl rfl 6 (by decide) mw_fieldLink_RX8_31_MirrorDrill_Witness_unsureMen_I h_fw__6 dX8_doubted_1 ?_
  exact retI hC hP hD hS (by decide) (by decide) () [] rfl rfl rfl dX8_doubted_4
set_option maxHeartbeats 4000000 in
set_option maxRecDepth 100000 in
theorem k_X9_about (l : Launch) (D : va_G) (cyB cyI cyJ cyZ : ClassId) (sz : Nat) (h0 : Nat) (p0 : Int32) (fs : List Value) (dd : Nat) (ea : Nat) (pl : Nat) (wt : Nat) (ds_ : List Value) (fe_ : List Value) (eb : Nat) (feb : Nat → Int32) (fp_ : List Value) (fw_ : List Value) (hl_fs : fs.length = 17) (h_fs_3 : fs[3]? = some (.ref dd)) (h_fs_7 : fs[7]? = some (.ref ea)) (h_fs_10 : fs[10]? = some (.ref pl)) (h_fs_16 : fs[16]? = some (.ref wt)) (h_fs_11 : fs[11]? = some (.int 0)) (h_fs_1 : fs[1]? = some (.int 0)) (hl_ds_ : ds_.length = 15) (h_ds__0 : ds_[0]? = some (.int 2)) (h_ds__1 : ds_[1]? = some (.int 0)) (h_ds__2 : ds_[2]? = some (.int 0)) (h_ds__3 : ds_[3]? = some (.int 0)) (h_ds__5 : ds_[5]? = some (.int 0)) (hl_fe_ : fe_.length = 4) (h_fe__1 : fe_[1]? = some (.ref eb)) (h_fe__2 : fe_[2]? = some (.int 0)) (h_fe__3 : fe_[3]? = some (.int 0)) (h_feb_0 : feb 0 = 0) (hl_fp_ : fp_.length = 2) (h_fp__1 : fp_[1]? = some (.int 0)) (hl_fw_ : fw_.length = 17) (h_fw__5 : fw_[5]? = some (.int 0)) (h_fw__6 : fw_[6]? = some (.int 0)) : KI l yX9_about cX9_about 2 .int 1 0 0 D (TYS cyB cyI cyJ cyZ) [(h0, .inr (9, fs)), (dd, .inr (2, ds_)), (ea, .inr (3, fe_)), (eb, .inl (cyI, 41, .inl feb)), (pl, .inr (6, fp_)), (wt, .inr (8, fw_))] sz [.ref h0, .int p0] (fun (r : Int32) (u : Unit) => r = sp_about p0) (fun (u : Unit) => ([] : va_W)) := by
  refine entI (by decide) (Nat.le_of_ble_eq_true rfl) ?_
  intro p e s m below meth c ls A hC hl hP hK hD hA
  obtain ⟨hx, hb, hr, hml, hown, hts, hlk, hnm⟩ := id hC
  have hS : va_S A s.heap s.heap [] := va_S.rf
  have hl : lv_has ls 2 [(0, .ref h0), (1, .int p0)] := hl
  generalize hHe : s.heap = H at hP ⊢
  rw [hHe] at hS
  have hS : va_S A s.heap H [] := by rw [hHe]; exact hS
  refine lv_iload_n hx hb dX9_about_0 rfl (lv_at hl 1 rfl) ?_
  rcases tsw_0_12 p0 with rfl | rfl | rfl | rfl | rfl | rfl | rfl | rfl | rfl | rfl | rfl | rfl | rfl | ho_1
  · refine lv_tableIn (tgt := 68) (off := 67) hx hb dX9_about_1 (by decide) (by decide) (by decide) (by decide) ?_
    refine lv_aload_n hx hb dX9_about_68 rfl (lv_at hl 0 rfl) ?_
    refine gf hC hK hP iX9 0 rfl rfl 3 (by decide) mw_fieldLink_RX9_27_MirrorDrill_drill_LMirrorDrill_Drill h_fs_3 dX9_about_69 ?_
    refine gf hC hK hP iX2 1 rfl rfl 1 (by decide) mw_fieldLink_RX9_144_MirrorDrill_Drill_men_I h_ds__1 dX9_about_72 ?_
    exact retI hC hP hD hS (by decide) (by decide) () [] rfl rfl (by decide) dX9_about_75
  · refine lv_tableIn (tgt := 76) (off := 75) hx hb dX9_about_1 (by decide) (by decide) (by decide) (by decide) ?_
    refine lv_aload_n hx hb dX9_about_76 rfl (lv_at hl 0 rfl) ?_
    refine gf hC hK hP iX9 0 rfl rfl 3 (by decide) mw_fieldLink_RX9_27_MirrorDrill_drill_LMirrorDrill_Drill h_fs_3 dX9_about_77 ?_
    refine gf hC hK hP iX2 1 rfl rfl 0 (by decide) mw_fieldLink_RX9_285_MirrorDrill_Drill_moves_I h_ds__0 dX9_about_80 ?_
    exact retI hC hP hD hS (by decide) (by decide) () [] rfl rfl (by decide) dX9_about_83
  · refine lv_tableIn (tgt := 84) (off := 83) hx hb dX9_about_1 (by decide) (by decide) (by decide) (by decide) ?_
    refine lv_aload_n hx hb dX9_about_84 rfl (lv_at hl 0 rfl) ?_
    refine gf hC hK hP iX9 0 rfl rfl 3 (by decide) mw_fieldLink_RX9_27_MirrorDrill_drill_LMirrorDrill_Drill h_fs_3 dX9_about_85 ?_
    refine gf hC hK hP iX2 1 rfl rfl 2 (by decide) mw_fieldLink_RX9_297_MirrorDrill_Drill_rules_I h_ds__2 dX9_about_88 ?_
    exact retI hC hP hD hS (by decide) (by decide) () [] rfl rfl (by decide) dX9_about_91
  · refine lv_tableIn (tgt := 92) (off := 91) hx hb dX9_about_1 (by decide) (by decide) (by decide) (by decide) ?_
    refine lv_aload_n hx hb dX9_about_92 rfl (lv_at hl 0 rfl) ?_
    refine gf hC hK hP iX9 0 rfl rfl 7 (by decide) mw_fieldLink_RX9_43_MirrorDrill_earnest_LMirrorDrill_Earnest h_fs_7 dX9_about_93 ?_
    refine aftI (wr := [(h0, .inr (9, fs)), (dd, .inr (2, ds_)), (pl, .inr (6, fp_)), (wt, .inr (8, fw_))]) (runV hC hK hP hD hl.1 (k_X3_beats l D cyB cyI cyJ cyZ H.size ea fe_ eb feb hl_fe_ h_fe__1 h_fe__2 h_feb_0) cV_X3_beats mw_methodLink_RX9_173_yX3_beats [2, 3] rfl rfl 2 rfl rfl rfl rfl rfl (Nat.le_of_ble_eq_true rfl) ⟨by decide, by decide⟩ ⟨by decide, by decide⟩ dX9_about_96) hP hD hS hA [2, 3] [0, 1, 4, 5] rfl rfl rfl (by decide) (fun r_2 u_2 H locs hw_2 hP hD hS => ?_)
    have hr_2 := hw_2
    refine lv_cst (v := 0) hr_2 ?_
    have hP : va_P D classes [(h0, .inr (9, fs)), (dd, .inr (2, ds_)), (pl, .inr (6, fp_)), (wt, .inr (8, fw_)), (ea, .inr (3, fe_)), (eb, .inl (cyI, 41, .inl feb))] H := hP
    have hD : va_D A [(h0, .inr (9, fs)), (dd, .inr (2, ds_)), (pl, .inr (6, fp_)), (wt, .inr (8, fw_)), (ea, .inr (3, fe_)), (eb, .inl (cyI, 41, .inl feb))] := hD
    refine W.widen (k := 0) (n := 0) (by decide) (by decide) ?_
    exact retI hC hP hD hS (by decide) (by decide) () [] rfl rfl (by decide) dX9_about_99
  · refine lv_tableIn (tgt := 100) (off := 99) hx hb dX9_about_1 (by decide) (by decide) (by decide) (by decide) ?_
    refine lv_aload_n hx hb dX9_about_100 rfl (lv_at hl 0 rfl) ?_
    refine gf hC hK hP iX9 0 rfl rfl 7 (by decide) mw_fieldLink_RX9_43_MirrorDrill_earnest_LMirrorDrill_Earnest h_fs_7 dX9_about_101 ?_
    refine aftI (wr := [(h0, .inr (9, fs)), (dd, .inr (2, ds_)), (eb, .inl (cyI, 41, .inl feb)), (pl, .inr (6, fp_)), (wt, .inr (8, fw_))]) (runV hC hK hP hD hl.1 (k_X3_actsDone l D cyB cyI cyJ cyZ H.size ea fe_ hl_fe_ h_fe__2) cV_X3_actsDone mw_methodLink_RX9_300_yX3_actsDone [2] rfl rfl 2 rfl rfl rfl rfl rfl (Nat.le_of_ble_eq_true rfl) ⟨by decide, by decide⟩ ⟨by decide, by decide⟩ dX9_about_104) hP hD hS hA [2] [0, 1, 3, 4, 5] rfl rfl rfl (by decide) (fun r_3 u_3 H locs hw_3 hP hD hS => ?_)
    have hr_3 := hw_3
    refine lv_cst (v := 0) hr_3 ?_
    have hP : va_P D classes [(h0, .inr (9, fs)), (dd, .inr (2, ds_)), (eb, .inl (cyI, 41, .inl feb)), (pl, .inr (6, fp_)), (wt, .inr (8, fw_))] H := hP
    have hD : va_D A [(h0, .inr (9, fs)), (dd, .inr (2, ds_)), (eb, .inl (cyI, 41, .inl feb)), (pl, .inr (6, fp_)), (wt, .inr (8, fw_))] := hD
    refine W.widen (k := 0) (n := 0) (by decide) (by decide) ?_
    exact retI hC hP hD hS (by decide) (by decide) () [] rfl rfl (by decide) dX9_about_107
  · refine lv_tableIn (tgt := 108) (off := 107) hx hb dX9_about_1 (by decide) (by decide) (by decide) (by decide) ?_
    refine lv_aload_n hx hb dX9_about_108 rfl (lv_at hl 0 rfl) ?_
    refine gf hC hK hP iX9 0 rfl rfl 7 (by decide) mw_fieldLink_RX9_43_MirrorDrill_earnest_LMirrorDrill_Earnest h_fs_7 dX9_about_109 ?_
    refine aftI (wr := [(h0, .inr (9, fs)), (dd, .inr (2, ds_)), (eb, .inl (cyI, 41, .inl feb)), (pl, .inr (6, fp_)), (wt, .inr (8, fw_))]) (runV hC hK hP hD hl.1 (k_X3_actsTakenBack l D cyB cyI cyJ cyZ H.size ea fe_ hl_fe_ h_fe__2 h_fe__3) cV_X3_actsTakenBack mw_methodLink_RX9_303_yX3_actsTakenBack [2] rfl rfl 2 rfl rfl rfl rfl rfl (Nat.le_of_ble_eq_true rfl) ⟨by decide, by decide⟩ ⟨by decide, by decide⟩ dX9_about_112) hP hD hS hA [2] [0, 1, 3, 4, 5] rfl rfl rfl (by decide) (fun r_4 u_4 H locs hw_4 hP hD hS => ?_)
    have hr_4 := hw_4
    refine lv_cst (v := 0) hr_4 ?_
    have hP : va_P D classes [(h0, .inr (9, fs)), (dd, .inr (2, ds_)), (eb, .inl (cyI, 41, .inl feb)), (pl, .inr (6, fp_)), (wt, .inr (8, fw_))] H := hP
    have hD : va_D A [(h0, .inr (9, fs)), (dd, .inr (2, ds_)), (eb, .inl (cyI, 41, .inl feb)), (pl, .inr (6, fp_)), (wt, .inr (8, fw_))] := hD
    refine W.widen (k := 0) (n := 0) (by decide) (by decide) ?_
    exact retI hC hP hD hS (by decide) (by decide) () [] rfl rfl (by decide) dX9_about_115
  · refine lv_tableIn (tgt := 116) (off := 115) hx hb dX9_about_1 (by decide) (by decide) (by decide) (by decide) ?_
    refine lv_aload_n hx hb dX9_about_116 rfl (lv_at hl 0 rfl) ?_
    refine gf hC hK hP iX9 0 rfl rfl 16 (by decide) mw_fieldLink_RX9_95_MirrorDrill_witness_LMirrorDrill_Witness h_fs_16 dX9_about_117 ?_
    refine aftI (wr := [(h0, .inr (9, fs)), (dd, .inr (2, ds_)), (ea, .inr (3, fe_)), (eb, .inl (cyI, 41, .inl feb)), (pl, .inr (6, fp_))]) (runV hC hK hP hD hl.1 (k_X8_sights l D cyB cyI cyJ cyZ H.size wt fw_ hl_fw_ h_fw__5) cV_X8_sights mw_methodLink_RX9_306_yX8_sights [5] rfl rfl 5 rfl rfl rfl rfl rfl (Nat.le_of_ble_eq_true rfl) ⟨by decide, by decide⟩ ⟨by decide, by decide⟩ dX9_about_120) hP hD hS hA [5] [0, 1, 2, 3, 4] rfl rfl rfl (by decide) (fun r_5 u_5 H locs hw_5 hP hD hS => ?_)
    have hr_5 := hw_5
    refine lv_cst (v := 0) hr_5 ?_
    have hP : va_P D classes [(h0, .inr (9, fs)), (dd, .inr (2, ds_)), (ea, .inr (3, fe_)), (eb, .inl (cyI, 41, .inl feb)), (pl, .inr (6, fp_))] H := hP
    have hD : va_D A [(h0, .inr (9, fs)), (dd, .inr (2, ds_)), (ea, .inr (3, fe_)), (eb, .inl (cyI, 41, .inl feb)), (pl, .inr (6, fp_))] := hD
    refine W.widen (k := 0) (n := 0) (by decide) (by decide) ?_
    exact retI hC hP hD hS (by decide) (by decide) () [] rfl rfl (by decide) dX9_about_123
  · refine lv_tableIn (tgt := 124) (off := 123) hx hb dX9_about_1 (by decide) (by decide) (by decide) (by decide) ?_
    refine lv_aload_n hx hb dX9_about_124 rfl (lv_at hl 0 rfl) ?_
    refine gf hC hK hP iX9 0 rfl rfl 11 (by decide) mw_fieldLink_RX9_61_MirrorDrill_time_I h_fs_11 dX9_about_125 ?_
    exact retI hC hP hD hS (by decide) (by decide) () [] rfl rfl (by decide) dX9_about_128
  · refine lv_tableIn (tgt := 129) (off := 128) hx hb dX9_about_1 (by decide) (by decide) (by decide) (by decide) ?_
    refine lv_aload_n hx hb dX9_about_129 rfl (lv_at hl 0 rfl) ?_
    refine gf hC hK hP iX9 0 rfl rfl 1 (by decide) mw_fieldLink_RX9_13_MirrorDrill_taped_I h_fs_1 dX9_about_130 ?_
    exact retI hC hP hD hS (by decide) (by decide) () [] rfl rfl (by decide) dX9_about_133
  · refine lv_tableIn (tgt := 134) (off := 133) hx hb dX9_about_1 (by decide) (by decide) (by decide) (by decide) ?_
    refine lv_aload_n hx hb dX9_about_134 rfl (lv_at hl 0 rfl) ?_
    refine gf hC hK hP iX9 0 rfl rfl 3 (by decide) mw_fieldLink_RX9_27_MirrorDrill_drill_LMirrorDrill_Drill h_fs_3 dX9_about_135 ?_
    refine gf hC hK hP iX2 1 rfl rfl 3 (by decide) mw_fieldLink_RX9_309_MirrorDrill_Drill_units_I h_ds__3 dX9_about_138 ?_
    exact retI hC hP hD hS (by decide) (by decide) () [] rfl rfl (by decide) dX9_about_141
  · refine lv_tableIn (tgt := 142) (off := 141) hx hb dX9_about_1 (by decide) (by decide) (by decide) (by decide) ?_
    refine lv_aload_n hx hb dX9_about_142 rfl (lv_at hl 0 rfl) ?_
    refine gf hC hK hP iX9 0 rfl rfl 3 (by decide) mw_fieldLink_RX9_27_MirrorDrill_drill_LMirrorDrill_Drill h_fs_3 dX9_about_143 ?_
    refine gf hC hK hP iX2 1 rfl rfl 5 (by decide) mw_fieldLink_RX9_312_MirrorDrill_Drill_ring_Z h_ds__5 dX9_about_146 ?_
    refine lv_if_eq (tgt := 156) hx hb dX9_about_149 (by decide) (fun c_6 => ?_) (fun c_6 => absurd (by decide) c_6)
    refine lv_iconst (v := 0) hx hb dX9_about_156 (by decide) ?_
    exact retI hC hP hD hS (by decide) (by decide) () [] rfl rfl (by decide) dX9_about_157
  · refine lv_tableIn (tgt := 158) (off := 157) hx hb dX9_about_1 (by decide) (by decide) (by decide) (by decide) ?_
    refine lv_aload_n hx hb dX9_about_158 rfl (lv_at hl 0 rfl) ?_
    refine gf hC hK hP iX9 0 rfl rfl 10 (by decide) mw_fieldLink_RX9_57_MirrorDrill_pile_LMirrorDrill_Pile h_fs_10 dX9_about_159 ?_
    refine aftI (wr := [(h0, .inr (9, fs)), (dd, .inr (2, ds_)), (ea, .inr (3, fe_)), (eb, .inl (cyI, 41, .inl feb)), (wt, .inr (8, fw_))]) (runV hC hK hP hD hl.1 (k_X6_size l D cyB cyI cyJ cyZ H.size pl fp_ hl_fp_ h_fp__1) cV_X6_size mw_methodLink_RX9_316_yX6_size [4] rfl rfl 4 rfl rfl rfl rfl rfl (Nat.le_of_ble_eq_true rfl) ⟨by decide, by decide⟩ ⟨by decide, by decide⟩ dX9_about_162) hP hD hS hA [4] [0, 1, 2, 3, 5] rfl rfl rfl (by decide) (fun r_7 u_7 H locs hw_7 hP hD hS => ?_)
    have hr_7 := hw_7
    refine lv_cst (v := 0) hr_7 ?_
    have hP : va_P D classes [(h0, .inr (9, fs)), (dd, .inr (2, ds_)), (ea, .inr (3, fe_)), (eb, .inl (cyI, 41, .inl feb)), (wt, .inr (8, fw_))] H := hP
    have hD : va_D A [(h0, .inr (9, fs)), (dd, .inr (2, ds_)), (ea, .inr (3, fe_)), (eb, .inl (cyI, 41, .inl feb)), (wt, .inr (8, fw_))] := hD
    refine W.widen (k := 0) (n := 0) (by decide) (by decide) ?_
    exact retI hC hP hD hS (by decide) (by decide) () [] rfl rfl (by decide) dX9_about_165
  · refine lv_tableIn (tgt := 166) (off := 165) hx hb dX9_about_1 (by decide) (by decide) (by decide) (by decide) ?_
    refine lv_aload_n hx hb dX9_about_166 rfl (lv_at hl 0 rfl) ?_
    refine gf hC hK hP iX9 0 rfl rfl 16 (by decide) mw_fieldLink_RX9_95_MirrorDrill_witness_LMirrorDrill_Witness h_fs_16 dX9_about_167 ?_
    refine aftI (wr := [(h0, .inr (9, fs)), (dd, .inr (2, ds_)), (ea, .inr (3, fe_)), (eb, .inl (cyI, 41, .inl feb)), (pl, .inr (6, fp_))]) (runV hC hK hP hD hl.1 (k_X8_doubted l D cyB cyI cyJ cyZ H.size wt fw_ hl_fw_ h_fw__6) cV_X8_doubted mw_methodLink_RX9_319_yX8_doubted [5] rfl rfl 5 rfl rfl rfl rfl rfl (Nat.le_of_ble_eq_true rfl) ⟨by decide, by decide⟩ ⟨by decide, by decide⟩ dX9_about_170) hP hD hS hA [5] [0, 1, 2, 3, 4] rfl rfl rfl (by decide) (fun r_8 u_8 H locs hw_8 hP hD hS => ?_)
    have hr_8 := hw_8
    refine lv_cst (v := 0) hr_8 ?_
    have hP : va_P D classes [(h0, .inr (9, fs)), (dd, .inr (2, ds_)), (ea, .inr (3, fe_)), (eb, .inl (cyI, 41, .inl feb)), (pl, .inr (6, fp_))] H := hP
    have hD : va_D A [(h0, .inr (9, fs)), (dd, .inr (2, ds_)), (ea, .inr (3, fe_)), (eb, .inl (cyI, 41, .inl feb)), (pl, .inr (6, fp_))] := hD
    refine W.widen (k := 0) (n := 0) (by decide) (by decide) ?_
    exact retI hC hP hD hS (by decide) (by decide) () [] rfl rfl (by decide) dX9_about_173
  · refine lv_tableOut (tgt := 174) hx hb dX9_about_1 ho_1 (by decide) ?_
    refine lv_iconst (v := (-1)) hx hb dX9_about_174 (by decide) ?_
    exact retI hC hP hD hS (by decide) (by decide) () [] rfl rfl (by have z := ho_1; unfold sp_about; (repeat' split) <;> first | rfl | (exfalso; omega)) dX9_about_175
