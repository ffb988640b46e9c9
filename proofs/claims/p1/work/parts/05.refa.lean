theorem vin {i : Int32} {n : Nat} (h : 0 ≤ i.toInt ∧ i.toInt < n) : vp_in i n := vp_in_iff.mpr h
theorem us_at {f : Nat → Int32} {k j : Nat} {x : Int32} (h : k = j) : upd f k x j = x := by rw [h]; exact pk_us
theorem un_at {f : Nat → Int32} {k j : Nat} {x : Int32} (h : j ≠ k) : upd f k x j = f j := pk_un h
theorem usL_at {f : Nat → Int64} {k j : Nat} {x : Int64} (h : k = j) : vp_updL f k x j = x := by rw [h]; exact pk_uLs
theorem unL_at {f : Nat → Int64} {k j : Nat} {x : Int64} (h : j ≠ k) : vp_updL f k x j = f j := pk_uLn h
theorem zt_eq {x y : Int32} (h : x = y) : x.toInt = y.toInt := by rw [h]
theorem zt_ne {x y : Int32} (h : ¬ x = y) : x.toInt ≠ y.toInt := fun e => h (Int32.toInt_inj.mp e)
theorem zt_lt {x y : Int32} (h : x < y) : x.toInt < y.toInt := Int32.lt_iff_toInt_lt.mp h
theorem zt_nlt {x y : Int32} (h : ¬ x < y) : y.toInt ≤ x.toInt := Int.not_lt.mp (fun q => h (Int32.lt_iff_toInt_lt.mpr q))
theorem zt_le {x y : Int32} (h : x ≤ y) : x.toInt ≤ y.toInt := Int32.le_iff_toInt_le.mp h
theorem zt_nle {x y : Int32} (h : ¬ x ≤ y) : y.toInt < x.toInt := Int.not_le.mp (fun q => h (Int32.le_iff_toInt_le.mpr q))
theorem zu_lt {x y : Int32} (h : x.toInt < y.toInt) : x < y := Int32.lt_iff_toInt_lt.mpr h
theorem zu_le {x y : Int32} (h : x.toInt ≤ y.toInt) : x ≤ y := Int32.le_iff_toInt_le.mpr h
theorem zu_eq {x y : Int32} (h : x.toInt = y.toInt) : x = y := Int32.toInt_inj.mp h
def sp_later (p : Int32) : Int32 := if 0 ≤ p.toInt ∧ p.toInt ≤ 1000 then p else -1
def sp_run (p : Int32) : Int32 := if 0 ≤ p.toInt ∧ p.toInt ≤ 500 then p else -1
def sp_end (p : Int32) : Int32 := if p.toInt = 0 then 0 else -1
def sp_fault (p : Int32) : Int32 := if p.toInt = 0 then 0 else -1
def sp_round (p : Int32) : Int32 := if p.toInt = 0 then 0 else if p.toInt = 1 then 1 else -1
def sp_wrong (p : Int32) : Int32 := if p.toInt = 0 then 1 else if p.toInt = 1 then 0 else if p.toInt = 2 then 0 else -1
def sp_image (p : Int32) : Int32 := if 0 ≤ p.toInt ∧ p.toInt ≤ 2 then 0 else -1
def sp_about (p : Int32) : Int32 := if p.toInt = 1 then 2 else if 0 ≤ p.toInt ∧ p.toInt ≤ 12 then 0 else -1
theorem tsw_0_2 (x : Int32) : x = 0 ∨ x = 1 ∨ x = 2 ∨ (x.toInt < 0 ∨ 2 < x.toInt) := by
  rcases (by omega : x.toInt = 0 ∨ x.toInt = 1 ∨ x.toInt = 2 ∨ (x.toInt < 0 ∨ 2 < x.toInt)) with h | h | h | h
  · exact Or.inl (zu_eq h)
  · exact Or.inr (Or.inl (zu_eq h))
  · exact Or.inr (Or.inr (Or.inl (zu_eq h)))
  · exact Or.inr (Or.inr (Or.inr h))
theorem tsw_0_12 (x : Int32) : x = 0 ∨ x = 1 ∨ x = 2 ∨ x = 3 ∨ x = 4 ∨ x = 5 ∨ x = 6 ∨ x = 7 ∨ x = 8 ∨ x = 9 ∨ x = 10 ∨ x = 11 ∨ x = 12 ∨ (x.toInt < 0 ∨ 12 < x.toInt) := by
  rcases (by omega : x.toInt = 0 ∨ x.toInt = 1 ∨ x.toInt = 2 ∨ x.toInt = 3 ∨ x.toInt = 4 ∨ x.toInt = 5 ∨ x.toInt = 6 ∨ x.toInt = 7 ∨ x.toInt = 8 ∨ x.toInt = 9 ∨ x.toInt = 10 ∨ x.toInt = 11 ∨ x.toInt = 12 ∨ (x.toInt < 0 ∨ 12 < x.toInt)) with h | h | h | h | h | h | h | h | h | h | h | h | h | h
  · exact Or.inl (zu_eq h)
  · exact Or.inr (Or.inl (zu_eq h))
  · exact Or.inr (Or.inr (Or.inl (zu_eq h)))
  · exact Or.inr (Or.inr (Or.inr (Or.inl (zu_eq h))))
  · exact Or.inr (Or.inr (Or.inr (Or.inr (Or.inl (zu_eq h)))))
  · exact Or.inr (Or.inr (Or.inr (Or.inr (Or.inr (Or.inl (zu_eq h))))))
  · exact Or.inr (Or.inr (Or.inr (Or.inr (Or.inr (Or.inr (Or.inl (zu_eq h)))))))
  · exact Or.inr (Or.inr (Or.inr (Or.inr (Or.inr (Or.inr (Or.inr (Or.inl (zu_eq h))))))))
  · exact Or.inr (Or.inr (Or.inr (Or.inr (Or.inr (Or.inr (Or.inr (Or.inr (Or.inl (zu_eq h)))))))))
  · exact Or.inr (Or.inr (Or.inr (Or.inr (Or.inr (Or.inr (Or.inr (Or.inr (Or.inr (Or.inl (zu_eq h))))))))))
  · exact Or.inr (Or.inr (Or.inr (Or.inr (Or.inr (Or.inr (Or.inr (Or.inr (Or.inr (Or.inr (Or.inl (zu_eq h)))))))))))
  · exact Or.inr (Or.inr (Or.inr (Or.inr (Or.inr (Or.inr (Or.inr (Or.inr (Or.inr (Or.inr (Or.inr (Or.inl (zu_eq h))))))))))))
  · exact Or.inr (Or.inr (Or.inr (Or.inr (Or.inr (Or.inr (Or.inr (Or.inr (Or.inr (Or.inr (Or.inr (Or.inr (Or.inl (zu_eq h)))))))))))))
  · exact Or.inr (Or.inr (Or.inr (Or.inr (Or.inr (Or.inr (Or.inr (Or.inr (Or.inr (Or.inr (Or.inr (Or.inr (Or.inr (h)))))))))))))
theorem dX10_isIn_0 : decode cX10_isIn 0 = .ok (.iload_n 0, 1) := by decide +kernel
theorem dX10_isIn_1 : decode cX10_isIn 1 = .ok (.iload_n 1, 1) := by decide +kernel
theorem dX10_isIn_2 : decode cX10_isIn 2 = .ok (.if_icmp .lt 12, 3) := by decide +kernel
theorem dX10_isIn_5 : decode cX10_isIn 5 = .ok (.iload_n 0, 1) := by decide +kernel
theorem dX10_isIn_6 : decode cX10_isIn 6 = .ok (.iload_n 2, 1) := by decide +kernel
theorem dX10_isIn_7 : decode cX10_isIn 7 = .ok (.if_icmp .gt 7, 3) := by decide +kernel
theorem dX10_isIn_10 : decode cX10_isIn 10 = .ok (.iconst 1, 1) := by decide +kernel
theorem dX10_isIn_11 : decode cX10_isIn 11 = .ok (.goto 4, 3) := by decide +kernel
theorem dX10_isIn_14 : decode cX10_isIn 14 = .ok (.iconst 0, 1) := by decide +kernel
theorem dX10_isIn_15 : decode cX10_isIn 15 = .ok (.ireturn, 1) := by decide +kernel
theorem dX10_manyOf_0 : decode cX10_manyOf 0 = .ok (.aload_n 0, 1) := by decide +kernel
theorem dX10_manyOf_1 : decode cX10_manyOf 1 = .ok (.getfield 24, 3) := by decide +kernel
theorem dX10_manyOf_4 : decode cX10_manyOf 4 = .ok (.aload_n 0, 1) := by decide +kernel
theorem dX10_manyOf_5 : decode cX10_manyOf 5 = .ok (.getfield 282, 3) := by decide +kernel
theorem dX10_manyOf_8 : decode cX10_manyOf 8 = .ok (.iaload, 1) := by decide +kernel
theorem dX10_manyOf_9 : decode cX10_manyOf 9 = .ok (.ireturn, 1) := by decide +kernel
theorem dX10_isMan_0 : decode cX10_isMan 0 = .ok (.iload_n 1, 1) := by decide +kernel
theorem dX10_isMan_1 : decode cX10_isMan 1 = .ok (.iconst 0, 1) := by decide +kernel
theorem dX10_isMan_2 : decode cX10_isMan 2 = .ok (.aload_n 0, 1) := by decide +kernel
theorem dX10_isMan_3 : decode cX10_isMan 3 = .ok (.invokevirtual 375, 3) := by decide +kernel
theorem dX10_isMan_6 : decode cX10_isMan 6 = .ok (.iconst 1, 1) := by decide +kernel
theorem dX10_isMan_7 : decode cX10_isMan 7 = .ok (.isub, 1) := by decide +kernel
theorem dX10_isMan_8 : decode cX10_isMan 8 = .ok (.invokestatic 378, 3) := by decide +kernel
theorem dX10_isMan_11 : decode cX10_isMan 11 = .ok (.ireturn, 1) := by decide +kernel
theorem dX10_isRule_0 : decode cX10_isRule 0 = .ok (.iload_n 1, 1) := by decide +kernel
theorem dX10_isRule_1 : decode cX10_isRule 1 = .ok (.iconst 0, 1) := by decide +kernel
theorem dX10_isRule_2 : decode cX10_isRule 2 = .ok (.aload_n 0, 1) := by decide +kernel
theorem dX10_isRule_3 : decode cX10_isRule 3 = .ok (.getfield 27, 3) := by decide +kernel
theorem dX10_isRule_6 : decode cX10_isRule 6 = .ok (.aload_n 0, 1) := by decide +kernel
theorem dX10_isRule_7 : decode cX10_isRule 7 = .ok (.getfield 282, 3) := by decide +kernel
theorem dX10_isRule_10 : decode cX10_isRule 10 = .ok (.iaload, 1) := by decide +kernel
theorem dX10_isRule_11 : decode cX10_isRule 11 = .ok (.iconst 1, 1) := by decide +kernel
theorem dX10_isRule_12 : decode cX10_isRule 12 = .ok (.isub, 1) := by decide +kernel
theorem dX10_isRule_13 : decode cX10_isRule 13 = .ok (.invokestatic 378, 3) := by decide +kernel
theorem dX10_isRule_16 : decode cX10_isRule 16 = .ok (.ireturn, 1) := by decide +kernel
theorem dX10_does_0 : decode cX10_does 0 = .ok (.aload_n 0, 1) := by decide +kernel
theorem dX10_does_1 : decode cX10_does 1 = .ok (.iload_n 1, 1) := by decide +kernel
theorem dX10_does_2 : decode cX10_does 2 = .ok (.invokevirtual 424, 3) := by decide +kernel
theorem dX10_does_5 : decode cX10_does 5 = .ok (.ifCond .eq 12, 3) := by decide +kernel
theorem dX10_does_8 : decode cX10_does 8 = .ok (.aload_n 0, 1) := by decide +kernel
theorem dX10_does_9 : decode cX10_does 9 = .ok (.getfield 107, 3) := by decide +kernel
theorem dX10_does_12 : decode cX10_does 12 = .ok (.iload_n 1, 1) := by decide +kernel
theorem dX10_does_13 : decode cX10_does 13 = .ok (.iaload, 1) := by decide +kernel
theorem dX10_does_14 : decode cX10_does 14 = .ok (.goto 4, 3) := by decide +kernel
theorem dX10_does_17 : decode cX10_does 17 = .ok (.iconst (-1), 1) := by decide +kernel
theorem dX10_does_18 : decode cX10_does 18 = .ok (.ireturn, 1) := by decide +kernel
theorem dX10_made_0 : decode cX10_made 0 = .ok (.aload_n 0, 1) := by decide +kernel
theorem dX10_made_1 : decode cX10_made 1 = .ok (.iload_n 1, 1) := by decide +kernel
theorem dX10_made_2 : decode cX10_made 2 = .ok (.invokevirtual 427, 3) := by decide +kernel
theorem dX10_made_5 : decode cX10_made 5 = .ok (.ifCond .eq 40, 3) := by decide +kernel
theorem dX10_made_8 : decode cX10_made 8 = .ok (.aload_n 0, 1) := by decide +kernel
theorem dX10_made_9 : decode cX10_made 9 = .ok (.iload_n 2, 1) := by decide +kernel
theorem dX10_made_10 : decode cX10_made 10 = .ok (.invokevirtual 430, 3) := by decide +kernel
theorem dX10_made_13 : decode cX10_made 13 = .ok (.ifCond .eq 32, 3) := by decide +kernel
theorem dX10_made_16 : decode cX10_made 16 = .ok (.aload_n 0, 1) := by decide +kernel
theorem dX10_made_17 : decode cX10_made 17 = .ok (.iload_n 3, 1) := by decide +kernel
theorem dX10_made_18 : decode cX10_made 18 = .ok (.invokevirtual 430, 3) := by decide +kernel
theorem dX10_made_21 : decode cX10_made 21 = .ok (.ifCond .eq 24, 3) := by decide +kernel
theorem dX10_made_24 : decode cX10_made 24 = .ok (.aload_n 0, 1) := by decide +kernel
theorem dX10_made_25 : decode cX10_made 25 = .ok (.iload 4, 2) := by decide +kernel
theorem dX10_made_27 : decode cX10_made 27 = .ok (.invokevirtual 430, 3) := by decide +kernel
theorem dX10_made_30 : decode cX10_made 30 = .ok (.ifCond .eq 15, 3) := by decide +kernel
theorem dX10_made_33 : decode cX10_made 33 = .ok (.aload_n 0, 1) := by decide +kernel
theorem dX10_made_34 : decode cX10_made 34 = .ok (.iload_n 1, 1) := by decide +kernel
theorem dX10_made_35 : decode cX10_made 35 = .ok (.iload_n 2, 1) := by decide +kernel
theorem dX10_made_36 : decode cX10_made 36 = .ok (.iload_n 3, 1) := by decide +kernel
theorem dX10_made_37 : decode cX10_made 37 = .ok (.iload 4, 2) := by decide +kernel
theorem dX10_made_39 : decode cX10_made 39 = .ok (.invokevirtual 409, 3) := by decide +kernel
theorem dX10_made_42 : decode cX10_made 42 = .ok (.goto 4, 3) := by decide +kernel
theorem dX10_made_45 : decode cX10_made 45 = .ok (.iconst (-1), 1) := by decide +kernel
theorem dX10_made_46 : decode cX10_made 46 = .ok (.ireturn, 1) := by decide +kernel
theorem dX10_order_0 : decode cX10_order 0 = .ok (.aload_n 0, 1) := by decide +kernel
theorem dX10_order_1 : decode cX10_order 1 = .ok (.iload_n 1, 1) := by decide +kernel
theorem dX10_order_2 : decode cX10_order 2 = .ok (.invokevirtual 424, 3) := by decide +kernel
theorem dX10_order_5 : decode cX10_order 5 = .ok (.ifCond .eq 11, 3) := by decide +kernel
theorem dX10_order_8 : decode cX10_order 8 = .ok (.aload_n 0, 1) := by decide +kernel
theorem dX10_order_9 : decode cX10_order 9 = .ok (.iload_n 2, 1) := by decide +kernel
theorem dX10_order_10 : decode cX10_order 10 = .ok (.invokevirtual 430, 3) := by decide +kernel
theorem dX10_order_13 : decode cX10_order 13 = .ok (.ifCond .ne 5, 3) := by decide +kernel
theorem dX10_order_16 : decode cX10_order 16 = .ok (.iconst (-1), 1) := by decide +kernel
theorem dX10_order_17 : decode cX10_order 17 = .ok (.ireturn, 1) := by decide +kernel
theorem dX10_order_18 : decode cX10_order 18 = .ok (.aload_n 0, 1) := by decide +kernel
theorem dX10_order_19 : decode cX10_order 19 = .ok (.invokevirtual 434, 3) := by decide +kernel
theorem dX10_order_22 : decode cX10_order 22 = .ok (.aload_n 0, 1) := by decide +kernel
theorem dX10_order_23 : decode cX10_order 23 = .ok (.getfield 107, 3) := by decide +kernel
theorem dX10_order_26 : decode cX10_order 26 = .ok (.iload_n 1, 1) := by decide +kernel
theorem dX10_order_27 : decode cX10_order 27 = .ok (.iaload, 1) := by decide +kernel
theorem dX10_order_28 : decode cX10_order 28 = .ok (.istore_n 3, 1) := by decide +kernel
theorem dX10_order_29 : decode cX10_order 29 = .ok (.aload_n 0, 1) := by decide +kernel
theorem dX10_order_30 : decode cX10_order 30 = .ok (.getfield 107, 3) := by decide +kernel
theorem dX10_order_33 : decode cX10_order 33 = .ok (.iload_n 1, 1) := by decide +kernel
theorem dX10_order_34 : decode cX10_order 34 = .ok (.iload_n 2, 1) := by decide +kernel
theorem dX10_order_35 : decode cX10_order 35 = .ok (.iastore, 1) := by decide +kernel
theorem dX10_order_36 : decode cX10_order 36 = .ok (.iload_n 3, 1) := by decide +kernel
theorem dX10_order_37 : decode cX10_order 37 = .ok (.ireturn, 1) := by decide +kernel
theorem dX10_undo_0 : decode cX10_undo 0 = .ok (.aload_n 0, 1) := by decide +kernel
theorem dX10_undo_1 : decode cX10_undo 1 = .ok (.getfield 391, 3) := by decide +kernel
theorem dX10_undo_4 : decode cX10_undo 4 = .ok (.ifCond .ne 5, 3) := by decide +kernel
theorem dX10_undo_7 : decode cX10_undo 7 = .ok (.iconst 0, 1) := by decide +kernel
theorem dX10_undo_8 : decode cX10_undo 8 = .ok (.ireturn, 1) := by decide +kernel
theorem dX10_undo_9 : decode cX10_undo 9 = .ok (.aload_n 0, 1) := by decide +kernel
theorem dX10_undo_10 : decode cX10_undo 10 = .ok (.dup, 1) := by decide +kernel
theorem dX10_undo_11 : decode cX10_undo 11 = .ok (.getfield 391, 3) := by decide +kernel
theorem dX10_undo_14 : decode cX10_undo 14 = .ok (.iconst 1, 1) := by decide +kernel
theorem dX10_undo_15 : decode cX10_undo 15 = .ok (.isub, 1) := by decide +kernel
theorem dX10_undo_16 : decode cX10_undo 16 = .ok (.putfield 391, 3) := by decide +kernel
theorem dX10_undo_19 : decode cX10_undo 19 = .ok (.aload_n 0, 1) := by decide +kernel
theorem dX10_undo_20 : decode cX10_undo 20 = .ok (.dup, 1) := by decide +kernel
theorem dX10_undo_21 : decode cX10_undo 21 = .ok (.getfield 394, 3) := by decide +kernel
theorem dX10_undo_24 : decode cX10_undo 24 = .ok (.iconst 1, 1) := by decide +kernel
theorem dX10_undo_25 : decode cX10_undo 25 = .ok (.iadd, 1) := by decide +kernel
theorem dX10_undo_26 : decode cX10_undo 26 = .ok (.putfield 394, 3) := by decide +kernel
theorem dX10_undo_29 : decode cX10_undo 29 = .ok (.aload_n 0, 1) := by decide +kernel
theorem dX10_undo_30 : decode cX10_undo 30 = .ok (.invokevirtual 443, 3) := by decide +kernel
theorem dX10_undo_33 : decode cX10_undo 33 = .ok (.iconst 1, 1) := by decide +kernel
theorem dX10_undo_34 : decode cX10_undo 34 = .ok (.ireturn, 1) := by decide +kernel
theorem dX10_redo_0 : decode cX10_redo 0 = .ok (.aload_n 0, 1) := by decide +kernel
theorem dX10_redo_1 : decode cX10_redo 1 = .ok (.getfield 394, 3) := by decide +kernel
theorem dX10_redo_4 : decode cX10_redo 4 = .ok (.ifCond .ne 5, 3) := by decide +kernel
theorem dX10_redo_7 : decode cX10_redo 7 = .ok (.iconst 0, 1) := by decide +kernel
theorem dX10_redo_8 : decode cX10_redo 8 = .ok (.ireturn, 1) := by decide +kernel
theorem dX10_redo_9 : decode cX10_redo 9 = .ok (.aload_n 0, 1) := by decide +kernel
theorem dX10_redo_10 : decode cX10_redo 10 = .ok (.invokevirtual 443, 3) := by decide +kernel
theorem dX10_redo_13 : decode cX10_redo 13 = .ok (.aload_n 0, 1) := by decide +kernel
theorem dX10_redo_14 : decode cX10_redo 14 = .ok (.dup, 1) := by decide +kernel
theorem dX10_redo_15 : decode cX10_redo 15 = .ok (.getfield 391, 3) := by decide +kernel
theorem dX10_redo_18 : decode cX10_redo 18 = .ok (.iconst 1, 1) := by decide +kernel
theorem dX10_redo_19 : decode cX10_redo 19 = .ok (.iadd, 1) := by decide +kernel
theorem dX10_redo_20 : decode cX10_redo 20 = .ok (.putfield 391, 3) := by decide +kernel
theorem dX10_redo_23 : decode cX10_redo 23 = .ok (.aload_n 0, 1) := by decide +kernel
theorem dX10_redo_24 : decode cX10_redo 24 = .ok (.dup, 1) := by decide +kernel
theorem dX10_redo_25 : decode cX10_redo 25 = .ok (.getfield 394, 3) := by decide +kernel
theorem dX10_redo_28 : decode cX10_redo 28 = .ok (.iconst 1, 1) := by decide +kernel
theorem dX10_redo_29 : decode cX10_redo 29 = .ok (.isub, 1) := by decide +kernel
theorem dX10_redo_30 : decode cX10_redo 30 = .ok (.putfield 394, 3) := by decide +kernel
theorem dX10_redo_33 : decode cX10_redo 33 = .ok (.iconst 1, 1) := by decide +kernel
theorem dX10_redo_34 : decode cX10_redo 34 = .ok (.ireturn, 1) := by decide +kernel
theorem dX10_worth_0 : decode cX10_worth 0 = .ok (.iconst 0, 1) := by decide +kernel
theorem dX10_worth_1 : decode cX10_worth 1 = .ok (.istore_n 1, 1) := by decide +kernel
theorem dX10_worth_2 : decode cX10_worth 2 = .ok (.iconst 0, 1) := by decide +kernel
theorem dX10_worth_3 : decode cX10_worth 3 = .ok (.istore_n 2, 1) := by decide +kernel
theorem dX10_worth_4 : decode cX10_worth 4 = .ok (.iload_n 2, 1) := by decide +kernel
theorem dX10_worth_5 : decode cX10_worth 5 = .ok (.aload_n 0, 1) := by decide +kernel
theorem dX10_worth_6 : decode cX10_worth 6 = .ok (.invokevirtual 375, 3) := by decide +kernel
theorem dX10_worth_9 : decode cX10_worth 9 = .ok (.if_icmp .ge 30, 3) := by decide +kernel
theorem dX10_worth_12 : decode cX10_worth 12 = .ok (.iload_n 1, 1) := by decide +kernel
theorem dX10_worth_13 : decode cX10_worth 13 = .ok (.aload_n 0, 1) := by decide +kernel
theorem dX10_worth_14 : decode cX10_worth 14 = .ok (.getfield 36, 3) := by decide +kernel
theorem dX10_worth_17 : decode cX10_worth 17 = .ok (.iconst 4, 1) := by decide +kernel
theorem dX10_worth_18 : decode cX10_worth 18 = .ok (.aload_n 0, 1) := by decide +kernel
theorem dX10_worth_19 : decode cX10_worth 19 = .ok (.getfield 282, 3) := by decide +kernel
theorem dX10_worth_22 : decode cX10_worth 22 = .ok (.imul, 1) := by decide +kernel
theorem dX10_worth_23 : decode cX10_worth 23 = .ok (.aload_n 0, 1) := by decide +kernel
theorem dX10_worth_24 : decode cX10_worth 24 = .ok (.getfield 107, 3) := by decide +kernel
theorem dX10_worth_27 : decode cX10_worth 27 = .ok (.iload_n 2, 1) := by decide +kernel
theorem dX10_worth_28 : decode cX10_worth 28 = .ok (.iaload, 1) := by decide +kernel
theorem dX10_worth_29 : decode cX10_worth 29 = .ok (.iadd, 1) := by decide +kernel
theorem dX10_worth_30 : decode cX10_worth 30 = .ok (.iaload, 1) := by decide +kernel
theorem dX10_worth_31 : decode cX10_worth 31 = .ok (.iadd, 1) := by decide +kernel
theorem dX10_worth_32 : decode cX10_worth 32 = .ok (.istore_n 1, 1) := by decide +kernel
theorem dX10_worth_33 : decode cX10_worth 33 = .ok (.iinc 2 1, 3) := by decide +kernel
theorem dX10_worth_36 : decode cX10_worth 36 = .ok (.goto (-32), 3) := by decide +kernel
theorem dX10_worth_39 : decode cX10_worth 39 = .ok (.iload_n 1, 1) := by decide +kernel
theorem dX10_worth_40 : decode cX10_worth 40 = .ok (.ireturn, 1) := by decide +kernel
theorem dX10_spread_0 : decode cX10_spread 0 = .ok (.aload_n 0, 1) := by decide +kernel
theorem dX10_spread_1 : decode cX10_spread 1 = .ok (.iload_n 1, 1) := by decide +kernel
theorem dX10_spread_2 : decode cX10_spread 2 = .ok (.invokevirtual 424, 3) := by decide +kernel
theorem dX10_spread_5 : decode cX10_spread 5 = .ok (.ifCond .eq 22, 3) := by decide +kernel
theorem dX10_spread_8 : decode cX10_spread 8 = .ok (.aload_n 0, 1) := by decide +kernel
theorem dX10_spread_9 : decode cX10_spread 9 = .ok (.iload_n 2, 1) := by decide +kernel
theorem dX10_spread_10 : decode cX10_spread 10 = .ok (.invokevirtual 430, 3) := by decide +kernel
theorem dX10_spread_13 : decode cX10_spread 13 = .ok (.ifCond .eq 14, 3) := by decide +kernel
theorem dX10_spread_16 : decode cX10_spread 16 = .ok (.iload_n 3, 1) := by decide +kernel
theorem dX10_spread_17 : decode cX10_spread 17 = .ok (.iconst 0, 1) := by decide +kernel
theorem dX10_spread_18 : decode cX10_spread 18 = .ok (.sipush 200, 3) := by decide +kernel
theorem dX10_spread_21 : decode cX10_spread 21 = .ok (.invokestatic 378, 3) := by decide +kernel
theorem dX10_spread_24 : decode cX10_spread 24 = .ok (.ifCond .ne 5, 3) := by decide +kernel
theorem dX10_spread_27 : decode cX10_spread 27 = .ok (.iconst (-1), 1) := by decide +kernel
theorem dX10_spread_28 : decode cX10_spread 28 = .ok (.ireturn, 1) := by decide +kernel
theorem dX10_spread_29 : decode cX10_spread 29 = .ok (.aload_n 0, 1) := by decide +kernel
theorem dX10_spread_30 : decode cX10_spread 30 = .ok (.invokevirtual 437, 3) := by decide +kernel
theorem dX10_spread_33 : decode cX10_spread 33 = .ok (.aload_n 0, 1) := by decide +kernel
theorem dX10_spread_34 : decode cX10_spread 34 = .ok (.iload_n 3, 1) := by decide +kernel
theorem dX10_spread_35 : decode cX10_spread 35 = .ok (.invokevirtual 440, 3) := by decide +kernel
theorem dX10_spread_38 : decode cX10_spread 38 = .ok (.iconst 0, 1) := by decide +kernel
theorem dX10_spread_39 : decode cX10_spread 39 = .ok (.istore 4, 2) := by decide +kernel
theorem dX10_spread_41 : decode cX10_spread 41 = .ok (.iload 4, 2) := by decide +kernel
theorem dX10_spread_43 : decode cX10_spread 43 = .ok (.bipush 30, 2) := by decide +kernel
theorem dX10_spread_45 : decode cX10_spread 45 = .ok (.if_icmp .ge 23, 3) := by decide +kernel
theorem dX10_spread_48 : decode cX10_spread 48 = .ok (.aload_n 0, 1) := by decide +kernel
theorem dX10_spread_49 : decode cX10_spread 49 = .ok (.getfield 144, 3) := by decide +kernel
theorem dX10_spread_52 : decode cX10_spread 52 = .ok (.iload 4, 2) := by decide +kernel
theorem dX10_spread_54 : decode cX10_spread 54 = .ok (.aload_n 0, 1) := by decide +kernel
theorem dX10_spread_55 : decode cX10_spread 55 = .ok (.getfield 101, 3) := by decide +kernel
theorem dX10_spread_58 : decode cX10_spread 58 = .ok (.iload 4, 2) := by decide +kernel
theorem dX10_spread_60 : decode cX10_spread 60 = .ok (.iaload, 1) := by decide +kernel
theorem dX10_spread_61 : decode cX10_spread 61 = .ok (.iastore, 1) := by decide +kernel
theorem dX10_spread_62 : decode cX10_spread 62 = .ok (.iinc 4 1, 3) := by decide +kernel
theorem dX10_spread_65 : decode cX10_spread 65 = .ok (.goto (-24), 3) := by decide +kernel
theorem dX10_spread_68 : decode cX10_spread 68 = .ok (.aload_n 0, 1) := by decide +kernel
theorem dX10_spread_69 : decode cX10_spread 69 = .ok (.invokevirtual 437, 3) := by decide +kernel
theorem dX10_spread_72 : decode cX10_spread 72 = .ok (.aload_n 0, 1) := by decide +kernel
theorem dX10_spread_73 : decode cX10_spread 73 = .ok (.getfield 101, 3) := by decide +kernel
theorem dX10_spread_76 : decode cX10_spread 76 = .ok (.iload_n 1, 1) := by decide +kernel
theorem dX10_spread_77 : decode cX10_spread 77 = .ok (.iload_n 2, 1) := by decide +kernel
theorem dX10_spread_78 : decode cX10_spread 78 = .ok (.iastore, 1) := by decide +kernel
theorem dX10_spread_79 : decode cX10_spread 79 = .ok (.aload_n 0, 1) := by decide +kernel
theorem dX10_spread_80 : decode cX10_spread 80 = .ok (.iload_n 3, 1) := by decide +kernel
theorem dX10_spread_81 : decode cX10_spread 81 = .ok (.invokevirtual 440, 3) := by decide +kernel
theorem dX10_spread_84 : decode cX10_spread 84 = .ok (.iconst 0, 1) := by decide +kernel
theorem dX10_spread_85 : decode cX10_spread 85 = .ok (.istore 4, 2) := by decide +kernel
theorem dX10_spread_87 : decode cX10_spread 87 = .ok (.iconst 0, 1) := by decide +kernel
theorem dX10_spread_88 : decode cX10_spread 88 = .ok (.istore 5, 2) := by decide +kernel
theorem dX10_spread_90 : decode cX10_spread 90 = .ok (.iload 5, 2) := by decide +kernel
theorem dX10_spread_92 : decode cX10_spread 92 = .ok (.aload_n 0, 1) := by decide +kernel
theorem dX10_spread_93 : decode cX10_spread 93 = .ok (.invokevirtual 375, 3) := by decide +kernel
theorem dX10_spread_96 : decode cX10_spread 96 = .ok (.if_icmp .ge 36, 3) := by decide +kernel
theorem dX10_spread_99 : decode cX10_spread 99 = .ok (.iload 4, 2) := by decide +kernel
theorem dX10_spread_101 : decode cX10_spread 101 = .ok (.aload_n 0, 1) := by decide +kernel
theorem dX10_spread_102 : decode cX10_spread 102 = .ok (.getfield 101, 3) := by decide +kernel
theorem dX10_spread_105 : decode cX10_spread 105 = .ok (.iload 5, 2) := by decide +kernel
theorem dX10_spread_107 : decode cX10_spread 107 = .ok (.iaload, 1) := by decide +kernel
theorem dX10_spread_108 : decode cX10_spread 108 = .ok (.aload_n 0, 1) := by decide +kernel
theorem dX10_spread_109 : decode cX10_spread 109 = .ok (.getfield 144, 3) := by decide +kernel
theorem dX10_spread_112 : decode cX10_spread 112 = .ok (.iload 5, 2) := by decide +kernel
theorem dX10_spread_114 : decode cX10_spread 114 = .ok (.iaload, 1) := by decide +kernel
theorem dX10_spread_115 : decode cX10_spread 115 = .ok (.if_icmp .ne 7, 3) := by decide +kernel
theorem dX10_spread_118 : decode cX10_spread 118 = .ok (.iconst 0, 1) := by decide +kernel
theorem dX10_spread_119 : decode cX10_spread 119 = .ok (.goto 4, 3) := by decide +kernel
theorem dX10_spread_122 : decode cX10_spread 122 = .ok (.iconst 1, 1) := by decide +kernel
theorem dX10_spread_123 : decode cX10_spread 123 = .ok (.iadd, 1) := by decide +kernel
theorem dX10_spread_124 : decode cX10_spread 124 = .ok (.istore 4, 2) := by decide +kernel
theorem dX10_spread_126 : decode cX10_spread 126 = .ok (.iinc 5 1, 3) := by decide +kernel
theorem dX10_spread_129 : decode cX10_spread 129 = .ok (.goto (-39), 3) := by decide +kernel
theorem dX10_spread_132 : decode cX10_spread 132 = .ok (.iload 4, 2) := by decide +kernel
theorem dX10_spread_134 : decode cX10_spread 134 = .ok (.ireturn, 1) := by decide +kernel
theorem dX10_glint_0 : decode cX10_glint 0 = .ok (.aload_n 0, 1) := by decide +kernel
theorem dX10_glint_1 : decode cX10_glint 1 = .ok (.iconst 0, 1) := by decide +kernel
theorem dX10_glint_2 : decode cX10_glint 2 = .ok (.putfield 297, 3) := by decide +kernel
theorem dX10_glint_5 : decode cX10_glint 5 = .ok (.aload_n 0, 1) := by decide +kernel
theorem dX10_glint_6 : decode cX10_glint 6 = .ok (.iload_n 1, 1) := by decide +kernel
theorem dX10_glint_7 : decode cX10_glint 7 = .ok (.invokevirtual 424, 3) := by decide +kernel
theorem dX10_glint_10 : decode cX10_glint 10 = .ok (.ifCond .eq 21, 3) := by decide +kernel
theorem dX10_glint_13 : decode cX10_glint 13 = .ok (.aload_n 0, 1) := by decide +kernel
theorem dX10_glint_14 : decode cX10_glint 14 = .ok (.iload_n 2, 1) := by decide +kernel
theorem dX10_glint_15 : decode cX10_glint 15 = .ok (.invokevirtual 430, 3) := by decide +kernel
theorem dX10_glint_18 : decode cX10_glint 18 = .ok (.ifCond .eq 13, 3) := by decide +kernel
theorem dX10_glint_21 : decode cX10_glint 21 = .ok (.iload_n 3, 1) := by decide +kernel
theorem dX10_glint_22 : decode cX10_glint 22 = .ok (.iconst 0, 1) := by decide +kernel
theorem dX10_glint_23 : decode cX10_glint 23 = .ok (.bipush 8, 2) := by decide +kernel
theorem dX10_glint_25 : decode cX10_glint 25 = .ok (.invokestatic 378, 3) := by decide +kernel
theorem dX10_glint_28 : decode cX10_glint 28 = .ok (.ifCond .ne 6, 3) := by decide +kernel
theorem dX10_glint_31 : decode cX10_glint 31 = .ok (.bipush (-2), 2) := by decide +kernel
theorem dX10_glint_33 : decode cX10_glint 33 = .ok (.ireturn, 1) := by decide +kernel
theorem dX10_glint_34 : decode cX10_glint 34 = .ok (.iconst 0, 1) := by decide +kernel
theorem dX10_glint_35 : decode cX10_glint 35 = .ok (.istore 4, 2) := by decide +kernel
theorem dX10_glint_37 : decode cX10_glint 37 = .ok (.iload 4, 2) := by decide +kernel
theorem dX10_glint_39 : decode cX10_glint 39 = .ok (.iconst 3, 1) := by decide +kernel
theorem dX10_glint_40 : decode cX10_glint 40 = .ok (.if_icmp .gt 130, 3) := by decide +kernel
theorem dX10_glint_43 : decode cX10_glint 43 = .ok (.iload 4, 2) := by decide +kernel
theorem dX10_glint_45 : decode cX10_glint 45 = .ok (.aload_n 0, 1) := by decide +kernel
theorem dX10_glint_46 : decode cX10_glint 46 = .ok (.invokevirtual 375, 3) := by decide +kernel
theorem dX10_glint_49 : decode cX10_glint 49 = .ok (.if_icmp .gt 121, 3) := by decide +kernel
theorem dX10_glint_52 : decode cX10_glint 52 = .ok (.iconst 0, 1) := by decide +kernel
theorem dX10_glint_53 : decode cX10_glint 53 = .ok (.istore 5, 2) := by decide +kernel
theorem dX10_glint_55 : decode cX10_glint 55 = .ok (.iload 5, 2) := by decide +kernel
theorem dX10_glint_57 : decode cX10_glint 57 = .ok (.iload 4, 2) := by decide +kernel
theorem dX10_glint_59 : decode cX10_glint 59 = .ok (.if_icmp .ge 18, 3) := by decide +kernel
theorem dX10_glint_62 : decode cX10_glint 62 = .ok (.aload_n 0, 1) := by decide +kernel
theorem dX10_glint_63 : decode cX10_glint 63 = .ok (.getfield 147, 3) := by decide +kernel
theorem dX10_glint_66 : decode cX10_glint 66 = .ok (.iload 5, 2) := by decide +kernel
theorem dX10_glint_68 : decode cX10_glint 68 = .ok (.iload 5, 2) := by decide +kernel
theorem dX10_glint_70 : decode cX10_glint 70 = .ok (.iastore, 1) := by decide +kernel
theorem dX10_glint_71 : decode cX10_glint 71 = .ok (.iinc 5 1, 3) := by decide +kernel
theorem dX10_glint_74 : decode cX10_glint 74 = .ok (.goto (-19), 3) := by decide +kernel
theorem dX10_glint_77 : decode cX10_glint 77 = .ok (.iconst 1, 1) := by decide +kernel
theorem dX10_glint_78 : decode cX10_glint 78 = .ok (.istore 5, 2) := by decide +kernel
theorem dX10_glint_80 : decode cX10_glint 80 = .ok (.iload 5, 2) := by decide +kernel
theorem dX10_glint_82 : decode cX10_glint 82 = .ok (.ifCond .eq 82, 3) := by decide +kernel
theorem dX10_glint_85 : decode cX10_glint 85 = .ok (.iconst 0, 1) := by decide +kernel
theorem dX10_glint_86 : decode cX10_glint 86 = .ok (.istore 6, 2) := by decide +kernel
theorem dX10_glint_88 : decode cX10_glint 88 = .ok (.iload 6, 2) := by decide +kernel
theorem dX10_glint_90 : decode cX10_glint 90 = .ok (.iload 4, 2) := by decide +kernel
theorem dX10_glint_92 : decode cX10_glint 92 = .ok (.if_icmp .ge 23, 3) := by decide +kernel
theorem dX10_glint_95 : decode cX10_glint 95 = .ok (.aload_n 0, 1) := by decide +kernel
theorem dX10_glint_96 : decode cX10_glint 96 = .ok (.getfield 150, 3) := by decide +kernel
theorem dX10_glint_99 : decode cX10_glint 99 = .ok (.iload 6, 2) := by decide +kernel
theorem dX10_glint_101 : decode cX10_glint 101 = .ok (.aload_n 0, 1) := by decide +kernel
theorem dX10_glint_102 : decode cX10_glint 102 = .ok (.iload 6, 2) := by decide +kernel
theorem dX10_glint_104 : decode cX10_glint 104 = .ok (.iconst 0, 1) := by decide +kernel
theorem dX10_glint_105 : decode cX10_glint 105 = .ok (.invokevirtual 502, 3) := by decide +kernel
theorem dX10_glint_108 : decode cX10_glint 108 = .ok (.iastore, 1) := by decide +kernel
theorem dX10_glint_109 : decode cX10_glint 109 = .ok (.iinc 6 1, 3) := by decide +kernel
theorem dX10_glint_112 : decode cX10_glint 112 = .ok (.goto (-24), 3) := by decide +kernel
theorem dX10_glint_115 : decode cX10_glint 115 = .ok (.iconst 1, 1) := by decide +kernel
theorem dX10_glint_116 : decode cX10_glint 116 = .ok (.istore 6, 2) := by decide +kernel
theorem dX10_glint_118 : decode cX10_glint 118 = .ok (.iload 6, 2) := by decide +kernel
theorem dX10_glint_120 : decode cX10_glint 120 = .ok (.ifCond .eq 33, 3) := by decide +kernel
theorem dX10_glint_123 : decode cX10_glint 123 = .ok (.aload_n 0, 1) := by decide +kernel
theorem dX10_glint_124 : decode cX10_glint 124 = .ok (.iload 4, 2) := by decide +kernel
theorem dX10_glint_126 : decode cX10_glint 126 = .ok (.iload_n 1, 1) := by decide +kernel
theorem dX10_glint_127 : decode cX10_glint 127 = .ok (.iload_n 2, 1) := by decide +kernel
theorem dX10_glint_128 : decode cX10_glint 128 = .ok (.iload_n 3, 1) := by decide +kernel
theorem dX10_glint_129 : decode cX10_glint 129 = .ok (.invokevirtual 505, 3) := by decide +kernel
theorem dX10_glint_132 : decode cX10_glint 132 = .ok (.ifCond .eq 10, 3) := by decide +kernel
theorem dX10_glint_135 : decode cX10_glint 135 = .ok (.aload_n 0, 1) := by decide +kernel
theorem dX10_glint_136 : decode cX10_glint 136 = .ok (.iload 4, 2) := by decide +kernel
theorem dX10_glint_138 : decode cX10_glint 138 = .ok (.invokevirtual 509, 3) := by decide +kernel
theorem dX10_glint_141 : decode cX10_glint 141 = .ok (.ireturn, 1) := by decide +kernel
theorem dX10_glint_142 : decode cX10_glint 142 = .ok (.aload_n 0, 1) := by decide +kernel
theorem dX10_glint_143 : decode cX10_glint 143 = .ok (.iload 4, 2) := by decide +kernel
theorem dX10_glint_145 : decode cX10_glint 145 = .ok (.invokevirtual 512, 3) := by decide +kernel
theorem dX10_glint_148 : decode cX10_glint 148 = .ok (.istore 6, 2) := by decide +kernel
theorem dX10_glint_150 : decode cX10_glint 150 = .ok (.goto (-32), 3) := by decide +kernel
theorem dX10_glint_153 : decode cX10_glint 153 = .ok (.aload_n 0, 1) := by decide +kernel
theorem dX10_glint_154 : decode cX10_glint 154 = .ok (.iload 4, 2) := by decide +kernel
theorem dX10_glint_156 : decode cX10_glint 156 = .ok (.invokevirtual 515, 3) := by decide +kernel
theorem dX10_glint_159 : decode cX10_glint 159 = .ok (.istore 5, 2) := by decide +kernel
theorem dX10_glint_161 : decode cX10_glint 161 = .ok (.goto (-81), 3) := by decide +kernel
theorem dX10_glint_164 : decode cX10_glint 164 = .ok (.iinc 4 1, 3) := by decide +kernel
theorem dX10_glint_167 : decode cX10_glint 167 = .ok (.goto (-130), 3) := by decide +kernel
theorem dX10_glint_170 : decode cX10_glint 170 = .ok (.iconst (-1), 1) := by decide +kernel
theorem dX10_glint_171 : decode cX10_glint 171 = .ok (.ireturn, 1) := by decide +kernel
theorem dX10_cracks_0 : decode cX10_cracks 0 = .ok (.aload_n 0, 1) := by decide +kernel
theorem dX10_cracks_1 : decode cX10_cracks 1 = .ok (.iconst 0, 1) := by decide +kernel
theorem dX10_cracks_2 : decode cX10_cracks 2 = .ok (.putfield 297, 3) := by decide +kernel
theorem dX10_cracks_5 : decode cX10_cracks 5 = .ok (.aload_n 0, 1) := by decide +kernel
theorem dX10_cracks_6 : decode cX10_cracks 6 = .ok (.iload_n 1, 1) := by decide +kernel
theorem dX10_cracks_7 : decode cX10_cracks 7 = .ok (.invokevirtual 424, 3) := by decide +kernel
theorem dX10_cracks_10 : decode cX10_cracks 10 = .ok (.ifCond .eq 21, 3) := by decide +kernel
theorem dX10_cracks_13 : decode cX10_cracks 13 = .ok (.aload_n 0, 1) := by decide +kernel
theorem dX10_cracks_14 : decode cX10_cracks 14 = .ok (.iload_n 2, 1) := by decide +kernel
theorem dX10_cracks_15 : decode cX10_cracks 15 = .ok (.invokevirtual 430, 3) := by decide +kernel
theorem dX10_cracks_18 : decode cX10_cracks 18 = .ok (.ifCond .eq 13, 3) := by decide +kernel
theorem dX10_cracks_21 : decode cX10_cracks 21 = .ok (.iload_n 3, 1) := by decide +kernel
theorem dX10_cracks_22 : decode cX10_cracks 22 = .ok (.iconst 1, 1) := by decide +kernel
theorem dX10_cracks_23 : decode cX10_cracks 23 = .ok (.bipush 30, 2) := by decide +kernel
theorem dX10_cracks_25 : decode cX10_cracks 25 = .ok (.invokestatic 378, 3) := by decide +kernel
theorem dX10_cracks_28 : decode cX10_cracks 28 = .ok (.ifCond .ne 6, 3) := by decide +kernel
theorem dX10_cracks_31 : decode cX10_cracks 31 = .ok (.bipush (-2), 2) := by decide +kernel
theorem dX10_cracks_33 : decode cX10_cracks 33 = .ok (.ireturn, 1) := by decide +kernel
theorem dX10_cracks_34 : decode cX10_cracks 34 = .ok (.iconst 0, 1) := by decide +kernel
theorem dX10_cracks_35 : decode cX10_cracks 35 = .ok (.istore 4, 2) := by decide +kernel
theorem dX10_cracks_37 : decode cX10_cracks 37 = .ok (.iload 4, 2) := by decide +kernel
theorem dX10_cracks_39 : decode cX10_cracks 39 = .ok (.iconst 2, 1) := by decide +kernel
theorem dX10_cracks_40 : decode cX10_cracks 40 = .ok (.if_icmp .gt 128, 3) := by decide +kernel
theorem dX10_cracks_43 : decode cX10_cracks 43 = .ok (.iload 4, 2) := by decide +kernel
theorem dX10_cracks_45 : decode cX10_cracks 45 = .ok (.aload_n 0, 1) := by decide +kernel
theorem dX10_cracks_46 : decode cX10_cracks 46 = .ok (.invokevirtual 375, 3) := by decide +kernel
theorem dX10_cracks_49 : decode cX10_cracks 49 = .ok (.if_icmp .gt 119, 3) := by decide +kernel
theorem dX10_cracks_52 : decode cX10_cracks 52 = .ok (.iconst 0, 1) := by decide +kernel
theorem dX10_cracks_53 : decode cX10_cracks 53 = .ok (.istore 5, 2) := by decide +kernel
theorem dX10_cracks_55 : decode cX10_cracks 55 = .ok (.iload 5, 2) := by decide +kernel
theorem dX10_cracks_57 : decode cX10_cracks 57 = .ok (.iload 4, 2) := by decide +kernel
theorem dX10_cracks_59 : decode cX10_cracks 59 = .ok (.if_icmp .ge 18, 3) := by decide +kernel
theorem dX10_cracks_62 : decode cX10_cracks 62 = .ok (.aload_n 0, 1) := by decide +kernel
theorem dX10_cracks_63 : decode cX10_cracks 63 = .ok (.getfield 147, 3) := by decide +kernel
theorem dX10_cracks_66 : decode cX10_cracks 66 = .ok (.iload 5, 2) := by decide +kernel
theorem dX10_cracks_68 : decode cX10_cracks 68 = .ok (.iload 5, 2) := by decide +kernel
theorem dX10_cracks_70 : decode cX10_cracks 70 = .ok (.iastore, 1) := by decide +kernel
theorem dX10_cracks_71 : decode cX10_cracks 71 = .ok (.iinc 5 1, 3) := by decide +kernel
theorem dX10_cracks_74 : decode cX10_cracks 74 = .ok (.goto (-19), 3) := by decide +kernel
theorem dX10_cracks_77 : decode cX10_cracks 77 = .ok (.iconst 1, 1) := by decide +kernel
theorem dX10_cracks_78 : decode cX10_cracks 78 = .ok (.istore 5, 2) := by decide +kernel
theorem dX10_cracks_80 : decode cX10_cracks 80 = .ok (.iload 5, 2) := by decide +kernel
theorem dX10_cracks_82 : decode cX10_cracks 82 = .ok (.ifCond .eq 80, 3) := by decide +kernel
theorem dX10_cracks_85 : decode cX10_cracks 85 = .ok (.aload_n 0, 1) := by decide +kernel
theorem dX10_cracks_86 : decode cX10_cracks 86 = .ok (.iconst 0, 1) := by decide +kernel
theorem dX10_cracks_87 : decode cX10_cracks 87 = .ok (.putfield 400, 3) := by decide +kernel
theorem dX10_cracks_90 : decode cX10_cracks 90 = .ok (.iconst 0, 1) := by decide +kernel
theorem dX10_cracks_91 : decode cX10_cracks 91 = .ok (.istore 6, 2) := by decide +kernel
theorem dX10_cracks_93 : decode cX10_cracks 93 = .ok (.iload 6, 2) := by decide +kernel
theorem dX10_cracks_95 : decode cX10_cracks 95 = .ok (.iload 4, 2) := by decide +kernel
theorem dX10_cracks_97 : decode cX10_cracks 97 = .ok (.if_icmp .ge 27, 3) := by decide +kernel
theorem dX10_cracks_100 : decode cX10_cracks 100 = .ok (.aload_n 0, 1) := by decide +kernel
theorem dX10_cracks_101 : decode cX10_cracks 101 = .ok (.dup, 1) := by decide +kernel
theorem dX10_cracks_102 : decode cX10_cracks 102 = .ok (.getfield 400, 3) := by decide +kernel
theorem dX10_cracks_105 : decode cX10_cracks 105 = .ok (.iconst 1, 1) := by decide +kernel
theorem dX10_cracks_106 : decode cX10_cracks 106 = .ok (.aload_n 0, 1) := by decide +kernel
theorem dX10_cracks_107 : decode cX10_cracks 107 = .ok (.getfield 147, 3) := by decide +kernel
theorem dX10_cracks_110 : decode cX10_cracks 110 = .ok (.iload 6, 2) := by decide +kernel
theorem dX10_cracks_112 : decode cX10_cracks 112 = .ok (.iaload, 1) := by decide +kernel
theorem dX10_cracks_113 : decode cX10_cracks 113 = .ok (.ishl, 1) := by decide +kernel
theorem dX10_cracks_114 : decode cX10_cracks 114 = .ok (.ior, 1) := by decide +kernel
theorem dX10_cracks_115 : decode cX10_cracks 115 = .ok (.putfield 400, 3) := by decide +kernel
theorem dX10_cracks_118 : decode cX10_cracks 118 = .ok (.iinc 6 1, 3) := by decide +kernel
theorem dX10_cracks_121 : decode cX10_cracks 121 = .ok (.goto (-28), 3) := by decide +kernel
theorem dX10_cracks_124 : decode cX10_cracks 124 = .ok (.aload_n 0, 1) := by decide +kernel
theorem dX10_cracks_125 : decode cX10_cracks 125 = .ok (.iconst 0, 1) := by decide +kernel
theorem dX10_cracks_126 : decode cX10_cracks 126 = .ok (.iload_n 1, 1) := by decide +kernel
theorem dX10_cracks_127 : decode cX10_cracks 127 = .ok (.iload_n 2, 1) := by decide +kernel
theorem dX10_cracks_128 : decode cX10_cracks 128 = .ok (.iload_n 3, 1) := by decide +kernel
theorem dX10_cracks_129 : decode cX10_cracks 129 = .ok (.invokevirtual 505, 3) := by decide +kernel
theorem dX10_cracks_132 : decode cX10_cracks 132 = .ok (.istore 6, 2) := by decide +kernel
theorem dX10_cracks_134 : decode cX10_cracks 134 = .ok (.aload_n 0, 1) := by decide +kernel
theorem dX10_cracks_135 : decode cX10_cracks 135 = .ok (.iconst 0, 1) := by decide +kernel
theorem dX10_cracks_136 : decode cX10_cracks 136 = .ok (.putfield 400, 3) := by decide +kernel
theorem dX10_cracks_139 : decode cX10_cracks 139 = .ok (.iload 6, 2) := by decide +kernel
theorem dX10_cracks_141 : decode cX10_cracks 141 = .ok (.ifCond .eq 10, 3) := by decide +kernel
theorem dX10_cracks_144 : decode cX10_cracks 144 = .ok (.aload_n 0, 1) := by decide +kernel
theorem dX10_cracks_145 : decode cX10_cracks 145 = .ok (.iload 4, 2) := by decide +kernel
theorem dX10_cracks_147 : decode cX10_cracks 147 = .ok (.invokevirtual 518, 3) := by decide +kernel
theorem dX10_cracks_150 : decode cX10_cracks 150 = .ok (.ireturn, 1) := by decide +kernel
theorem dX10_cracks_151 : decode cX10_cracks 151 = .ok (.aload_n 0, 1) := by decide +kernel
theorem dX10_cracks_152 : decode cX10_cracks 152 = .ok (.iload 4, 2) := by decide +kernel
theorem dX10_cracks_154 : decode cX10_cracks 154 = .ok (.invokevirtual 515, 3) := by decide +kernel
theorem dX10_cracks_157 : decode cX10_cracks 157 = .ok (.istore 5, 2) := by decide +kernel
theorem dX10_cracks_159 : decode cX10_cracks 159 = .ok (.goto (-79), 3) := by decide +kernel
theorem dX10_cracks_162 : decode cX10_cracks 162 = .ok (.iinc 4 1, 3) := by decide +kernel
theorem dX10_cracks_165 : decode cX10_cracks 165 = .ok (.goto (-128), 3) := by decide +kernel
theorem dX10_cracks_168 : decode cX10_cracks 168 = .ok (.iconst (-1), 1) := by decide +kernel
theorem dX10_cracks_169 : decode cX10_cracks 169 = .ok (.ireturn, 1) := by decide +kernel
theorem dX10_orphan_0 : decode cX10_orphan 0 = .ok (.aload_n 0, 1) := by decide +kernel
theorem dX10_orphan_1 : decode cX10_orphan 1 = .ok (.iconst 0, 1) := by decide +kernel
theorem dX10_orphan_2 : decode cX10_orphan 2 = .ok (.putfield 297, 3) := by decide +kernel
theorem dX10_orphan_5 : decode cX10_orphan 5 = .ok (.aload_n 0, 1) := by decide +kernel
theorem dX10_orphan_6 : decode cX10_orphan 6 = .ok (.iload_n 1, 1) := by decide +kernel
theorem dX10_orphan_7 : decode cX10_orphan 7 = .ok (.invokevirtual 427, 3) := by decide +kernel
theorem dX10_orphan_10 : decode cX10_orphan 10 = .ok (.ifCond .ne 5, 3) := by decide +kernel
theorem dX10_orphan_13 : decode cX10_orphan 13 = .ok (.iconst (-1), 1) := by decide +kernel
theorem dX10_orphan_14 : decode cX10_orphan 14 = .ok (.ireturn, 1) := by decide +kernel
theorem dX10_orphan_15 : decode cX10_orphan 15 = .ok (.iconst 0, 1) := by decide +kernel
theorem dX10_orphan_16 : decode cX10_orphan 16 = .ok (.istore_n 2, 1) := by decide +kernel
theorem dX10_orphan_17 : decode cX10_orphan 17 = .ok (.iload_n 2, 1) := by decide +kernel
theorem dX10_orphan_18 : decode cX10_orphan 18 = .ok (.ldc 131, 2) := by decide +kernel
theorem dX10_orphan_20 : decode cX10_orphan 20 = .ok (.if_icmp .ge 16, 3) := by decide +kernel
theorem dX10_orphan_23 : decode cX10_orphan 23 = .ok (.aload_n 0, 1) := by decide +kernel
theorem dX10_orphan_24 : decode cX10_orphan 24 = .ok (.getfield 138, 3) := by decide +kernel
theorem dX10_orphan_27 : decode cX10_orphan 27 = .ok (.iload_n 2, 1) := by decide +kernel
theorem dX10_orphan_28 : decode cX10_orphan 28 = .ok (.iconst (-1), 1) := by decide +kernel
theorem dX10_orphan_29 : decode cX10_orphan 29 = .ok (.bastore, 1) := by decide +kernel
theorem dX10_orphan_30 : decode cX10_orphan 30 = .ok (.iinc 2 1, 3) := by decide +kernel
theorem dX10_orphan_33 : decode cX10_orphan 33 = .ok (.goto (-16), 3) := by decide +kernel
theorem dX10_orphan_36 : decode cX10_orphan 36 = .ok (.iconst 1, 1) := by decide +kernel
theorem dX10_orphan_37 : decode cX10_orphan 37 = .ok (.istore_n 2, 1) := by decide +kernel
theorem dX10_orphan_38 : decode cX10_orphan 38 = .ok (.aload_n 0, 1) := by decide +kernel
theorem dX10_orphan_39 : decode cX10_orphan 39 = .ok (.getfield 132, 3) := by decide +kernel
theorem dX10_orphan_42 : decode cX10_orphan 42 = .ok (.iconst 0, 1) := by decide +kernel
theorem dX10_orphan_43 : decode cX10_orphan 43 = .ok (.aload_n 0, 1) := by decide +kernel
theorem dX10_orphan_44 : decode cX10_orphan 44 = .ok (.invokevirtual 480, 3) := by decide +kernel
theorem dX10_orphan_47 : decode cX10_orphan 47 = .ok (.iastore, 1) := by decide +kernel
theorem dX10_orphan_48 : decode cX10_orphan 48 = .ok (.aload_n 0, 1) := by decide +kernel
theorem dX10_orphan_49 : decode cX10_orphan 49 = .ok (.getfield 138, 3) := by decide +kernel
theorem dX10_orphan_52 : decode cX10_orphan 52 = .ok (.aload_n 0, 1) := by decide +kernel
theorem dX10_orphan_53 : decode cX10_orphan 53 = .ok (.getfield 132, 3) := by decide +kernel
theorem dX10_orphan_56 : decode cX10_orphan 56 = .ok (.iconst 0, 1) := by decide +kernel
theorem dX10_orphan_57 : decode cX10_orphan 57 = .ok (.iaload, 1) := by decide +kernel
theorem dX10_orphan_58 : decode cX10_orphan 58 = .ok (.bipush 9, 2) := by decide +kernel
theorem dX10_orphan_60 : decode cX10_orphan 60 = .ok (.bastore, 1) := by decide +kernel
theorem dX10_orphan_61 : decode cX10_orphan 61 = .ok (.iconst 0, 1) := by decide +kernel
theorem dX10_orphan_62 : decode cX10_orphan 62 = .ok (.istore_n 3, 1) := by decide +kernel
theorem dX10_orphan_63 : decode cX10_orphan 63 = .ok (.iload_n 3, 1) := by decide +kernel
theorem dX10_orphan_64 : decode cX10_orphan 64 = .ok (.iload_n 2, 1) := by decide +kernel
theorem dX10_orphan_65 : decode cX10_orphan 65 = .ok (.if_icmp .ge 112, 3) := by decide +kernel
theorem dX10_orphan_68 : decode cX10_orphan 68 = .ok (.aload_n 0, 1) := by decide +kernel
theorem dX10_orphan_69 : decode cX10_orphan 69 = .ok (.getfield 138, 3) := by decide +kernel
theorem dX10_orphan_72 : decode cX10_orphan 72 = .ok (.iconst 0, 1) := by decide +kernel
theorem dX10_orphan_73 : decode cX10_orphan 73 = .ok (.baload, 1) := by decide +kernel
theorem dX10_orphan_74 : decode cX10_orphan 74 = .ok (.ifCond .ge 103, 3) := by decide +kernel
theorem dX10_orphan_77 : decode cX10_orphan 77 = .ok (.iconst 0, 1) := by decide +kernel
theorem dX10_orphan_78 : decode cX10_orphan 78 = .ok (.istore 4, 2) := by decide +kernel
theorem dX10_orphan_80 : decode cX10_orphan 80 = .ok (.iload 4, 2) := by decide +kernel
theorem dX10_orphan_82 : decode cX10_orphan 82 = .ok (.aload_n 0, 1) := by decide +kernel
theorem dX10_orphan_83 : decode cX10_orphan 83 = .ok (.getfield 20, 3) := by decide +kernel
theorem dX10_orphan_86 : decode cX10_orphan 86 = .ok (.aload_n 0, 1) := by decide +kernel
theorem dX10_orphan_87 : decode cX10_orphan 87 = .ok (.getfield 282, 3) := by decide +kernel
theorem dX10_orphan_90 : decode cX10_orphan 90 = .ok (.iaload, 1) := by decide +kernel
theorem dX10_orphan_91 : decode cX10_orphan 91 = .ok (.if_icmp .ge 80, 3) := by decide +kernel
theorem dX10_orphan_94 : decode cX10_orphan 94 = .ok (.aload_n 0, 1) := by decide +kernel
theorem dX10_orphan_95 : decode cX10_orphan 95 = .ok (.getfield 138, 3) := by decide +kernel
theorem dX10_orphan_98 : decode cX10_orphan 98 = .ok (.iconst 0, 1) := by decide +kernel
theorem dX10_orphan_99 : decode cX10_orphan 99 = .ok (.baload, 1) := by decide +kernel
theorem dX10_orphan_100 : decode cX10_orphan 100 = .ok (.ifCond .ge 71, 3) := by decide +kernel
theorem dX10_orphan_103 : decode cX10_orphan 103 = .ok (.aload_n 0, 1) := by decide +kernel
theorem dX10_orphan_104 : decode cX10_orphan 104 = .ok (.iload_n 1, 1) := by decide +kernel
theorem dX10_orphan_105 : decode cX10_orphan 105 = .ok (.aload_n 0, 1) := by decide +kernel
theorem dX10_orphan_106 : decode cX10_orphan 106 = .ok (.getfield 132, 3) := by decide +kernel
theorem dX10_orphan_109 : decode cX10_orphan 109 = .ok (.iload_n 3, 1) := by decide +kernel
theorem dX10_orphan_110 : decode cX10_orphan 110 = .ok (.iaload, 1) := by decide +kernel
theorem dX10_orphan_111 : decode cX10_orphan 111 = .ok (.iload 4, 2) := by decide +kernel
theorem dX10_orphan_113 : decode cX10_orphan 113 = .ok (.invokevirtual 483, 3) := by decide +kernel
theorem dX10_orphan_116 : decode cX10_orphan 116 = .ok (.istore 5, 2) := by decide +kernel
theorem dX10_orphan_118 : decode cX10_orphan 118 = .ok (.aload_n 0, 1) := by decide +kernel
theorem dX10_orphan_119 : decode cX10_orphan 119 = .ok (.getfield 138, 3) := by decide +kernel
theorem dX10_orphan_122 : decode cX10_orphan 122 = .ok (.iload 5, 2) := by decide +kernel
theorem dX10_orphan_124 : decode cX10_orphan 124 = .ok (.baload, 1) := by decide +kernel
theorem dX10_orphan_125 : decode cX10_orphan 125 = .ok (.ifCond .lt 6, 3) := by decide +kernel
theorem dX10_orphan_128 : decode cX10_orphan 128 = .ok (.goto 37, 3) := by decide +kernel
theorem dX10_orphan_131 : decode cX10_orphan 131 = .ok (.aload_n 0, 1) := by decide +kernel
theorem dX10_orphan_132 : decode cX10_orphan 132 = .ok (.getfield 138, 3) := by decide +kernel
theorem dX10_orphan_135 : decode cX10_orphan 135 = .ok (.iload 5, 2) := by decide +kernel
theorem dX10_orphan_137 : decode cX10_orphan 137 = .ok (.iload 4, 2) := by decide +kernel
theorem dX10_orphan_139 : decode cX10_orphan 139 = .ok (.i2b, 1) := by decide +kernel
theorem dX10_orphan_140 : decode cX10_orphan 140 = .ok (.bastore, 1) := by decide +kernel
theorem dX10_orphan_141 : decode cX10_orphan 141 = .ok (.aload_n 0, 1) := by decide +kernel
theorem dX10_orphan_142 : decode cX10_orphan 142 = .ok (.getfield 135, 3) := by decide +kernel
theorem dX10_orphan_145 : decode cX10_orphan 145 = .ok (.iload 5, 2) := by decide +kernel
theorem dX10_orphan_147 : decode cX10_orphan 147 = .ok (.aload_n 0, 1) := by decide +kernel
theorem dX10_orphan_148 : decode cX10_orphan 148 = .ok (.getfield 132, 3) := by decide +kernel
theorem dX10_orphan_151 : decode cX10_orphan 151 = .ok (.iload_n 3, 1) := by decide +kernel
theorem dX10_orphan_152 : decode cX10_orphan 152 = .ok (.iaload, 1) := by decide +kernel
theorem dX10_orphan_153 : decode cX10_orphan 153 = .ok (.iastore, 1) := by decide +kernel
theorem dX10_orphan_154 : decode cX10_orphan 154 = .ok (.aload_n 0, 1) := by decide +kernel
theorem dX10_orphan_155 : decode cX10_orphan 155 = .ok (.getfield 132, 3) := by decide +kernel
theorem dX10_orphan_158 : decode cX10_orphan 158 = .ok (.iload_n 2, 1) := by decide +kernel
theorem dX10_orphan_159 : decode cX10_orphan 159 = .ok (.iload 5, 2) := by decide +kernel
theorem dX10_orphan_161 : decode cX10_orphan 161 = .ok (.iastore, 1) := by decide +kernel
theorem dX10_orphan_162 : decode cX10_orphan 162 = .ok (.iinc 2 1, 3) := by decide +kernel
theorem dX10_orphan_165 : decode cX10_orphan 165 = .ok (.iinc 4 1, 3) := by decide +kernel
theorem dX10_orphan_168 : decode cX10_orphan 168 = .ok (.goto (-88), 3) := by decide +kernel
theorem dX10_orphan_171 : decode cX10_orphan 171 = .ok (.iinc 3 1, 3) := by decide +kernel
theorem dX10_orphan_174 : decode cX10_orphan 174 = .ok (.goto (-111), 3) := by decide +kernel
theorem dX10_orphan_177 : decode cX10_orphan 177 = .ok (.aload_n 0, 1) := by decide +kernel
theorem dX10_orphan_178 : decode cX10_orphan 178 = .ok (.getfield 138, 3) := by decide +kernel
theorem dX10_orphan_181 : decode cX10_orphan 181 = .ok (.iconst 0, 1) := by decide +kernel
theorem dX10_orphan_182 : decode cX10_orphan 182 = .ok (.baload, 1) := by decide +kernel
theorem dX10_orphan_183 : decode cX10_orphan 183 = .ok (.ifCond .ge 5, 3) := by decide +kernel
theorem dX10_orphan_186 : decode cX10_orphan 186 = .ok (.iconst 0, 1) := by decide +kernel
theorem dX10_orphan_187 : decode cX10_orphan 187 = .ok (.ireturn, 1) := by decide +kernel
theorem dX10_orphan_188 : decode cX10_orphan 188 = .ok (.aload_n 0, 1) := by decide +kernel
theorem dX10_orphan_189 : decode cX10_orphan 189 = .ok (.invokevirtual 486, 3) := by decide +kernel
theorem dX10_orphan_192 : decode cX10_orphan 192 = .ok (.ireturn, 1) := by decide +kernel
theorem dX10_one_0 : decode cX10_one 0 = .ok (.aload_n 0, 1) := by decide +kernel
theorem dX10_one_1 : decode cX10_one 1 = .ok (.iload_n 1, 1) := by decide +kernel
theorem dX10_one_2 : decode cX10_one 2 = .ok (.invokevirtual 427, 3) := by decide +kernel
theorem dX10_one_5 : decode cX10_one 5 = .ok (.ifCond .ne 5, 3) := by decide +kernel
theorem dX10_one_8 : decode cX10_one 8 = .ok (.iconst (-1), 1) := by decide +kernel
theorem dX10_one_9 : decode cX10_one 9 = .ok (.ireturn, 1) := by decide +kernel
theorem dX10_one_10 : decode cX10_one 10 = .ok (.iconst 0, 1) := by decide +kernel
theorem dX10_one_11 : decode cX10_one 11 = .ok (.istore_n 2, 1) := by decide +kernel
theorem dX10_one_12 : decode cX10_one 12 = .ok (.iload_n 2, 1) := by decide +kernel
theorem dX10_one_13 : decode cX10_one 13 = .ok (.sipush 256, 3) := by decide +kernel
theorem dX10_one_16 : decode cX10_one 16 = .ok (.if_icmp .ge 20, 3) := by decide +kernel
theorem dX10_one_19 : decode cX10_one 19 = .ok (.aload_n 0, 1) := by decide +kernel
theorem dX10_one_20 : decode cX10_one 20 = .ok (.getfield 141, 3) := by decide +kernel
theorem dX10_one_23 : decode cX10_one 23 = .ok (.iload_n 2, 1) := by decide +kernel
theorem dX10_one_24 : decode cX10_one 24 = .ok (.aload_n 0, 1) := by decide +kernel
theorem dX10_one_25 : decode cX10_one 25 = .ok (.iload_n 2, 1) := by decide +kernel
theorem dX10_one_26 : decode cX10_one 26 = .ok (.invokevirtual 492, 3) := by decide +kernel
theorem dX10_one_29 : decode cX10_one 29 = .ok (.bastore, 1) := by decide +kernel
theorem dX10_one_30 : decode cX10_one 30 = .ok (.iinc 2 1, 3) := by decide +kernel
theorem dX10_one_33 : decode cX10_one 33 = .ok (.goto (-21), 3) := by decide +kernel
theorem dX10_one_36 : decode cX10_one 36 = .ok (.iconst 1, 1) := by decide +kernel
theorem dX10_one_37 : decode cX10_one 37 = .ok (.istore_n 2, 1) := by decide +kernel
theorem dX10_one_38 : decode cX10_one 38 = .ok (.iload_n 2, 1) := by decide +kernel
theorem dX10_one_39 : decode cX10_one 39 = .ok (.ifCond .eq 64, 3) := by decide +kernel
theorem dX10_one_42 : decode cX10_one 42 = .ok (.iconst 0, 1) := by decide +kernel
theorem dX10_one_43 : decode cX10_one 43 = .ok (.istore_n 2, 1) := by decide +kernel
theorem dX10_one_44 : decode cX10_one 44 = .ok (.iconst 0, 1) := by decide +kernel
theorem dX10_one_45 : decode cX10_one 45 = .ok (.istore_n 3, 1) := by decide +kernel
theorem dX10_one_46 : decode cX10_one 46 = .ok (.iload_n 3, 1) := by decide +kernel
theorem dX10_one_47 : decode cX10_one 47 = .ok (.sipush 256, 3) := by decide +kernel
theorem dX10_one_50 : decode cX10_one 50 = .ok (.if_icmp .ge 50, 3) := by decide +kernel
theorem dX10_one_53 : decode cX10_one 53 = .ok (.aload_n 0, 1) := by decide +kernel
theorem dX10_one_54 : decode cX10_one 54 = .ok (.getfield 141, 3) := by decide +kernel
theorem dX10_one_57 : decode cX10_one 57 = .ok (.iload_n 3, 1) := by decide +kernel
theorem dX10_one_58 : decode cX10_one 58 = .ok (.baload, 1) := by decide +kernel
theorem dX10_one_59 : decode cX10_one 59 = .ok (.ifCond .eq 35, 3) := by decide +kernel
theorem dX10_one_62 : decode cX10_one 62 = .ok (.aload_n 0, 1) := by decide +kernel
theorem dX10_one_63 : decode cX10_one 63 = .ok (.iload_n 1, 1) := by decide +kernel
theorem dX10_one_64 : decode cX10_one 64 = .ok (.iload_n 3, 1) := by decide +kernel
theorem dX10_one_65 : decode cX10_one 65 = .ok (.iconst 1, 1) := by decide +kernel
theorem dX10_one_66 : decode cX10_one 66 = .ok (.invokevirtual 495, 3) := by decide +kernel
theorem dX10_one_69 : decode cX10_one 69 = .ok (.ifCond .eq 16, 3) := by decide +kernel
theorem dX10_one_72 : decode cX10_one 72 = .ok (.aload_n 0, 1) := by decide +kernel
theorem dX10_one_73 : decode cX10_one 73 = .ok (.iload_n 1, 1) := by decide +kernel
theorem dX10_one_74 : decode cX10_one 74 = .ok (.iload_n 3, 1) := by decide +kernel
theorem dX10_one_75 : decode cX10_one 75 = .ok (.iconst 0, 1) := by decide +kernel
theorem dX10_one_76 : decode cX10_one 76 = .ok (.invokevirtual 495, 3) := by decide +kernel
theorem dX10_one_79 : decode cX10_one 79 = .ok (.ifCond .eq 6, 3) := by decide +kernel
theorem dX10_one_82 : decode cX10_one 82 = .ok (.goto 12, 3) := by decide +kernel
theorem dX10_one_85 : decode cX10_one 85 = .ok (.aload_n 0, 1) := by decide +kernel
theorem dX10_one_86 : decode cX10_one 86 = .ok (.getfield 141, 3) := by decide +kernel
theorem dX10_one_89 : decode cX10_one 89 = .ok (.iload_n 3, 1) := by decide +kernel
theorem dX10_one_90 : decode cX10_one 90 = .ok (.iconst 0, 1) := by decide +kernel
theorem dX10_one_91 : decode cX10_one 91 = .ok (.bastore, 1) := by decide +kernel
theorem dX10_one_92 : decode cX10_one 92 = .ok (.iconst 1, 1) := by decide +kernel
theorem dX10_one_93 : decode cX10_one 93 = .ok (.istore_n 2, 1) := by decide +kernel
theorem dX10_one_94 : decode cX10_one 94 = .ok (.iinc 3 1, 3) := by decide +kernel
theorem dX10_one_97 : decode cX10_one 97 = .ok (.goto (-51), 3) := by decide +kernel
theorem dX10_one_100 : decode cX10_one 100 = .ok (.goto (-62), 3) := by decide +kernel
theorem dX10_one_103 : decode cX10_one 103 = .ok (.iconst 0, 1) := by decide +kernel
theorem dX10_one_104 : decode cX10_one 104 = .ok (.istore_n 3, 1) := by decide +kernel
theorem dX10_one_105 : decode cX10_one 105 = .ok (.iload_n 3, 1) := by decide +kernel
theorem dX10_one_106 : decode cX10_one 106 = .ok (.sipush 256, 3) := by decide +kernel
theorem dX10_one_109 : decode cX10_one 109 = .ok (.if_icmp .ge 31, 3) := by decide +kernel
theorem dX10_one_112 : decode cX10_one 112 = .ok (.aload_n 0, 1) := by decide +kernel
theorem dX10_one_113 : decode cX10_one 113 = .ok (.getfield 141, 3) := by decide +kernel
theorem dX10_one_116 : decode cX10_one 116 = .ok (.iload_n 3, 1) := by decide +kernel
theorem dX10_one_117 : decode cX10_one 117 = .ok (.baload, 1) := by decide +kernel
theorem dX10_one_118 : decode cX10_one 118 = .ok (.ifCond .eq 16, 3) := by decide +kernel
theorem dX10_one_121 : decode cX10_one 121 = .ok (.iload_n 3, 1) := by decide +kernel
theorem dX10_one_122 : decode cX10_one 122 = .ok (.bipush 16, 2) := by decide +kernel
theorem dX10_one_124 : decode cX10_one 124 = .ok (.idiv, 1) := by decide +kernel
theorem dX10_one_125 : decode cX10_one 125 = .ok (.iload_n 3, 1) := by decide +kernel
theorem dX10_one_126 : decode cX10_one 126 = .ok (.bipush 16, 2) := by decide +kernel
theorem dX10_one_128 : decode cX10_one 128 = .ok (.irem, 1) := by decide +kernel
theorem dX10_one_129 : decode cX10_one 129 = .ok (.if_icmp .eq 5, 3) := by decide +kernel
theorem dX10_one_132 : decode cX10_one 132 = .ok (.iconst 0, 1) := by decide +kernel
theorem dX10_one_133 : decode cX10_one 133 = .ok (.ireturn, 1) := by decide +kernel
theorem dX10_one_134 : decode cX10_one 134 = .ok (.iinc 3 1, 3) := by decide +kernel
theorem dX10_one_137 : decode cX10_one 137 = .ok (.goto (-32), 3) := by decide +kernel
theorem dX10_one_140 : decode cX10_one 140 = .ok (.iconst 1, 1) := by decide +kernel
theorem dX10_one_141 : decode cX10_one 141 = .ok (.ireturn, 1) := by decide +kernel
theorem dX10_keeps_0 : decode cX10_keeps 0 = .ok (.aload_n 0, 1) := by decide +kernel
theorem dX10_keeps_1 : decode cX10_keeps 1 = .ok (.iload_n 1, 1) := by decide +kernel
theorem dX10_keeps_2 : decode cX10_keeps 2 = .ok (.invokevirtual 427, 3) := by decide +kernel
theorem dX10_keeps_5 : decode cX10_keeps 5 = .ok (.ifCond .ne 5, 3) := by decide +kernel
theorem dX10_keeps_8 : decode cX10_keeps 8 = .ok (.iconst (-1), 1) := by decide +kernel
theorem dX10_keeps_9 : decode cX10_keeps 9 = .ok (.ireturn, 1) := by decide +kernel
theorem dX10_keeps_10 : decode cX10_keeps 10 = .ok (.iconst 1, 1) := by decide +kernel
theorem dX10_keeps_11 : decode cX10_keeps 11 = .ok (.istore_n 2, 1) := by decide +kernel
theorem dX10_keeps_12 : decode cX10_keeps 12 = .ok (.iload_n 2, 1) := by decide +kernel
theorem dX10_keeps_13 : decode cX10_keeps 13 = .ok (.bipush 6, 2) := by decide +kernel
theorem dX10_keeps_15 : decode cX10_keeps 15 = .ok (.if_icmp .gt 66, 3) := by decide +kernel
theorem dX10_keeps_18 : decode cX10_keeps 18 = .ok (.iconst 1, 1) := by decide +kernel
theorem dX10_keeps_19 : decode cX10_keeps 19 = .ok (.istore_n 3, 1) := by decide +kernel
theorem dX10_keeps_20 : decode cX10_keeps 20 = .ok (.iconst 0, 1) := by decide +kernel
theorem dX10_keeps_21 : decode cX10_keeps 21 = .ok (.istore 4, 2) := by decide +kernel
theorem dX10_keeps_23 : decode cX10_keeps 23 = .ok (.iload 4, 2) := by decide +kernel
theorem dX10_keeps_25 : decode cX10_keeps 25 = .ok (.iload_n 2, 1) := by decide +kernel
theorem dX10_keeps_26 : decode cX10_keeps 26 = .ok (.if_icmp .ge 21, 3) := by decide +kernel
theorem dX10_keeps_29 : decode cX10_keeps 29 = .ok (.iload_n 3, 1) := by decide +kernel
theorem dX10_keeps_30 : decode cX10_keeps 30 = .ok (.aload_n 0, 1) := by decide +kernel
theorem dX10_keeps_31 : decode cX10_keeps 31 = .ok (.getfield 20, 3) := by decide +kernel
theorem dX10_keeps_34 : decode cX10_keeps 34 = .ok (.aload_n 0, 1) := by decide +kernel
theorem dX10_keeps_35 : decode cX10_keeps 35 = .ok (.getfield 282, 3) := by decide +kernel
theorem dX10_keeps_38 : decode cX10_keeps 38 = .ok (.iaload, 1) := by decide +kernel
theorem dX10_keeps_39 : decode cX10_keeps 39 = .ok (.imul, 1) := by decide +kernel
theorem dX10_keeps_40 : decode cX10_keeps 40 = .ok (.istore_n 3, 1) := by decide +kernel
theorem dX10_keeps_41 : decode cX10_keeps 41 = .ok (.iinc 4 1, 3) := by decide +kernel
theorem dX10_keeps_44 : decode cX10_keeps 44 = .ok (.goto (-21), 3) := by decide +kernel
theorem dX10_keeps_47 : decode cX10_keeps 47 = .ok (.iconst 0, 1) := by decide +kernel
theorem dX10_keeps_48 : decode cX10_keeps 48 = .ok (.istore 4, 2) := by decide +kernel
theorem dX10_keeps_50 : decode cX10_keeps 50 = .ok (.iload 4, 2) := by decide +kernel
theorem dX10_keeps_52 : decode cX10_keeps 52 = .ok (.iload_n 3, 1) := by decide +kernel
theorem dX10_keeps_53 : decode cX10_keeps 53 = .ok (.if_icmp .ge 22, 3) := by decide +kernel
theorem dX10_keeps_56 : decode cX10_keeps 56 = .ok (.aload_n 0, 1) := by decide +kernel
theorem dX10_keeps_57 : decode cX10_keeps 57 = .ok (.iload_n 1, 1) := by decide +kernel
theorem dX10_keeps_58 : decode cX10_keeps 58 = .ok (.iload_n 2, 1) := by decide +kernel
theorem dX10_keeps_59 : decode cX10_keeps 59 = .ok (.iload 4, 2) := by decide +kernel
theorem dX10_keeps_61 : decode cX10_keeps 61 = .ok (.invokevirtual 499, 3) := by decide +kernel
theorem dX10_keeps_64 : decode cX10_keeps 64 = .ok (.ifCond .ne 5, 3) := by decide +kernel
theorem dX10_keeps_67 : decode cX10_keeps 67 = .ok (.iconst 0, 1) := by decide +kernel
theorem dX10_keeps_68 : decode cX10_keeps 68 = .ok (.ireturn, 1) := by decide +kernel
theorem dX10_keeps_69 : decode cX10_keeps 69 = .ok (.iinc 4 1, 3) := by decide +kernel
theorem dX10_keeps_72 : decode cX10_keeps 72 = .ok (.goto (-22), 3) := by decide +kernel
theorem dX10_keeps_75 : decode cX10_keeps 75 = .ok (.iinc 2 1, 3) := by decide +kernel
theorem dX10_keeps_78 : decode cX10_keeps 78 = .ok (.goto (-66), 3) := by decide +kernel
theorem dX10_keeps_81 : decode cX10_keeps 81 = .ok (.iconst 1, 1) := by decide +kernel
theorem dX10_keeps_82 : decode cX10_keeps 82 = .ok (.ireturn, 1) := by decide +kernel
theorem dX10_lies_0 : decode cX10_lies 0 = .ok (.iload_n 1, 1) := by decide +kernel
theorem dX10_lies_1 : decode cX10_lies 1 = .ok (.iconst 0, 1) := by decide +kernel
theorem dX10_lies_2 : decode cX10_lies 2 = .ok (.aload_n 0, 1) := by decide +kernel
theorem dX10_lies_3 : decode cX10_lies 3 = .ok (.getfield 297, 3) := by decide +kernel
theorem dX10_lies_6 : decode cX10_lies 6 = .ok (.iconst 1, 1) := by decide +kernel
theorem dX10_lies_7 : decode cX10_lies 7 = .ok (.isub, 1) := by decide +kernel
theorem dX10_lies_8 : decode cX10_lies 8 = .ok (.invokestatic 378, 3) := by decide +kernel
theorem dX10_lies_11 : decode cX10_lies 11 = .ok (.ifCond .ne 7, 3) := by decide +kernel
theorem dX10_lies_14 : decode cX10_lies 14 = .ok (.iconst (-1), 1) := by decide +kernel
theorem dX10_lies_15 : decode cX10_lies 15 = .ok (.goto 24, 3) := by decide +kernel
theorem dX10_lies_18 : decode cX10_lies 18 = .ok (.aload_n 0, 1) := by decide +kernel
theorem dX10_lies_19 : decode cX10_lies 19 = .ok (.getfield 476, 3) := by decide +kernel
theorem dX10_lies_22 : decode cX10_lies 22 = .ok (.ifCond .eq 11, 3) := by decide +kernel
theorem dX10_lies_25 : decode cX10_lies 25 = .ok (.aload_n 0, 1) := by decide +kernel
theorem dX10_lies_26 : decode cX10_lies 26 = .ok (.iload_n 1, 1) := by decide +kernel
theorem dX10_lies_27 : decode cX10_lies 27 = .ok (.invokevirtual 521, 3) := by decide +kernel
theorem dX10_lies_30 : decode cX10_lies 30 = .ok (.goto 9, 3) := by decide +kernel
theorem dX10_lies_33 : decode cX10_lies 33 = .ok (.aload_n 0, 1) := by decide +kernel
theorem dX10_lies_34 : decode cX10_lies 34 = .ok (.getfield 128, 3) := by decide +kernel
theorem dX10_lies_37 : decode cX10_lies 37 = .ok (.iload_n 1, 1) := by decide +kernel
theorem dX10_lies_38 : decode cX10_lies 38 = .ok (.iaload, 1) := by decide +kernel
theorem dX10_lies_39 : decode cX10_lies 39 = .ok (.ireturn, 1) := by decide +kernel
theorem dX10_untell_0 : decode cX10_untell 0 = .ok (.iload_n 1, 1) := by decide +kernel
theorem dX10_untell_1 : decode cX10_untell 1 = .ok (.iconst 0, 1) := by decide +kernel
theorem dX10_untell_2 : decode cX10_untell 2 = .ok (.aload_n 0, 1) := by decide +kernel
theorem dX10_untell_3 : decode cX10_untell 3 = .ok (.getfield 291, 3) := by decide +kernel
theorem dX10_untell_6 : decode cX10_untell 6 = .ok (.iconst 1, 1) := by decide +kernel
theorem dX10_untell_7 : decode cX10_untell 7 = .ok (.isub, 1) := by decide +kernel
theorem dX10_untell_8 : decode cX10_untell 8 = .ok (.invokestatic 378, 3) := by decide +kernel
theorem dX10_untell_11 : decode cX10_untell 11 = .ok (.ifCond .eq 12, 3) := by decide +kernel
theorem dX10_untell_14 : decode cX10_untell 14 = .ok (.aload_n 0, 1) := by decide +kernel
theorem dX10_untell_15 : decode cX10_untell 15 = .ok (.getfield 165, 3) := by decide +kernel
theorem dX10_untell_18 : decode cX10_untell 18 = .ok (.iload_n 1, 1) := by decide +kernel
theorem dX10_untell_19 : decode cX10_untell 19 = .ok (.iaload, 1) := by decide +kernel
theorem dX10_untell_20 : decode cX10_untell 20 = .ok (.ifCond .lt 5, 3) := by decide +kernel
theorem dX10_untell_23 : decode cX10_untell 23 = .ok (.iconst 0, 1) := by decide +kernel
theorem dX10_untell_24 : decode cX10_untell 24 = .ok (.ireturn, 1) := by decide +kernel
theorem dX10_untell_25 : decode cX10_untell 25 = .ok (.aload_n 0, 1) := by decide +kernel
theorem dX10_untell_26 : decode cX10_untell 26 = .ok (.getfield 165, 3) := by decide +kernel
theorem dX10_untell_29 : decode cX10_untell 29 = .ok (.iload_n 1, 1) := by decide +kernel
theorem dX10_untell_30 : decode cX10_untell 30 = .ok (.aload_n 0, 1) := by decide +kernel
theorem dX10_untell_31 : decode cX10_untell 31 = .ok (.getfield 524, 3) := by decide +kernel
theorem dX10_untell_34 : decode cX10_untell 34 = .ok (.iastore, 1) := by decide +kernel
theorem dX10_untell_35 : decode cX10_untell 35 = .ok (.iconst 1, 1) := by decide +kernel
theorem dX10_untell_36 : decode cX10_untell 36 = .ok (.ireturn, 1) := by decide +kernel
theorem dX10_sight_0 : decode cX10_sight 0 = .ok (.iload_n 1, 1) := by decide +kernel
theorem dX10_sight_1 : decode cX10_sight 1 = .ok (.iconst 0, 1) := by decide +kernel
theorem dX10_sight_2 : decode cX10_sight 2 = .ok (.bipush 30, 2) := by decide +kernel
theorem dX10_sight_4 : decode cX10_sight 4 = .ok (.invokestatic 378, 3) := by decide +kernel
theorem dX10_sight_7 : decode cX10_sight 7 = .ok (.ifCond .eq 28, 3) := by decide +kernel
theorem dX10_sight_10 : decode cX10_sight 10 = .ok (.aload_n 0, 1) := by decide +kernel
theorem dX10_sight_11 : decode cX10_sight 11 = .ok (.iload_n 2, 1) := by decide +kernel
theorem dX10_sight_12 : decode cX10_sight 12 = .ok (.invokevirtual 424, 3) := by decide +kernel
theorem dX10_sight_15 : decode cX10_sight 15 = .ok (.ifCond .eq 20, 3) := by decide +kernel
theorem dX10_sight_18 : decode cX10_sight 18 = .ok (.aload_n 0, 1) := by decide +kernel
theorem dX10_sight_19 : decode cX10_sight 19 = .ok (.iload_n 3, 1) := by decide +kernel
theorem dX10_sight_20 : decode cX10_sight 20 = .ok (.invokevirtual 430, 3) := by decide +kernel
theorem dX10_sight_23 : decode cX10_sight 23 = .ok (.ifCond .eq 12, 3) := by decide +kernel
theorem dX10_sight_26 : decode cX10_sight 26 = .ok (.aload_n 0, 1) := by decide +kernel
theorem dX10_sight_27 : decode cX10_sight 27 = .ok (.getfield 291, 3) := by decide +kernel
theorem dX10_sight_30 : decode cX10_sight 30 = .ok (.bipush 30, 2) := by decide +kernel
theorem dX10_sight_32 : decode cX10_sight 32 = .ok (.if_icmp .ne 5, 3) := by decide +kernel
theorem dX10_sight_35 : decode cX10_sight 35 = .ok (.iconst (-1), 1) := by decide +kernel
theorem dX10_sight_36 : decode cX10_sight 36 = .ok (.ireturn, 1) := by decide +kernel
theorem dX10_sight_37 : decode cX10_sight 37 = .ok (.aload_n 0, 1) := by decide +kernel
theorem dX10_sight_38 : decode cX10_sight 38 = .ok (.getfield 153, 3) := by decide +kernel
theorem dX10_sight_41 : decode cX10_sight 41 = .ok (.aload_n 0, 1) := by decide +kernel
theorem dX10_sight_42 : decode cX10_sight 42 = .ok (.getfield 291, 3) := by decide +kernel
theorem dX10_sight_45 : decode cX10_sight 45 = .ok (.iload_n 1, 1) := by decide +kernel
theorem dX10_sight_46 : decode cX10_sight 46 = .ok (.iastore, 1) := by decide +kernel
theorem dX10_sight_47 : decode cX10_sight 47 = .ok (.aload_n 0, 1) := by decide +kernel
theorem dX10_sight_48 : decode cX10_sight 48 = .ok (.getfield 156, 3) := by decide +kernel
theorem dX10_sight_51 : decode cX10_sight 51 = .ok (.aload_n 0, 1) := by decide +kernel
theorem dX10_sight_52 : decode cX10_sight 52 = .ok (.getfield 291, 3) := by decide +kernel
theorem dX10_sight_55 : decode cX10_sight 55 = .ok (.iload_n 2, 1) := by decide +kernel
theorem dX10_sight_56 : decode cX10_sight 56 = .ok (.iastore, 1) := by decide +kernel
theorem dX10_sight_57 : decode cX10_sight 57 = .ok (.aload_n 0, 1) := by decide +kernel
theorem dX10_sight_58 : decode cX10_sight 58 = .ok (.getfield 159, 3) := by decide +kernel
theorem dX10_sight_61 : decode cX10_sight 61 = .ok (.aload_n 0, 1) := by decide +kernel
theorem dX10_sight_62 : decode cX10_sight 62 = .ok (.getfield 291, 3) := by decide +kernel
theorem dX10_sight_65 : decode cX10_sight 65 = .ok (.iload_n 3, 1) := by decide +kernel
theorem dX10_sight_66 : decode cX10_sight 66 = .ok (.iastore, 1) := by decide +kernel
theorem dX10_sight_67 : decode cX10_sight 67 = .ok (.aload_n 0, 1) := by decide +kernel
theorem dX10_sight_68 : decode cX10_sight 68 = .ok (.getfield 162, 3) := by decide +kernel
theorem dX10_sight_71 : decode cX10_sight 71 = .ok (.aload_n 0, 1) := by decide +kernel
theorem dX10_sight_72 : decode cX10_sight 72 = .ok (.getfield 291, 3) := by decide +kernel
theorem dX10_sight_75 : decode cX10_sight 75 = .ok (.aload_n 0, 1) := by decide +kernel
theorem dX10_sight_76 : decode cX10_sight 76 = .ok (.getfield 524, 3) := by decide +kernel
theorem dX10_sight_79 : decode cX10_sight 79 = .ok (.iastore, 1) := by decide +kernel
theorem dX10_sight_80 : decode cX10_sight 80 = .ok (.aload_n 0, 1) := by decide +kernel
theorem dX10_sight_81 : decode cX10_sight 81 = .ok (.getfield 165, 3) := by decide +kernel
theorem dX10_sight_84 : decode cX10_sight 84 = .ok (.aload_n 0, 1) := by decide +kernel
theorem dX10_sight_85 : decode cX10_sight 85 = .ok (.getfield 291, 3) := by decide +kernel
theorem dX10_sight_88 : decode cX10_sight 88 = .ok (.iconst (-1), 1) := by decide +kernel
theorem dX10_sight_89 : decode cX10_sight 89 = .ok (.iastore, 1) := by decide +kernel
theorem dX10_sight_90 : decode cX10_sight 90 = .ok (.aload_n 0, 1) := by decide +kernel
theorem dX10_sight_91 : decode cX10_sight 91 = .ok (.dup, 1) := by decide +kernel
theorem dX10_sight_92 : decode cX10_sight 92 = .ok (.getfield 291, 3) := by decide +kernel
theorem dX10_sight_95 : decode cX10_sight 95 = .ok (.iconst 1, 1) := by decide +kernel
theorem dX10_sight_96 : decode cX10_sight 96 = .ok (.iadd, 1) := by decide +kernel
theorem dX10_sight_97 : decode cX10_sight 97 = .ok (.putfield 291, 3) := by decide +kernel
theorem dX10_sight_100 : decode cX10_sight 100 = .ok (.aload_n 0, 1) := by decide +kernel
theorem dX10_sight_101 : decode cX10_sight 101 = .ok (.getfield 291, 3) := by decide +kernel
theorem dX10_sight_104 : decode cX10_sight 104 = .ok (.iconst 1, 1) := by decide +kernel
theorem dX10_sight_105 : decode cX10_sight 105 = .ok (.isub, 1) := by decide +kernel
theorem dX10_sight_106 : decode cX10_sight 106 = .ok (.ireturn, 1) := by decide +kernel
theorem dX10_sure_0 : decode cX10_sure 0 = .ok (.aload_n 0, 1) := by decide +kernel
theorem dX10_sure_1 : decode cX10_sure 1 = .ok (.iload_n 1, 1) := by decide +kernel
theorem dX10_sure_2 : decode cX10_sure 2 = .ok (.invokevirtual 424, 3) := by decide +kernel
theorem dX10_sure_5 : decode cX10_sure 5 = .ok (.ifCond .eq 22, 3) := by decide +kernel
theorem dX10_sure_8 : decode cX10_sure 8 = .ok (.aload_n 0, 1) := by decide +kernel
theorem dX10_sure_9 : decode cX10_sure 9 = .ok (.getfield 294, 3) := by decide +kernel
theorem dX10_sure_12 : decode cX10_sure 12 = .ok (.iload_n 1, 1) := by decide +kernel
theorem dX10_sure_13 : decode cX10_sure 13 = .ok (.ishr, 1) := by decide +kernel
theorem dX10_sure_14 : decode cX10_sure 14 = .ok (.iconst 1, 1) := by decide +kernel
theorem dX10_sure_15 : decode cX10_sure 15 = .ok (.iand, 1) := by decide +kernel
theorem dX10_sure_16 : decode cX10_sure 16 = .ok (.ifCond .eq 11, 3) := by decide +kernel
theorem dX10_sure_19 : decode cX10_sure 19 = .ok (.aload_n 0, 1) := by decide +kernel
theorem dX10_sure_20 : decode cX10_sure 20 = .ok (.iload_n 2, 1) := by decide +kernel
theorem dX10_sure_21 : decode cX10_sure 21 = .ok (.invokevirtual 536, 3) := by decide +kernel
theorem dX10_sure_24 : decode cX10_sure 24 = .ok (.ifCond .ne 5, 3) := by decide +kernel
theorem dX10_sure_27 : decode cX10_sure 27 = .ok (.iconst (-1), 1) := by decide +kernel
theorem dX10_sure_28 : decode cX10_sure 28 = .ok (.ireturn, 1) := by decide +kernel
theorem dX10_sure_29 : decode cX10_sure 29 = .ok (.iconst 0, 1) := by decide +kernel
theorem dX10_sure_30 : decode cX10_sure 30 = .ok (.istore_n 3, 1) := by decide +kernel
theorem dX10_sure_31 : decode cX10_sure 31 = .ok (.iload_n 3, 1) := by decide +kernel
theorem dX10_sure_32 : decode cX10_sure 32 = .ok (.aload_n 0, 1) := by decide +kernel
theorem dX10_sure_33 : decode cX10_sure 33 = .ok (.getfield 20, 3) := by decide +kernel
theorem dX10_sure_36 : decode cX10_sure 36 = .ok (.aload_n 0, 1) := by decide +kernel
theorem dX10_sure_37 : decode cX10_sure 37 = .ok (.getfield 282, 3) := by decide +kernel
theorem dX10_sure_40 : decode cX10_sure 40 = .ok (.iaload, 1) := by decide +kernel
theorem dX10_sure_41 : decode cX10_sure 41 = .ok (.if_icmp .ge 23, 3) := by decide +kernel
theorem dX10_sure_44 : decode cX10_sure 44 = .ok (.aload_n 0, 1) := by decide +kernel
theorem dX10_sure_45 : decode cX10_sure 45 = .ok (.getfield 168, 3) := by decide +kernel
theorem dX10_sure_48 : decode cX10_sure 48 = .ok (.iload_n 1, 1) := by decide +kernel
theorem dX10_sure_49 : decode cX10_sure 49 = .ok (.iaload, 1) := by decide +kernel
theorem dX10_sure_50 : decode cX10_sure 50 = .ok (.iconst 1, 1) := by decide +kernel
theorem dX10_sure_51 : decode cX10_sure 51 = .ok (.iload_n 3, 1) := by decide +kernel
theorem dX10_sure_52 : decode cX10_sure 52 = .ok (.ishl, 1) := by decide +kernel
theorem dX10_sure_53 : decode cX10_sure 53 = .ok (.if_icmp .ne 5, 3) := by decide +kernel
theorem dX10_sure_56 : decode cX10_sure 56 = .ok (.iload_n 3, 1) := by decide +kernel
theorem dX10_sure_57 : decode cX10_sure 57 = .ok (.ireturn, 1) := by decide +kernel
theorem dX10_sure_58 : decode cX10_sure 58 = .ok (.iinc 3 1, 3) := by decide +kernel
theorem dX10_sure_61 : decode cX10_sure 61 = .ok (.goto (-30), 3) := by decide +kernel
theorem dX10_sure_64 : decode cX10_sure 64 = .ok (.bipush (-2), 2) := by decide +kernel
theorem dX10_sure_66 : decode cX10_sure 66 = .ok (.ireturn, 1) := by decide +kernel
theorem dX10_later_0 : decode cX10_later 0 = .ok (.iload_n 1, 1) := by decide +kernel
theorem dX10_later_1 : decode cX10_later 1 = .ok (.iconst 0, 1) := by decide +kernel
theorem dX10_later_2 : decode cX10_later 2 = .ok (.sipush 1000, 3) := by decide +kernel
theorem dX10_later_5 : decode cX10_later 5 = .ok (.invokestatic 378, 3) := by decide +kernel
theorem dX10_later_8 : decode cX10_later 8 = .ok (.ifCond .eq 15, 3) := by decide +kernel
theorem dX10_later_11 : decode cX10_later 11 = .ok (.aload_n 0, 1) := by decide +kernel
theorem dX10_later_12 : decode cX10_later 12 = .ok (.getfield 524, 3) := by decide +kernel
theorem dX10_later_15 : decode cX10_later 15 = .ok (.iload_n 1, 1) := by decide +kernel
theorem dX10_later_16 : decode cX10_later 16 = .ok (.iadd, 1) := by decide +kernel
theorem dX10_later_17 : decode cX10_later 17 = .ok (.ldc_w 433, 3) := by decide +kernel
theorem dX10_later_20 : decode cX10_later 20 = .ok (.if_icmp .le 5, 3) := by decide +kernel
theorem dX10_later_23 : decode cX10_later 23 = .ok (.iconst (-1), 1) := by decide +kernel
theorem dX10_later_24 : decode cX10_later 24 = .ok (.ireturn, 1) := by decide +kernel
theorem dX10_later_25 : decode cX10_later 25 = .ok (.aload_n 0, 1) := by decide +kernel
theorem dX10_later_26 : decode cX10_later 26 = .ok (.dup, 1) := by decide +kernel
theorem dX10_later_27 : decode cX10_later 27 = .ok (.getfield 524, 3) := by decide +kernel
theorem dX10_later_30 : decode cX10_later 30 = .ok (.iload_n 1, 1) := by decide +kernel
theorem dX10_later_31 : decode cX10_later 31 = .ok (.iadd, 1) := by decide +kernel
theorem dX10_later_32 : decode cX10_later 32 = .ok (.putfield 524, 3) := by decide +kernel
theorem dX10_later_35 : decode cX10_later 35 = .ok (.aload_n 0, 1) := by decide +kernel
theorem dX10_later_36 : decode cX10_later 36 = .ok (.getfield 524, 3) := by decide +kernel
theorem dX10_later_39 : decode cX10_later 39 = .ok (.ireturn, 1) := by decide +kernel
theorem dX10_end_0 : decode cX10_end 0 = .ok (.iload_n 1, 1) := by decide +kernel
theorem dX10_end_1 : decode cX10_end 1 = .ok (.ifCond .lt 11, 3) := by decide +kernel
theorem dX10_end_4 : decode cX10_end 4 = .ok (.iload_n 1, 1) := by decide +kernel
theorem dX10_end_5 : decode cX10_end 5 = .ok (.aload_n 0, 1) := by decide +kernel
theorem dX10_end_6 : decode cX10_end 6 = .ok (.getfield 279, 3) := by decide +kernel
theorem dX10_end_9 : decode cX10_end 9 = .ok (.if_icmp .le 5, 3) := by decide +kernel
theorem dX10_end_12 : decode cX10_end 12 = .ok (.iconst (-1), 1) := by decide +kernel
theorem dX10_end_13 : decode cX10_end 13 = .ok (.ireturn, 1) := by decide +kernel
theorem dX10_end_14 : decode cX10_end 14 = .ok (.aload_n 0, 1) := by decide +kernel
theorem dX10_end_15 : decode cX10_end 15 = .ok (.iload_n 1, 1) := by decide +kernel
theorem dX10_end_16 : decode cX10_end 16 = .ok (.putfield 279, 3) := by decide +kernel
theorem dX10_end_19 : decode cX10_end 19 = .ok (.iload_n 1, 1) := by decide +kernel
theorem dX10_end_20 : decode cX10_end 20 = .ok (.ireturn, 1) := by decide +kernel
theorem dX10_fault_0 : decode cX10_fault 0 = .ok (.iload_n 1, 1) := by decide +kernel
theorem dX10_fault_1 : decode cX10_fault 1 = .ok (.ifCond .ne 10, 3) := by decide +kernel
theorem dX10_fault_4 : decode cX10_fault 4 = .ok (.aload_n 0, 1) := by decide +kernel
theorem dX10_fault_5 : decode cX10_fault 5 = .ok (.getfield 186, 3) := by decide +kernel
theorem dX10_fault_8 : decode cX10_fault 8 = .ok (.goto 16, 3) := by decide +kernel
theorem dX10_fault_11 : decode cX10_fault 11 = .ok (.iload_n 1, 1) := by decide +kernel
theorem dX10_fault_12 : decode cX10_fault 12 = .ok (.iconst 1, 1) := by decide +kernel
theorem dX10_fault_13 : decode cX10_fault 13 = .ok (.if_icmp .ne 10, 3) := by decide +kernel
theorem dX10_fault_16 : decode cX10_fault 16 = .ok (.aload_n 0, 1) := by decide +kernel
theorem dX10_fault_17 : decode cX10_fault 17 = .ok (.getfield 16, 3) := by decide +kernel
theorem dX10_fault_20 : decode cX10_fault 20 = .ok (.goto 4, 3) := by decide +kernel
theorem dX10_fault_23 : decode cX10_fault 23 = .ok (.iconst (-1), 1) := by decide +kernel
theorem dX10_fault_24 : decode cX10_fault 24 = .ok (.ireturn, 1) := by decide +kernel
set_option maxHeartbeats 4000000 in
set_option maxRecDepth 100000 in
theorem k_X10_isIn (l : Launch) (D : va_G) (cyB cyI cyJ cyZ : ClassId) (sz : Nat) (v : Int32) (lo : Int32) (hi : Int32) : KI l yX10_isIn cX10_isIn 3 .boolean 0 0 0 D (TYS cyB cyI cyJ cyZ) [] sz [.int v, .int lo, .int hi] (fun (r : Int32) (u : Unit) => ((r = 1 ∧ lo.toInt ≤ v.toInt ∧ v.toInt ≤ hi.toInt) ∨ (r = 0 ∧ (v.toInt < lo.toInt ∨ hi.toInt < v.toInt)))) (fun (u : Unit) => ([] : va_W)) := by
  refine entI (by decide) (Nat.le_of_ble_eq_true rfl) ?_
  intro p e s m below meth c ls A hC hl hP hK hD hA
  obtain ⟨hx, hb, hr, hml, hown, hts, hlk, hnm⟩ := id hC
  have hS : va_S A s.heap s.heap [] := va_S.rf
  have hl : lv_has ls 3 [(0, .int v), (1, .int lo), (2, .int hi)] := hl
  generalize hHe : s.heap = H at hP ⊢
  rw [hHe] at hS
  have hS : va_S A s.heap H [] := by rw [hHe]; exact hS
  refine lv_iload_n hx hb dX10_isIn_0 rfl (lv_at hl 0 rfl) ?_
  refine lv_iload_n hx hb dX10_isIn_1 rfl (lv_at hl 1 rfl) ?_
  refine lv_icmp_lt (tgt := 14) hx hb dX10_isIn_2 (by decide) (fun c_1 => ?_) (fun c_1 => ?_)
  · refine lv_iconst (v := 0) hx hb dX10_isIn_14 (by decide) ?_
    exact retZ hC hP hD hS (by decide) (by decide) () [] rfl rfl (by have z0 := zt_lt c_1; have y0 : ((-1) : Int32).toInt = (-1) := (by decide); have y1 : (0 : Int32).toInt = 0 := (by decide); first | exact Or.inl ⟨rfl, by omega⟩ | exact Or.inr ⟨rfl, by omega⟩) rfl dX10_isIn_15
  · refine lv_iload_n hx hb dX10_isIn_5 rfl (lv_at hl 0 rfl) ?_
    refine lv_iload_n hx hb dX10_isIn_6 rfl (lv_at hl 2 rfl) ?_
    refine lv_icmp_gt (tgt := 14) hx hb dX10_isIn_7 (by decide) (fun c_2 => ?_) (fun c_2 => ?_)
    · refine lv_iconst (v := 0) hx hb dX10_isIn_14 (by decide) ?_
      exact retZ hC hP hD hS (by decide) (by decide) () [] rfl rfl (by have z0 := zt_nlt c_1; have z1 := zt_lt c_2; have y0 : ((-1) : Int32).toInt = (-1) := (by decide); have y1 : (0 : Int32).toInt = 0 := (by decide); first | exact Or.inl ⟨rfl, by omega⟩ | exact Or.inr ⟨rfl, by omega⟩) rfl dX10_isIn_15
    · refine lv_iconst (v := 1) hx hb dX10_isIn_10 (by decide) ?_
      refine lv_goto (tgt := 15) hx hb dX10_isIn_11 (by decide) ?_
      exact retZ hC hP hD hS (by decide) (by decide) () [] rfl rfl (by have z0 := zt_nlt c_1; have z1 := zt_nlt c_2; have y0 : ((-1) : Int32).toInt = (-1) := (by decide); have y1 : (0 : Int32).toInt = 0 := (by decide); first | exact Or.inl ⟨rfl, by omega⟩ | exact Or.inr ⟨rfl, by omega⟩) rfl dX10_isIn_15
set_option maxHeartbeats 4000000 in
set_option maxRecDepth 100000 in
theorem k_X10_manyOf (l : Launch) (D : va_G) (cyB cyI cyJ cyZ : ClassId) (sz : Nat) (o : Nat) (fs : List Value) (mn : Nat) (fm : Nat → Int32) (hl_fs : fs.length = 80) (h_fs_12 : fs[12]? = some (.ref mn)) (h_fs_37 : fs[37]? = some (.int 0)) (h_fm_0 : fm 0 = 0) : KI l yX10_manyOf cX10_manyOf 1 .int 0 0 0 D (TYS cyB cyI cyJ cyZ) [(o, .inr (10, fs)), (mn, .inl (cyI, 2, .inl fm))] sz [.ref o] (fun (r : Int32) (u : Unit) => r = 0) (fun (u : Unit) => ([(o, .inr (10, fs)), (mn, .inl (cyI, 2, .inl fm))] : va_W)) := by
  refine entI (by decide) (Nat.le_of_ble_eq_true rfl) ?_
  intro p e s m below meth c ls A hC hl hP hK hD hA
  obtain ⟨hx, hb, hr, hml, hown, hts, hlk, hnm⟩ := id hC
  have hS : va_S A s.heap s.heap [] := va_S.rf
  have hl : lv_has ls 1 [(0, .ref o)] := hl
  generalize hHe : s.heap = H at hP ⊢
  rw [hHe] at hS
  have hS : va_S A s.heap H [] := by rw [hHe]; exact hS
  refine lv_aload_n hx hb dX10_manyOf_0 rfl (lv_at hl 0 rfl) ?_
  refine gf hC hK hP iX10 0 rfl rfl 12 (by decide) mw_fieldLink_RX10_24_MirrorDrillModel_men_I h_fs_12 dX10_manyOf_1 ?_
  refine lv_aload_n hx hb dX10_manyOf_4 rfl (lv_at hl 0 rfl) ?_
  refine gf hC hK hP iX10 0 rfl rfl 37 (by decide) mw_fieldLink_RX10_282_MirrorDrillModel_bank_I h_fs_37 dX10_manyOf_5 ?_
  refine va_iald hx hb hK hP 1 1 rfl rfl (vin (by decide)) dX10_manyOf_8 ?_
  refine lv_cst (v := 0) (h_fm_0) ?_
  exact retI hC hP hD hS (by decide) (by decide) () [0, 1] rfl rfl rfl dX10_manyOf_9
set_option maxHeartbeats 4000000 in
set_option maxRecDepth 100000 in
theorem k_X10_isMan (l : Launch) (D : va_G) (cyB cyI cyJ cyZ : ClassId) (sz : Nat) (o : Nat) (p0 : Int32) (fs : List Value) (mn : Nat) (fm : Nat → Int32) (hl_fs : fs.length = 80) (h_fs_12 : fs[12]? = some (.ref mn)) (h_fs_37 : fs[37]? = some (.int 0)) (h_fm_0 : fm 0 = 0) : KI l yX10_isMan cX10_isMan 2 .boolean 1 0 0 D (TYS cyB cyI cyJ cyZ) [(o, .inr (10, fs)), (mn, .inl (cyI, 2, .inl fm))] sz [.ref o, .int p0] (fun (r : Int32) (u : Unit) => r = 0) (fun (u : Unit) => ([(o, .inr (10, fs)), (mn, .inl (cyI, 2, .inl fm))] : va_W)) := by
  refine entI (by decide) (Nat.le_of_ble_eq_true rfl) ?_
  intro p e s m below meth c ls A hC hl hP hK hD hA
  obtain ⟨hx, hb, hr, hml, hown, hts, hlk, hnm⟩ := id hC
  have hS : va_S A s.heap s.heap [] := va_S.rf
  have hl : lv_has ls 2 [(0, .ref o), (1, .int p0)] := hl
  generalize hHe : s.heap = H at hP ⊢
  rw [hHe] at hS
  have hS : va_S A s.heap H [] := by rw [hHe]; exact hS
  refine lv_iload_n hx hb dX10_isMan_0 rfl (lv_at hl 1 rfl) ?_
  refine lv_iconst (v := 0) hx hb dX10_isMan_1 (by decide) ?_
  refine lv_aload_n hx hb dX10_isMan_2 rfl (lv_at hl 0 rfl) ?_
  refine aftI (wr := []) (runV hC hK hP hD hl.1 (k_X10_manyOf l D cyB cyI cyJ cyZ H.size o fs mn fm hl_fs h_fs_12 h_fs_37 h_fm_0) cV_X10_manyOf mw_methodLink_RX10_375_yX10_manyOf [0, 1] rfl rfl 0 rfl rfl rfl rfl rfl (Nat.le_of_ble_eq_true rfl) ⟨by decide, by decide⟩ ⟨by decide, by decide⟩ dX10_isMan_3) hP hD hS hA [0, 1] [] rfl rfl rfl (by decide) (fun r_1 u_1 H locs hw_1 hP hD hS => ?_)
  have hr_1 := hw_1
  refine lv_cst (v := 0) hr_1 ?_
  have hP : va_P D classes [(o, .inr (10, fs)), (mn, .inl (cyI, 2, .inl fm))] H := hP
  have hD : va_D A [(o, .inr (10, fs)), (mn, .inl (cyI, 2, .inl fm))] := hD
  refine W.widen (k := 0) (n := 0) (by decide) (by decide) ?_
  refine lv_iconst (v := 1) hx hb dX10_isMan_6 (by decide) ?_
  refine lv_isub hx hb dX10_isMan_7 ?_
  refine lv_cst (v := (-1)) (by decide) ?_
  refine aftI (wr := [(o, .inr (10, fs)), (mn, .inl (cyI, 2, .inl fm))]) (runS hC hK hP hD hl.1 (k_X10_isIn l D cyB cyI cyJ cyZ H.size p0 0 (-1) ) cS_X10_isIn mw_methodLink_RX10_378_yX10_isIn [] rfl rfl rfl rfl (Nat.le_of_ble_eq_true rfl) ⟨by decide, by decide⟩ ⟨by decide, by decide⟩ dX10_isMan_8) hP hD hS hA [] [0, 1] rfl rfl rfl (by decide) (fun r_2 u_2 H locs hw_2 hP hD hS => ?_)
  have hr_2 := hw_2
  have hP : va_P D classes [(o, .inr (10, fs)), (mn, .inl (cyI, 2, .inl fm))] H := hP
  have hD : va_D A [(o, .inr (10, fs)), (mn, .inl (cyI, 2, .inl fm))] := hD
  refine W.widen (k := 0) (n := 0) (by decide) (by decide) ?_
  rcases hr_2 with ⟨e_2, p_2⟩ | ⟨e_2, p_2⟩
  · (exfalso; have z := p_2; have y0 : (0 : Int32).toInt = 0 := (by decide); have y1 : (-1 : Int32).toInt = -1 := (by decide); omega)
  · refine lv_cst (v := 0) e_2 ?_
    exact retZ hC hP hD hS (by decide) (by decide) () [0, 1] rfl rfl rfl rfl dX10_isMan_11
set_option maxHeartbeats 4000000 in
set_option maxRecDepth 100000 in
theorem k_X10_isRule (l : Launch) (D : va_G) (cyB cyI cyJ cyZ : ClassId) (sz : Nat) (o : Nat) (p0 : Int32) (fs : List Value) (rl : Nat) (fr : Nat → Int32) (hl_fs : fs.length = 80) (h_fs_13 : fs[13]? = some (.ref rl)) (h_fs_37 : fs[37]? = some (.int 0)) (h_fr_0 : fr 0 = 0) : KI l yX10_isRule cX10_isRule 2 .boolean 1 0 0 D (TYS cyB cyI cyJ cyZ) [(o, .inr (10, fs)), (rl, .inl (cyI, 2, .inl fr))] sz [.ref o, .int p0] (fun (r : Int32) (u : Unit) => r = 0) (fun (u : Unit) => ([(o, .inr (10, fs)), (rl, .inl (cyI, 2, .inl fr))] : va_W)) := by
  refine entI (by decide) (Nat.le_of_ble_eq_true rfl) ?_
  intro p e s m below meth c ls A hC hl hP hK hD hA
  obtain ⟨hx, hb, hr, hml, hown, hts, hlk, hnm⟩ := id hC
  have hS : va_S A s.heap s.heap [] := va_S.rf
  have hl : lv_has ls 2 [(0, .ref o), (1, .int p0)] := hl
  generalize hHe : s.heap = H at hP ⊢
  rw [hHe] at hS
  have hS : va_S A s.heap H [] := by rw [hHe]; exact hS
  refine lv_iload_n hx hb dX10_isRule_0 rfl (lv_at hl 1 rfl) ?_
  refine lv_iconst (v := 0) hx hb dX10_isRule_1 (by decide) ?_
  refine lv_aload_n hx hb dX10_isRule_2 rfl (lv_at hl 0 rfl) ?_
  refine gf hC hK hP iX10 0 rfl rfl 13 (by decide) mw_fieldLink_RX10_27_MirrorDrillModel_rules_I h_fs_13 dX10_isRule_3 ?_
  refine lv_aload_n hx hb dX10_isRule_6 rfl (lv_at hl 0 rfl) ?_
  refine gf hC hK hP iX10 0 rfl rfl 37 (by decide) mw_fieldLink_RX10_282_MirrorDrillModel_bank_I h_fs_37 dX10_isRule_7 ?_
  refine va_iald hx hb hK hP 1 1 rfl rfl (vin (by decide)) dX10_isRule_10 ?_
  refine lv_cst (v := 0) (h_fr_0) ?_
  refine lv_iconst (v := 1) hx hb dX10_isRule_11 (by decide) ?_
  refine lv_isub hx hb dX10_isRule_12 ?_
  refine lv_cst (v := (-1)) (by decide) ?_
  refine aftI (wr := [(o, .inr (10, fs)), (rl, .inl (cyI, 2, .inl fr))]) (runS hC hK hP hD hl.1 (k_X10_isIn l D cyB cyI cyJ cyZ H.size p0 0 (-1) ) cS_X10_isIn mw_methodLink_RX10_378_yX10_isIn [] rfl rfl rfl rfl (Nat.le_of_ble_eq_true rfl) ⟨by decide, by decide⟩ ⟨by decide, by decide⟩ dX10_isRule_13) hP hD hS hA [] [0, 1] rfl rfl rfl (by decide) (fun r_1 u_1 H locs hw_1 hP hD hS => ?_)
  have hr_1 := hw_1
  have hP : va_P D classes [(o, .inr (10, fs)), (rl, .inl (cyI, 2, .inl fr))] H := hP
  have hD : va_D A [(o, .inr (10, fs)), (rl, .inl (cyI, 2, .inl fr))] := hD
  refine W.widen (k := 0) (n := 0) (by decide) (by decide) ?_
  rcases hr_1 with ⟨e_1, p_1⟩ | ⟨e_1, p_1⟩
  · (exfalso; have z := p_1; have y0 : (0 : Int32).toInt = 0 := (by decide); have y1 : (-1 : Int32).toInt = -1 := (by decide); omega)
  · refine lv_cst (v := 0) e_1 ?_
    exact retZ hC hP hD hS (by decide) (by decide) () [0, 1] rfl rfl rfl rfl dX10_isRule_16
set_option maxHeartbeats 4000000 in
set_option maxRecDepth 100000 in
theorem k_X10_does (l : Launch) (D : va_G) (cyB cyI cyJ cyZ : ClassId) (sz : Nat) (o : Nat) (p0 : Int32) (fs : List Value) (mn : Nat) (fm : Nat → Int32) (hl_fs : fs.length = 80) (h_fs_12 : fs[12]? = some (.ref mn)) (h_fs_37 : fs[37]? = some (.int 0)) (h_fm_0 : fm 0 = 0) : KI l yX10_does cX10_does 2 .int 2 0 0 D (TYS cyB cyI cyJ cyZ) [(o, .inr (10, fs)), (mn, .inl (cyI, 2, .inl fm))] sz [.ref o, .int p0] (fun (r : Int32) (u : Unit) => r = (-1)) (fun (u : Unit) => ([] : va_W)) := by
  refine entI (by decide) (Nat.le_of_ble_eq_true rfl) ?_
  intro p e s m below meth c ls A hC hl hP hK hD hA
  obtain ⟨hx, hb, hr, hml, hown, hts, hlk, hnm⟩ := id hC
  have hS : va_S A s.heap s.heap [] := va_S.rf
  have hl : lv_has ls 2 [(0, .ref o), (1, .int p0)] := hl
  generalize hHe : s.heap = H at hP ⊢
  rw [hHe] at hS
  have hS : va_S A s.heap H [] := by rw [hHe]; exact hS
  refine lv_aload_n hx hb dX10_does_0 rfl (lv_at hl 0 rfl) ?_
  refine lv_iload_n hx hb dX10_does_1 rfl (lv_at hl 1 rfl) ?_
  refine aftI (wr := []) (runV hC hK hP hD hl.1 (k_X10_isMan l D cyB cyI cyJ cyZ H.size o p0 fs mn fm hl_fs h_fs_12 h_fs_37 h_fm_0) cV_X10_isMan mw_methodLink_RX10_424_yX10_isMan [0, 1] rfl rfl 0 rfl rfl rfl rfl rfl (Nat.le_of_ble_eq_true rfl) ⟨by decide, by decide⟩ ⟨by decide, by decide⟩ dX10_does_2) hP hD hS hA [0, 1] [] rfl rfl rfl (by decide) (fun r_1 u_1 H locs hw_1 hP hD hS => ?_)
  have hr_1 := hw_1
  refine lv_cst (v := 0) hr_1 ?_
  have hP : va_P D classes [(o, .inr (10, fs)), (mn, .inl (cyI, 2, .inl fm))] H := hP
  have hD : va_D A [(o, .inr (10, fs)), (mn, .inl (cyI, 2, .inl fm))] := hD
  refine W.widen (k := 0) (n := 0) (by decide) (by decide) ?_
  refine lv_if_eq (tgt := 17) hx hb dX10_does_5 (by decide) (fun c_2 => ?_) (fun c_2 => absurd (by decide) c_2)
  refine lv_iconst (v := (-1)) hx hb dX10_does_17 (by decide) ?_
  exact retI hC hP hD hS (by decide) (by decide) () [] rfl rfl rfl dX10_does_18
set_option maxHeartbeats 4000000 in
set_option maxRecDepth 100000 in
theorem k_X10_made (l : Launch) (D : va_G) (cyB cyI cyJ cyZ : ClassId) (sz : Nat) (o : Nat) (p0 : Int32) (p1 : Int32) (p2 : Int32) (p3 : Int32) (fs : List Value) (rl : Nat) (fr : Nat → Int32) (hl_fs : fs.length = 80) (h_fs_13 : fs[13]? = some (.ref rl)) (h_fs_37 : fs[37]? = some (.int 0)) (h_fr_0 : fr 0 = 0) : KI l yX10_made cX10_made 5 .int 2 0 0 D (TYS cyB cyI cyJ cyZ) [(o, .inr (10, fs)), (rl, .inl (cyI, 2, .inl fr))] sz [.ref o, .int p0, .int p1, .int p2, .int p3] (fun (r : Int32) (u : Unit) => r = (-1)) (fun (u : Unit) => ([] : va_W)) := by
  refine entI (by decide) (Nat.le_of_ble_eq_true rfl) ?_
  intro p e s m below meth c ls A hC hl hP hK hD hA
  obtain ⟨hx, hb, hr, hml, hown, hts, hlk, hnm⟩ := id hC
  have hS : va_S A s.heap s.heap [] := va_S.rf
  have hl : lv_has ls 5 [(0, .ref o), (1, .int p0), (2, .int p1), (3, .int p2), (4, .int p3)] := hl
  generalize hHe : s.heap = H at hP ⊢
  rw [hHe] at hS
  have hS : va_S A s.heap H [] := by rw [hHe]; exact hS
  refine lv_aload_n hx hb dX10_made_0 rfl (lv_at hl 0 rfl) ?_
  refine lv_iload_n hx hb dX10_made_1 rfl (lv_at hl 1 rfl) ?_
  refine aftI (wr := []) (runV hC hK hP hD hl.1 (k_X10_isRule l D cyB cyI cyJ cyZ H.size o p0 fs rl fr hl_fs h_fs_13 h_fs_37 h_fr_0) cV_X10_isRule mw_methodLink_RX10_427_yX10_isRule [0, 1] rfl rfl 0 rfl rfl rfl rfl rfl (Nat.le_of_ble_eq_true rfl) ⟨by decide, by decide⟩ ⟨by decide, by decide⟩ dX10_made_2) hP hD hS hA [0, 1] [] rfl rfl rfl (by decide) (fun r_1 u_1 H locs hw_1 hP hD hS => ?_)
  have hr_1 := hw_1
  refine lv_cst (v := 0) hr_1 ?_
  have hP : va_P D classes [(o, .inr (10, fs)), (rl, .inl (cyI, 2, .inl fr))] H := hP
  have hD : va_D A [(o, .inr (10, fs)), (rl, .inl (cyI, 2, .inl fr))] := hD
  refine W.widen (k := 0) (n := 0) (by decide) (by decide) ?_
  refine lv_if_eq (tgt := 45) hx hb dX10_made_5 (by decide) (fun c_2 => ?_) (fun c_2 => absurd (by decide) c_2)
  refine lv_iconst (v := (-1)) hx hb dX10_made_45 (by decide) ?_
  exact retI hC hP hD hS (by decide) (by decide) () [] rfl rfl rfl dX10_made_46
set_option maxHeartbeats 4000000 in
set_option maxRecDepth 100000 in
theorem k_X10_order (l : Launch) (D : va_G) (cyB cyI cyJ cyZ : ClassId) (sz : Nat) (o : Nat) (p0 : Int32) (p1 : Int32) (fs : List Value) (mn : Nat) (fm : Nat → Int32) (hl_fs : fs.length = 80) (h_fs_12 : fs[12]? = some (.ref mn)) (h_fs_37 : fs[37]? = some (.int 0)) (h_fm_0 : fm 0 = 0) : KI l yX10_order cX10_order 4 .int 2 0 0 D (TYS cyB cyI cyJ cyZ) [(o, .inr (10, fs)), (mn, .inl (cyI, 2, .inl fm))] sz [.ref o, .int p0, .int p1] (fun (r : Int32) (u : Unit) => r = (-1)) (fun (u : Unit) => ([] : va_W)) := by
  refine entI (by decide) (Nat.le_of_ble_eq_true rfl) ?_
  intro p e s m below meth c ls A hC hl hP hK hD hA
  obtain ⟨hx, hb, hr, hml, hown, hts, hlk, hnm⟩ := id hC
  have hS : va_S A s.heap s.heap [] := va_S.rf
  have hl : lv_has ls 4 [(0, .ref o), (1, .int p0), (2, .int p1)] := hl
  generalize hHe : s.heap = H at hP ⊢
  rw [hHe] at hS
  have hS : va_S A s.heap H [] := by rw [hHe]; exact hS
  refine lv_aload_n hx hb dX10_order_0 rfl (lv_at hl 0 rfl) ?_
  refine lv_iload_n hx hb dX10_order_1 rfl (lv_at hl 1 rfl) ?_
  refine aftI (wr := []) (runV hC hK hP hD hl.1 (k_X10_isMan l D cyB cyI cyJ cyZ H.size o p0 fs mn fm hl_fs h_fs_12 h_fs_37 h_fm_0) cV_X10_isMan mw_methodLink_RX10_424_yX10_isMan [0, 1] rfl rfl 0 rfl rfl rfl rfl rfl (Nat.le_of_ble_eq_true rfl) ⟨by decide, by decide⟩ ⟨by decide, by decide⟩ dX10_order_2) hP hD hS hA [0, 1] [] rfl rfl rfl (by decide) (fun r_1 u_1 H locs hw_1 hP hD hS => ?_)
  have hr_1 := hw_1
  refine lv_cst (v := 0) hr_1 ?_
  have hP : va_P D classes [(o, .inr (10, fs)), (mn, .inl (cyI, 2, .inl fm))] H := hP
  have hD : va_D A [(o, .inr (10, fs)), (mn, .inl (cyI, 2, .inl fm))] := hD
  refine W.widen (k := 0) (n := 0) (by decide) (by decide) ?_
  refine lv_if_eq (tgt := 16) hx hb dX10_order_5 (by decide) (fun c_2 => ?_) (fun c_2 => absurd (by decide) c_2)
  refine lv_iconst (v := (-1)) hx hb dX10_order_16 (by decide) ?_
  exact retI hC hP hD hS (by decide) (by decide) () [] rfl rfl rfl dX10_order_17
set_option maxHeartbeats 4000000 in
set_option maxRecDepth 100000 in
theorem k_X10_undo (l : Launch) (D : va_G) (cyB cyI cyJ cyZ : ClassId) (sz : Nat) (o : Nat) (fs : List Value) (hl_fs : fs.length = 80) (h_fs_51 : fs[51]? = some (.int 0)) : KI l yX10_undo cX10_undo 1 .boolean 0 0 0 D (TYS cyB cyI cyJ cyZ) [(o, .inr (10, fs))] sz [.ref o] (fun (r : Int32) (u : Unit) => r = 0) (fun (u : Unit) => ([] : va_W)) := by
  refine entI (by decide) (Nat.le_of_ble_eq_true rfl) ?_
  intro p e s m below meth c ls A hC hl hP hK hD hA
  obtain ⟨hx, hb, hr, hml, hown, hts, hlk, hnm⟩ := id hC
  have hS : va_S A s.heap s.heap [] := va_S.rf
  have hl : lv_has ls 1 [(0, .ref o)] := hl
  generalize hHe : s.heap = H at hP ⊢
  rw [hHe] at hS
  have hS : va_S A s.heap H [] := by rw [hHe]; exact hS
  refine lv_aload_n hx hb dX10_undo_0 rfl (lv_at hl 0 rfl) ?_
  refine gf hC hK hP iX10 0 rfl rfl 51 (by decide) mw_fieldLink_RX10_391_MirrorDrillModel_acts_I h_fs_51 dX10_undo_1 ?_
  refine lv_if_ne (tgt := 9) hx hb dX10_undo_4 (by decide) (fun c_1 => absurd (by decide) c_1) (fun c_1 => ?_)
  refine lv_iconst (v := 0) hx hb dX10_undo_7 (by decide) ?_
  exact retZ hC hP hD hS (by decide) (by decide) () [] rfl rfl rfl rfl dX10_undo_8
set_option maxHeartbeats 4000000 in
set_option maxRecDepth 100000 in
theorem k_X10_redo (l : Launch) (D : va_G) (cyB cyI cyJ cyZ : ClassId) (sz : Nat) (o : Nat) (fs : List Value) (hl_fs : fs.length = 80) (h_fs_52 : fs[52]? = some (.int 0)) : KI l yX10_redo cX10_redo 1 .boolean 0 0 0 D (TYS cyB cyI cyJ cyZ) [(o, .inr (10, fs))] sz [.ref o] (fun (r : Int32) (u : Unit) => r = 0) (fun (u : Unit) => ([] : va_W)) := by
  refine entI (by decide) (Nat.le_of_ble_eq_true rfl) ?_
  intro p e s m below meth c ls A hC hl hP hK hD hA
  obtain ⟨hx, hb, hr, hml, hown, hts, hlk, hnm⟩ := id hC
  have hS : va_S A s.heap s.heap [] := va_S.rf
  have hl : lv_has ls 1 [(0, .ref o)] := hl
  generalize hHe : s.heap = H at hP ⊢
  rw [hHe] at hS
  have hS : va_S A s.heap H [] := by rw [hHe]; exact hS
  refine lv_aload_n hx hb dX10_redo_0 rfl (lv_at hl 0 rfl) ?_
  refine gf hC hK hP iX10 0 rfl rfl 52 (by decide) mw_fieldLink_RX10_394_MirrorDrillModel_undone_I h_fs_52 dX10_redo_1 ?_
  refine lv_if_ne (tgt := 9) hx hb dX10_redo_4 (by decide) (fun c_1 => absurd (by decide) c_1) (fun c_1 => ?_)
  refine lv_iconst (v := 0) hx hb dX10_redo_7 (by decide) ?_
  exact retZ hC hP hD hS (by decide) (by decide) () [] rfl rfl rfl rfl dX10_redo_8
set_option maxHeartbeats 4000000 in
set_option maxRecDepth 100000 in
theorem k_X10_worth (l : Launch) (D : va_G) (cyB cyI cyJ cyZ : ClassId) (sz : Nat) (o : Nat) (fs : List Value) (mn : Nat) (fm : Nat → Int32) (hl_fs : fs.length = 80) (h_fs_12 : fs[12]? = some (.ref mn)) (h_fs_37 : fs[37]? = some (.int 0)) (h_fm_0 : fm 0 = 0) : KI l yX10_worth cX10_worth 3 .int 1 0 0 D (TYS cyB cyI cyJ cyZ) [(o, .inr (10, fs)), (mn, .inl (cyI, 2, .inl fm))] sz [.ref o] (fun (r : Int32) (u : Unit) => r = 0) (fun (u : Unit) => ([] : va_W)) := by
  refine entI (by decide) (Nat.le_of_ble_eq_true rfl) ?_
  intro p e s m below meth c ls A hC hl hP hK hD hA
  obtain ⟨hx, hb, hr, hml, hown, hts, hlk, hnm⟩ := id hC
  have hS : va_S A s.heap s.heap [] := va_S.rf
  have hl : lv_has ls 3 [(0, .ref o)] := hl
  generalize hHe : s.heap = H at hP ⊢
  rw [hHe] at hS
  have hS : va_S A s.heap H [] := by rw [hHe]; exact hS
  refine lv_iconst (v := 0) hx hb dX10_worth_0 (by decide) ?_
  refine lv_istore_n (lv' := [(1, .int 0), (0, .ref o)]) hx hb dX10_worth_1 rfl hl (by decide) rfl (fun ls hl => ?_)
  refine lv_iconst (v := 0) hx hb dX10_worth_2 (by decide) ?_
  refine lv_istore_n (lv' := [(2, .int 0), (1, .int 0), (0, .ref o)]) hx hb dX10_worth_3 rfl hl (by decide) rfl (fun ls hl => ?_)
  refine lv_iload_n hx hb dX10_worth_4 rfl (lv_at hl 0 rfl) ?_
  refine lv_aload_n hx hb dX10_worth_5 rfl (lv_at hl 2 rfl) ?_
  refine aftI (wr := []) (runV hC hK hP hD hl.1 (k_X10_manyOf l D cyB cyI cyJ cyZ H.size o fs mn fm hl_fs h_fs_12 h_fs_37 h_fm_0) cV_X10_manyOf mw_methodLink_RX10_375_yX10_manyOf [0, 1] rfl rfl 0 rfl rfl rfl rfl rfl (Nat.le_of_ble_eq_true rfl) ⟨by decide, by decide⟩ ⟨by decide, by decide⟩ dX10_worth_6) hP hD hS hA [0, 1] [] rfl rfl rfl (by decide) (fun r_1 u_1 H locs hw_1 hP hD hS => ?_)
  have hr_1 := hw_1
  refine lv_cst (v := 0) hr_1 ?_
  have hP : va_P D classes [(o, .inr (10, fs)), (mn, .inl (cyI, 2, .inl fm))] H := hP
  have hD : va_D A [(o, .inr (10, fs)), (mn, .inl (cyI, 2, .inl fm))] := hD
  refine W.widen (k := 0) (n := 0) (by decide) (by decide) ?_
  refine lv_icmp_ge (tgt := 39) hx hb dX10_worth_9 (by decide) (fun c_2 => ?_) (fun c_2 => absurd (by decide) c_2)
  refine lv_iload_n hx hb dX10_worth_39 rfl (lv_at hl 1 rfl) ?_
  exact retI hC hP hD hS (by decide) (by decide) () [] rfl rfl rfl dX10_worth_40
set_option maxHeartbeats 4000000 in
set_option maxRecDepth 100000 in
theorem k_X10_spread (l : Launch) (D : va_G) (cyB cyI cyJ cyZ : ClassId) (sz : Nat) (o : Nat) (p0 : Int32) (p1 : Int32) (p2 : Int32) (fs : List Value) (mn : Nat) (fm : Nat → Int32) (hl_fs : fs.length = 80) (h_fs_12 : fs[12]? = some (.ref mn)) (h_fs_37 : fs[37]? = some (.int 0)) (h_fm_0 : fm 0 = 0) : KI l yX10_spread cX10_spread 6 .int 2 0 0 D (TYS cyB cyI cyJ cyZ) [(o, .inr (10, fs)), (mn, .inl (cyI, 2, .inl fm))] sz [.ref o, .int p0, .int p1, .int p2] (fun (r : Int32) (u : Unit) => r = (-1)) (fun (u : Unit) => ([] : va_W)) := by
  refine entI (by decide) (Nat.le_of_ble_eq_true rfl) ?_
  intro p e s m below meth c ls A hC hl hP hK hD hA
  obtain ⟨hx, hb, hr, hml, hown, hts, hlk, hnm⟩ := id hC
  have hS : va_S A s.heap s.heap [] := va_S.rf
  have hl : lv_has ls 6 [(0, .ref o), (1, .int p0), (2, .int p1), (3, .int p2)] := hl
  generalize hHe : s.heap = H at hP ⊢
  rw [hHe] at hS
  have hS : va_S A s.heap H [] := by rw [hHe]; exact hS
  refine lv_aload_n hx hb dX10_spread_0 rfl (lv_at hl 0 rfl) ?_
  refine lv_iload_n hx hb dX10_spread_1 rfl (lv_at hl 1 rfl) ?_
  refine aftI (wr := []) (runV hC hK hP hD hl.1 (k_X10_isMan l D cyB cyI cyJ cyZ H.size o p0 fs mn fm hl_fs h_fs_12 h_fs_37 h_fm_0) cV_X10_isMan mw_methodLink_RX10_424_yX10_isMan [0, 1] rfl rfl 0 rfl rfl rfl rfl rfl (Nat.le_of_ble_eq_true rfl) ⟨by decide, by decide⟩ ⟨by decide, by decide⟩ dX10_spread_2) hP hD hS hA [0, 1] [] rfl rfl rfl (by decide) (fun r_1 u_1 H locs hw_1 hP hD hS => ?_)
  have hr_1 := hw_1
  refine lv_cst (v := 0) hr_1 ?_
  have hP : va_P D classes [(o, .inr (10, fs)), (mn, .inl (cyI, 2, .inl fm))] H := hP
  have hD : va_D A [(o, .inr (10, fs)), (mn, .inl (cyI, 2, .inl fm))] := hD
  refine W.widen (k := 0) (n := 0) (by decide) (by decide) ?_
  refine lv_if_eq (tgt := 27) hx hb dX10_spread_5 (by decide) (fun c_2 => ?_) (fun c_2 => absurd (by decide) c_2)
  refine lv_iconst (v := (-1)) hx hb dX10_spread_27 (by decide) ?_
  exact retI hC hP hD hS (by decide) (by decide) () [] rfl rfl rfl dX10_spread_28
set_option maxHeartbeats 4000000 in
set_option maxRecDepth 100000 in
theorem k_X10_glint (l : Launch) (D : va_G) (cyB cyI cyJ cyZ : ClassId) (sz : Nat) (o : Nat) (p0 : Int32) (p1 : Int32) (p2 : Int32) (fs : List Value) (mn : Nat) (fm : Nat → Int32) (hl_fs : fs.length = 80) (h_fs_12 : fs[12]? = some (.ref mn)) (h_fs_37 : fs[37]? = some (.int 0)) (h_fm_0 : fm 0 = 0) : KI l yX10_glint cX10_glint 7 .int 2 0 0 D (TYS cyB cyI cyJ cyZ) [(o, .inr (10, fs)), (mn, .inl (cyI, 2, .inl fm))] sz [.ref o, .int p0, .int p1, .int p2] (fun (r : Int32) (u : Unit) => r = (-2)) (fun (u : Unit) => ([] : va_W)) := by
  refine entI (by decide) (Nat.le_of_ble_eq_true rfl) ?_
  intro p e s m below meth c ls A hC hl hP hK hD hA
  obtain ⟨hx, hb, hr, hml, hown, hts, hlk, hnm⟩ := id hC
  have hS : va_S A s.heap s.heap [] := va_S.rf
  have hl : lv_has ls 7 [(0, .ref o), (1, .int p0), (2, .int p1), (3, .int p2)] := hl
  generalize hHe : s.heap = H at hP ⊢
  rw [hHe] at hS
  have hS : va_S A s.heap H [] := by rw [hHe]; exact hS
  refine lv_aload_n hx hb dX10_glint_0 rfl (lv_at hl 0 rfl) ?_
  refine lv_iconst (v := 0) hx hb dX10_glint_1 (by decide) ?_
  refine pf (v := .int 0) hC hK hP hD hS iX10 tyX10_ok nmX10 0 rfl rfl 60 (by decide) mw_fieldLink_RX10_297_MirrorDrillModel_laid_I rfl rfl rfl (ln_lt hl_fs (by decide)) dX10_glint_2 (fun H locs hP hD hS => ?_)
  have hP : va_P D classes [(o, .inr (10, (fs.set 60 (.int 0)))), (mn, .inl (cyI, 2, .inl fm))] H := hP
  have hD : va_D A [(o, .inr (10, (fs.set 60 (.int 0)))), (mn, .inl (cyI, 2, .inl fm))] := hD
  refine lv_aload_n hx hb dX10_glint_5 rfl (lv_at hl 0 rfl) ?_
  refine lv_iload_n hx hb dX10_glint_6 rfl (lv_at hl 1 rfl) ?_
  refine aftI (wr := []) (runV hC hK hP hD hl.1 (k_X10_isMan l D cyB cyI cyJ cyZ H.size o p0 (fs.set 60 (.int 0)) mn fm (ln_set hl_fs) (gs_ne (by decide) h_fs_12) (gs_ne (by decide) h_fs_37) h_fm_0) cV_X10_isMan mw_methodLink_RX10_424_yX10_isMan [0, 1] rfl rfl 0 rfl rfl rfl rfl rfl (Nat.le_of_ble_eq_true rfl) ⟨by decide, by decide⟩ ⟨by decide, by decide⟩ dX10_glint_7) hP hD hS hA [0, 1] [] rfl rfl rfl (by decide) (fun r_1 u_1 H locs hw_1 hP hD hS => ?_)
  have hr_1 := hw_1
  refine lv_cst (v := 0) hr_1 ?_
  have hP : va_P D classes [(o, .inr (10, (fs.set 60 (.int 0)))), (mn, .inl (cyI, 2, .inl fm))] H := hP
  have hD : va_D A [(o, .inr (10, (fs.set 60 (.int 0)))), (mn, .inl (cyI, 2, .inl fm))] := hD
  refine W.widen (k := 0) (n := 0) (by decide) (by decide) ?_
  refine lv_if_eq (tgt := 31) hx hb dX10_glint_10 (by decide) (fun c_2 => ?_) (fun c_2 => absurd (by decide) c_2)
  refine lv_bipush (v := (-2)) hx hb dX10_glint_31 (by decide) ?_
  exact retI hC hP hD hS (by decide) (by decide) () [] rfl rfl rfl dX10_glint_33
set_option maxHeartbeats 4000000 in
set_option maxRecDepth 100000 in
theorem k_X10_cracks (l : Launch) (D : va_G) (cyB cyI cyJ cyZ : ClassId) (sz : Nat) (o : Nat) (p0 : Int32) (p1 : Int32) (p2 : Int32) (fs : List Value) (mn : Nat) (fm : Nat → Int32) (hl_fs : fs.length = 80) (h_fs_12 : fs[12]? = some (.ref mn)) (h_fs_37 : fs[37]? = some (.int 0)) (h_fm_0 : fm 0 = 0) : KI l yX10_cracks cX10_cracks 7 .int 2 0 0 D (TYS cyB cyI cyJ cyZ) [(o, .inr (10, fs)), (mn, .inl (cyI, 2, .inl fm))] sz [.ref o, .int p0, .int p1, .int p2] (fun (r : Int32) (u : Unit) => r = (-2)) (fun (u : Unit) => ([] : va_W)) := by
  refine entI (by decide) (Nat.le_of_ble_eq_true rfl) ?_
  intro p e s m below meth c ls A hC hl hP hK hD hA
  obtain ⟨hx, hb, hr, hml, hown, hts, hlk, hnm⟩ := id hC
  have hS : va_S A s.heap s.heap [] := va_S.rf
  have hl : lv_has ls 7 [(0, .ref o), (1, .int p0), (2, .int p1), (3, .int p2)] := hl
  generalize hHe : s.heap = H at hP ⊢
  rw [hHe] at hS
  have hS : va_S A s.heap H [] := by rw [hHe]; exact hS
  refine lv_aload_n hx hb dX10_cracks_0 rfl (lv_at hl 0 rfl) ?_
  refine lv_iconst (v := 0) hx hb dX10_cracks_1 (by decide) ?_
  refine pf (v := .int 0) hC hK hP hD hS iX10 tyX10_ok nmX10 0 rfl rfl 60 (by decide) mw_fieldLink_RX10_297_MirrorDrillModel_laid_I rfl rfl rfl (ln_lt hl_fs (by decide)) dX10_cracks_2 (fun H locs hP hD hS => ?_)
  have hP : va_P D classes [(o, .inr (10, (fs.set 60 (.int 0)))), (mn, .inl (cyI, 2, .inl fm))] H := hP
  have hD : va_D A [(o, .inr (10, (fs.set 60 (.int 0)))), (mn, .inl (cyI, 2, .inl fm))] := hD
  refine lv_aload_n hx hb dX10_cracks_5 rfl (lv_at hl 0 rfl) ?_
  refine lv_iload_n hx hb dX10_cracks_6 rfl (lv_at hl 1 rfl) ?_
  refine aftI (wr := []) (runV hC hK hP hD hl.1 (k_X10_isMan l D cyB cyI cyJ cyZ H.size o p0 (fs.set 60 (.int 0)) mn fm (ln_set hl_fs) (gs_ne (by decide) h_fs_12) (gs_ne (by decide) h_fs_37) h_fm_0) cV_X10_isMan mw_methodLink_RX10_424_yX10_isMan [0, 1] rfl rfl 0 rfl rfl rfl rfl rfl (Nat.le_of_ble_eq_true rfl) ⟨by decide, by decide⟩ ⟨by decide, by decide⟩ dX10_cracks_7) hP hD hS hA [0, 1] [] rfl rfl rfl (by decide) (fun r_1 u_1 H locs hw_1 hP hD hS => ?_)
  have hr_1 := hw_1
  refine lv_cst (v := 0) hr_1 ?_
  have hP : va_P D classes [(o, .inr (10, (fs.set 60 (.int 0)))), (mn, .inl (cyI, 2, .inl fm))] H := hP
  have hD : va_D A [(o, .inr (10, (fs.set 60 (.int 0)))), (mn, .inl (cyI, 2, .inl fm))] := hD
  refine W.widen (k := 0) (n := 0) (by decide) (by decide) ?_
  refine lv_if_eq (tgt := 31) hx hb dX10_cracks_10 (by decide) (fun c_2 => ?_) (fun c_2 => absurd (by decide) c_2)
  refine lv_bipush (v := (-2)) hx hb dX10_cracks_31 (by decide) ?_
  exact retI hC hP hD hS (by decide) (by decide) () [] rfl rfl rfl dX10_cracks_33
set_option maxHeartbeats 4000000 in
set_option maxRecDepth 100000 in
theorem k_X10_orphan (l : Launch) (D : va_G) (cyB cyI cyJ cyZ : ClassId) (sz : Nat) (o : Nat) (p0 : Int32) (fs : List Value) (rl : Nat) (fr : Nat → Int32) (hl_fs : fs.length = 80) (h_fs_13 : fs[13]? = some (.ref rl)) (h_fs_37 : fs[37]? = some (.int 0)) (h_fr_0 : fr 0 = 0) : KI l yX10_orphan cX10_orphan 6 .int 2 0 0 D (TYS cyB cyI cyJ cyZ) [(o, .inr (10, fs)), (rl, .inl (cyI, 2, .inl fr))] sz [.ref o, .int p0] (fun (r : Int32) (u : Unit) => r = (-1)) (fun (u : Unit) => ([] : va_W)) := by
  refine entI (by decide) (Nat.le_of_ble_eq_true rfl) ?_
  intro p e s m below meth c ls A hC hl hP hK hD hA
  obtain ⟨hx, hb, hr, hml, hown, hts, hlk, hnm⟩ := id hC
  have hS : va_S A s.heap s.heap [] := va_S.rf
  have hl : lv_has ls 6 [(0, .ref o), (1, .int p0)] := hl
  generalize hHe : s.heap = H at hP ⊢
  rw [hHe] at hS
  have hS : va_S A s.heap H [] := by rw [hHe]; exact hS
  refine lv_aload_n hx hb dX10_orphan_0 rfl (lv_at hl 0 rfl) ?_
  refine lv_iconst (v := 0) hx hb dX10_orphan_1 (by decide) ?_
  refine pf (v := .int 0) hC hK hP hD hS iX10 tyX10_ok nmX10 0 rfl rfl 60 (by decide) mw_fieldLink_RX10_297_MirrorDrillModel_laid_I rfl rfl rfl (ln_lt hl_fs (by decide)) dX10_orphan_2 (fun H locs hP hD hS => ?_)
  have hP : va_P D classes [(o, .inr (10, (fs.set 60 (.int 0)))), (rl, .inl (cyI, 2, .inl fr))] H := hP
  have hD : va_D A [(o, .inr (10, (fs.set 60 (.int 0)))), (rl, .inl (cyI, 2, .inl fr))] := hD
  refine lv_aload_n hx hb dX10_orphan_5 rfl (lv_at hl 0 rfl) ?_
  refine lv_iload_n hx hb dX10_orphan_6 rfl (lv_at hl 1 rfl) ?_
  refine aftI (wr := []) (runV hC hK hP hD hl.1 (k_X10_isRule l D cyB cyI cyJ cyZ H.size o p0 (fs.set 60 (.int 0)) rl fr (ln_set hl_fs) (gs_ne (by decide) h_fs_13) (gs_ne (by decide) h_fs_37) h_fr_0) cV_X10_isRule mw_methodLink_RX10_427_yX10_isRule [0, 1] rfl rfl 0 rfl rfl rfl rfl rfl (Nat.le_of_ble_eq_true rfl) ⟨by decide, by decide⟩ ⟨by decide, by decide⟩ dX10_orphan_7) hP hD hS hA [0, 1] [] rfl rfl rfl (by decide) (fun r_1 u_1 H locs hw_1 hP hD hS => ?_)
  have hr_1 := hw_1
  refine lv_cst (v := 0) hr_1 ?_
  have hP : va_P D classes [(o, .inr (10, (fs.set 60 (.int 0)))), (rl, .inl (cyI, 2, .inl fr))] H := hP
  have hD : va_D A [(o, .inr (10, (fs.set 60 (.int 0)))), (rl, .inl (cyI, 2, .inl fr))] := hD
  refine W.widen (k := 0) (n := 0) (by decide) (by decide) ?_
  refine lv_if_ne (tgt := 15) hx hb dX10_orphan_10 (by decide) (fun c_2 => absurd (by decide) c_2) (fun c_2 => ?_)
  refine lv_iconst (v := (-1)) hx hb dX10_orphan_13 (by decide) ?_
  exact retI hC hP hD hS (by decide) (by decide) () [] rfl rfl rfl dX10_orphan_14
set_option maxHeartbeats 4000000 in
set_option maxRecDepth 100000 in
theorem k_X10_one (l : Launch) (D : va_G) (cyB cyI cyJ cyZ : ClassId) (sz : Nat) (o : Nat) (p0 : Int32) (fs : List Value) (rl : Nat) (fr : Nat → Int32) (hl_fs : fs.length = 80) (h_fs_13 : fs[13]? = some (.ref rl)) (h_fs_37 : fs[37]? = some (.int 0)) (h_fr_0 : fr 0 = 0) : KI l yX10_one cX10_one 4 .int 2 0 0 D (TYS cyB cyI cyJ cyZ) [(o, .inr (10, fs)), (rl, .inl (cyI, 2, .inl fr))] sz [.ref o, .int p0] (fun (r : Int32) (u : Unit) => r = (-1)) (fun (u : Unit) => ([] : va_W)) := by
  refine entI (by decide) (Nat.le_of_ble_eq_true rfl) ?_
  intro p e s m below meth c ls A hC hl hP hK hD hA
  obtain ⟨hx, hb, hr, hml, hown, hts, hlk, hnm⟩ := id hC
  have hS : va_S A s.heap s.heap [] := va_S.rf
  have hl : lv_has ls 4 [(0, .ref o), (1, .int p0)] := hl
  generalize hHe : s.heap = H at hP ⊢
  rw [hHe] at hS
  have hS : va_S A s.heap H [] := by rw [hHe]; exact hS
  refine lv_aload_n hx hb dX10_one_0 rfl (lv_at hl 0 rfl) ?_
  refine lv_iload_n hx hb dX10_one_1 rfl (lv_at hl 1 rfl) ?_
  refine aftI (wr := []) (runV hC hK hP hD hl.1 (k_X10_isRule l D cyB cyI cyJ cyZ H.size o p0 fs rl fr hl_fs h_fs_13 h_fs_37 h_fr_0) cV_X10_isRule mw_methodLink_RX10_427_yX10_isRule [0, 1] rfl rfl 0 rfl rfl rfl rfl rfl (Nat.le_of_ble_eq_true rfl) ⟨by decide, by decide⟩ ⟨by decide, by decide⟩ dX10_one_2) hP hD hS hA [0, 1] [] rfl rfl rfl (by decide) (fun r_1 u_1 H locs hw_1 hP hD hS => ?_)
  have hr_1 := hw_1
  refine lv_cst (v := 0) hr_1 ?_
  have hP : va_P D classes [(o, .inr (10, fs)), (rl, .inl (cyI, 2, .inl fr))] H := hP
  have hD : va_D A [(o, .inr (10, fs)), (rl, .inl (cyI, 2, .inl fr))] := hD
  refine W.widen (k := 0) (n := 0) (by decide) (by decide) ?_
  refine lv_if_ne (tgt := 10) hx hb dX10_one_5 (by decide) (fun c_2 => absurd (by decide) c_2) (fun c_2 => ?_)
  refine lv_iconst (v := (-1)) hx hb dX10_one_8 (by decide) ?_
  exact retI hC hP hD hS (by decide) (by decide) () [] rfl rfl rfl dX10_one_9
set_option maxHeartbeats 4000000 in
set_option maxRecDepth 100000 in
theorem k_X10_keeps (l : Launch) (D : va_G) (cyB cyI cyJ cyZ : ClassId) (sz : Nat) (o : Nat) (p0 : Int32) (fs : List Value) (rl : Nat) (fr : Nat → Int32) (hl_fs : fs.length = 80) (h_fs_13 : fs[13]? = some (.ref rl)) (h_fs_37 : fs[37]? = some (.int 0)) (h_fr_0 : fr 0 = 0) : KI l yX10_keeps cX10_keeps 5 .int 2 0 0 D (TYS cyB cyI cyJ cyZ) [(o, .inr (10, fs)), (rl, .inl (cyI, 2, .inl fr))] sz [.ref o, .int p0] (fun (r : Int32) (u : Unit) => r = (-1)) (fun (u : Unit) => ([] : va_W)) := by
  refine entI (by decide) (Nat.le_of_ble_eq_true rfl) ?_
  intro p e s m below meth c ls A hC hl hP hK hD hA
  obtain ⟨hx, hb, hr, hml, hown, hts, hlk, hnm⟩ := id hC
  have hS : va_S A s.heap s.heap [] := va_S.rf
  have hl : lv_has ls 5 [(0, .ref o), (1, .int p0)] := hl
  generalize hHe : s.heap = H at hP ⊢
  rw [hHe] at hS
  have hS : va_S A s.heap H [] := by rw [hHe]; exact hS
  refine lv_aload_n hx hb dX10_keeps_0 rfl (lv_at hl 0 rfl) ?_
  refine lv_iload_n hx hb dX10_keeps_1 rfl (lv_at hl 1 rfl) ?_
  refine aftI (wr := []) (runV hC hK hP hD hl.1 (k_X10_isRule l D cyB cyI cyJ cyZ H.size o p0 fs rl fr hl_fs h_fs_13 h_fs_37 h_fr_0) cV_X10_isRule mw_methodLink_RX10_427_yX10_isRule [0, 1] rfl rfl 0 rfl rfl rfl rfl rfl (Nat.le_of_ble_eq_true rfl) ⟨by decide, by decide⟩ ⟨by decide, by decide⟩ dX10_keeps_2) hP hD hS hA [0, 1] [] rfl rfl rfl (by decide) (fun r_1 u_1 H locs hw_1 hP hD hS => ?_)
  have hr_1 := hw_1
  refine lv_cst (v := 0) hr_1 ?_
  have hP : va_P D classes [(o, .inr (10, fs)), (rl, .inl (cyI, 2, .inl fr))] H := hP
  have hD : va_D A [(o, .inr (10, fs)), (rl, .inl (cyI, 2, .inl fr))] := hD
  refine W.widen (k := 0) (n := 0) (by decide) (by decide) ?_
  refine lv_if_ne (tgt := 10) hx hb dX10_keeps_5 (by decide) (fun c_2 => absurd (by decide) c_2) (fun c_2 => ?_)
  refine lv_iconst (v := (-1)) hx hb dX10_keeps_8 (by decide) ?_
  exact retI hC hP hD hS (by decide) (by decide) () [] rfl rfl rfl dX10_keeps_9
set_option maxHeartbeats 4000000 in
set_option maxRecDepth 100000 in
theorem k_X10_lies (l : Launch) (D : va_G) (cyB cyI cyJ cyZ : ClassId) (sz : Nat) (o : Nat) (p0 : Int32) (fs : List Value) (hl_fs : fs.length = 80) (h_fs_60 : fs[60]? = some (.int 0)) : KI l yX10_lies cX10_lies 2 .int 1 0 0 D (TYS cyB cyI cyJ cyZ) [(o, .inr (10, fs))] sz [.ref o, .int p0] (fun (r : Int32) (u : Unit) => r = (-1)) (fun (u : Unit) => ([] : va_W)) := by
  refine entI (by decide) (Nat.le_of_ble_eq_true rfl) ?_
  intro p e s m below meth c ls A hC hl hP hK hD hA
  obtain ⟨hx, hb, hr, hml, hown, hts, hlk, hnm⟩ := id hC
  have hS : va_S A s.heap s.heap [] := va_S.rf
  have hl : lv_has ls 2 [(0, .ref o), (1, .int p0)] := hl
  generalize hHe : s.heap = H at hP ⊢
  rw [hHe] at hS
  have hS : va_S A s.heap H [] := by rw [hHe]; exact hS
  refine lv_iload_n hx hb dX10_lies_0 rfl (lv_at hl 1 rfl) ?_
  refine lv_iconst (v := 0) hx hb dX10_lies_1 (by decide) ?_
  refine lv_aload_n hx hb dX10_lies_2 rfl (lv_at hl 0 rfl) ?_
  refine gf hC hK hP iX10 0 rfl rfl 60 (by decide) mw_fieldLink_RX10_297_MirrorDrillModel_laid_I h_fs_60 dX10_lies_3 ?_
  refine lv_iconst (v := 1) hx hb dX10_lies_6 (by decide) ?_
  refine lv_isub hx hb dX10_lies_7 ?_
  refine lv_cst (v := (-1)) (by decide) ?_
  refine aftI (wr := [(o, .inr (10, fs))]) (runS hC hK hP hD hl.1 (k_X10_isIn l D cyB cyI cyJ cyZ H.size p0 0 (-1) ) cS_X10_isIn mw_methodLink_RX10_378_yX10_isIn [] rfl rfl rfl rfl (Nat.le_of_ble_eq_true rfl) ⟨by decide, by decide⟩ ⟨by decide, by decide⟩ dX10_lies_8) hP hD hS hA [] [0] rfl rfl rfl (by decide) (fun r_1 u_1 H locs hw_1 hP hD hS => ?_)
  have hr_1 := hw_1
  have hP : va_P D classes [(o, .inr (10, fs))] H := hP
  have hD : va_D A [(o, .inr (10, fs))] := hD
  refine W.widen (k := 0) (n := 0) (by decide) (by decide) ?_
  rcases hr_1 with ⟨e_1, p_1⟩ | ⟨e_1, p_1⟩
  · (exfalso; have z := p_1; have y0 : (0 : Int32).toInt = 0 := (by decide); have y1 : (-1 : Int32).toInt = -1 := (by decide); omega)
  · refine lv_cst (v := 0) e_1 ?_
    refine lv_if_ne (tgt := 18) hx hb dX10_lies_11 (by decide) (fun c_2 => absurd (by decide) c_2) (fun c_2 => ?_)
    refine lv_iconst (v := (-1)) hx hb dX10_lies_14 (by decide) ?_
    refine lv_goto (tgt := 39) hx hb dX10_lies_15 (by decide) ?_
    exact retI hC hP hD hS (by decide) (by decide) () [] rfl rfl rfl dX10_lies_39
set_option maxHeartbeats 4000000 in
set_option maxRecDepth 100000 in
theorem k_X10_untell (l : Launch) (D : va_G) (cyB cyI cyJ cyZ : ClassId) (sz : Nat) (o : Nat) (p0 : Int32) (fs : List Value) (hl_fs : fs.length = 80) (h_fs_75 : fs[75]? = some (.int 0)) : KI l yX10_untell cX10_untell 2 .boolean 1 0 0 D (TYS cyB cyI cyJ cyZ) [(o, .inr (10, fs))] sz [.ref o, .int p0] (fun (r : Int32) (u : Unit) => r = 0) (fun (u : Unit) => ([] : va_W)) := by
  refine entI (by decide) (Nat.le_of_ble_eq_true rfl) ?_
  intro p e s m below meth c ls A hC hl hP hK hD hA
  obtain ⟨hx, hb, hr, hml, hown, hts, hlk, hnm⟩ := id hC
  have hS : va_S A s.heap s.heap [] := va_S.rf
  have hl : lv_has ls 2 [(0, .ref o), (1, .int p0)] := hl
  generalize hHe : s.heap = H at hP ⊢
  rw [hHe] at hS
  have hS : va_S A s.heap H [] := by rw [hHe]; exact hS
  refine lv_iload_n hx hb dX10_untell_0 rfl (lv_at hl 1 rfl) ?_
  refine lv_iconst (v := 0) hx hb dX10_untell_1 (by decide) ?_
  refine lv_aload_n hx hb dX10_untell_2 rfl (lv_at hl 0 rfl) ?_
  refine gf hC hK hP iX10 0 rfl rfl 75 (by decide) mw_fieldLink_RX10_291_MirrorDrillModel_sights_I h_fs_75 dX10_untell_3 ?_
  refine lv_iconst (v := 1) hx hb dX10_untell_6 (by decide) ?_
  refine lv_isub hx hb dX10_untell_7 ?_
  refine lv_cst (v := (-1)) (by decide) ?_
  refine aftI (wr := [(o, .inr (10, fs))]) (runS hC hK hP hD hl.1 (k_X10_isIn l D cyB cyI cyJ cyZ H.size p0 0 (-1) ) cS_X10_isIn mw_methodLink_RX10_378_yX10_isIn [] rfl rfl rfl rfl (Nat.le_of_ble_eq_true rfl) ⟨by decide, by decide⟩ ⟨by decide, by decide⟩ dX10_untell_8) hP hD hS hA [] [0] rfl rfl rfl (by decide) (fun r_1 u_1 H locs hw_1 hP hD hS => ?_)
  have hr_1 := hw_1
  have hP : va_P D classes [(o, .inr (10, fs))] H := hP
  have hD : va_D A [(o, .inr (10, fs))] := hD
  refine W.widen (k := 0) (n := 0) (by decide) (by decide) ?_
  rcases hr_1 with ⟨e_1, p_1⟩ | ⟨e_1, p_1⟩
  · (exfalso; have z := p_1; have y0 : (0 : Int32).toInt = 0 := (by decide); have y1 : (-1 : Int32).toInt = -1 := (by decide); omega)
  · refine lv_cst (v := 0) e_1 ?_
    refine lv_if_eq (tgt := 23) hx hb dX10_untell_11 (by decide) (fun c_2 => ?_) (fun c_2 => absurd (by decide) c_2)
    refine lv_iconst (v := 0) hx hb dX10_untell_23 (by decide) ?_
    exact retZ hC hP hD hS (by decide) (by decide) () [] rfl rfl rfl rfl dX10_untell_24
set_option maxHeartbeats 4000000 in
set_option maxRecDepth 100000 in
theorem k_X10_sight (l : Launch) (D : va_G) (cyB cyI cyJ cyZ : ClassId) (sz : Nat) (o : Nat) (p0 : Int32) (p1 : Int32) (p2 : Int32) (fs : List Value) (mn : Nat) (fm : Nat → Int32) (hl_fs : fs.length = 80) (h_fs_12 : fs[12]? = some (.ref mn)) (h_fs_37 : fs[37]? = some (.int 0)) (h_fm_0 : fm 0 = 0) : KI l yX10_sight cX10_sight 4 .int 2 0 0 D (TYS cyB cyI cyJ cyZ) [(o, .inr (10, fs)), (mn, .inl (cyI, 2, .inl fm))] sz [.ref o, .int p0, .int p1, .int p2] (fun (r : Int32) (u : Unit) => r = (-1)) (fun (u : Unit) => ([] : va_W)) := by
  refine entI (by decide) (Nat.le_of_ble_eq_true rfl) ?_
  intro p e s m below meth c ls A hC hl hP hK hD hA
  obtain ⟨hx, hb, hr, hml, hown, hts, hlk, hnm⟩ := id hC
  have hS : va_S A s.heap s.heap [] := va_S.rf
  have hl : lv_has ls 4 [(0, .ref o), (1, .int p0), (2, .int p1), (3, .int p2)] := hl
  generalize hHe : s.heap = H at hP ⊢
  rw [hHe] at hS
  have hS : va_S A s.heap H [] := by rw [hHe]; exact hS
  refine lv_iload_n hx hb dX10_sight_0 rfl (lv_at hl 1 rfl) ?_
  refine lv_iconst (v := 0) hx hb dX10_sight_1 (by decide) ?_
  refine lv_bipush (v := 30) hx hb dX10_sight_2 (by decide) ?_
  refine aftI (wr := [(o, .inr (10, fs)), (mn, .inl (cyI, 2, .inl fm))]) (runS hC hK hP hD hl.1 (k_X10_isIn l D cyB cyI cyJ cyZ H.size p0 0 30 ) cS_X10_isIn mw_methodLink_RX10_378_yX10_isIn [] rfl rfl rfl rfl (Nat.le_of_ble_eq_true rfl) ⟨by decide, by decide⟩ ⟨by decide, by decide⟩ dX10_sight_4) hP hD hS hA [] [0, 1] rfl rfl rfl (by decide) (fun r_1 u_1 H locs hw_1 hP hD hS => ?_)
  have hr_1 := hw_1
  have hP : va_P D classes [(o, .inr (10, fs)), (mn, .inl (cyI, 2, .inl fm))] H := hP
  have hD : va_D A [(o, .inr (10, fs)), (mn, .inl (cyI, 2, .inl fm))] := hD
  refine W.widen (k := 0) (n := 0) (by decide) (by decide) ?_
  rcases hr_1 with ⟨e_1, p_1⟩ | ⟨e_1, p_1⟩
  · refine lv_cst (v := 1) e_1 ?_
    refine lv_if_eq (tgt := 35) hx hb dX10_sight_7 (by decide) (fun c_2 => absurd c_2 (by decide)) (fun c_2 => ?_)
    refine lv_aload_n hx hb dX10_sight_10 rfl (lv_at hl 0 rfl) ?_
    refine lv_iload_n hx hb dX10_sight_11 rfl (lv_at hl 2 rfl) ?_
    refine aftI (wr := []) (runV hC hK hP hD hl.1 (k_X10_isMan l D cyB cyI cyJ cyZ H.size o p1 fs mn fm hl_fs h_fs_12 h_fs_37 h_fm_0) cV_X10_isMan mw_methodLink_RX10_424_yX10_isMan [0, 1] rfl rfl 0 rfl rfl rfl rfl rfl (Nat.le_of_ble_eq_true rfl) ⟨by decide, by decide⟩ ⟨by decide, by decide⟩ dX10_sight_12) hP hD hS hA [0, 1] [] rfl rfl rfl (by decide) (fun r_3 u_3 H locs hw_3 hP hD hS => ?_)
    have hr_3 := hw_3
    refine lv_cst (v := 0) hr_3 ?_
    have hP : va_P D classes [(o, .inr (10, fs)), (mn, .inl (cyI, 2, .inl fm))] H := hP
    have hD : va_D A [(o, .inr (10, fs)), (mn, .inl (cyI, 2, .inl fm))] := hD
    refine W.widen (k := 0) (n := 0) (by decide) (by decide) ?_
    refine lv_if_eq (tgt := 35) hx hb dX10_sight_15 (by decide) (fun c_4 => ?_) (fun c_4 => absurd (by decide) c_4)
    refine lv_iconst (v := (-1)) hx hb dX10_sight_35 (by decide) ?_
    exact retI hC hP hD hS (by decide) (by decide) () [] rfl rfl rfl dX10_sight_36
  · refine lv_cst (v := 0) e_1 ?_
    refine lv_if_eq (tgt := 35) hx hb dX10_sight_7 (by decide) (fun c_5 => ?_) (fun c_5 => absurd (by decide) c_5)
    refine lv_iconst (v := (-1)) hx hb dX10_sight_35 (by decide) ?_
    exact retI hC hP hD hS (by decide) (by decide) () [] rfl rfl rfl dX10_sight_36
set_option maxHeartbeats 4000000 in
set_option maxRecDepth 100000 in
theorem k_X10_sure (l : Launch) (D : va_G) (cyB cyI cyJ cyZ : ClassId) (sz : Nat) (o : Nat) (p0 : Int32) (p1 : Int32) (fs : List Value) (mn : Nat) (fm : Nat → Int32) (hl_fs : fs.length = 80) (h_fs_12 : fs[12]? = some (.ref mn)) (h_fs_37 : fs[37]? = some (.int 0)) (h_fm_0 : fm 0 = 0) : KI l yX10_sure cX10_sure 4 .int 2 0 0 D (TYS cyB cyI cyJ cyZ) [(o, .inr (10, fs)), (mn, .inl (cyI, 2, .inl fm))] sz [.ref o, .int p0, .int p1] (fun (r : Int32) (u : Unit) => r = (-1)) (fun (u : Unit) => ([] : va_W)) := by
  refine entI (by decide) (Nat.le_of_ble_eq_true rfl) ?_
  intro p e s m below meth c ls A hC hl hP hK hD hA
  obtain ⟨hx, hb, hr, hml, hown, hts, hlk, hnm⟩ := id hC
  have hS : va_S A s.heap s.heap [] := va_S.rf
  have hl : lv_has ls 4 [(0, .ref o), (1, .int p0), (2, .int p1)] := hl
  generalize hHe : s.heap = H at hP ⊢
  rw [hHe] at hS
  have hS : va_S A s.heap H [] := by rw [hHe]; exact hS
  refine lv_aload_n hx hb dX10_sure_0 rfl (lv_at hl 0 rfl) ?_
  refine lv_iload_n hx hb dX10_sure_1 rfl (lv_at hl 1 rfl) ?_
  refine aftI (wr := []) (runV hC hK hP hD hl.1 (k_X10_isMan l D cyB cyI cyJ cyZ H.size o p0 fs mn fm hl_fs h_fs_12 h_fs_37 h_fm_0) cV_X10_isMan mw_methodLink_RX10_424_yX10_isMan [0, 1] rfl rfl 0 rfl rfl rfl rfl rfl (Nat.le_of_ble_eq_true rfl) ⟨by decide, by decide⟩ ⟨by decide, by decide⟩ dX10_sure_2) hP hD hS hA [0, 1] [] rfl rfl rfl (by decide) (fun r_1 u_1 H locs hw_1 hP hD hS => ?_)
  have hr_1 := hw_1
  refine lv_cst (v := 0) hr_1 ?_
  have hP : va_P D classes [(o, .inr (10, fs)), (mn, .inl (cyI, 2, .inl fm))] H := hP
  have hD : va_D A [(o, .inr (10, fs)), (mn, .inl (cyI, 2, .inl fm))] := hD
  refine W.widen (k := 0) (n := 0) (by decide) (by decide) ?_
  refine lv_if_eq (tgt := 27) hx hb dX10_sure_5 (by decide) (fun c_2 => ?_) (fun c_2 => absurd (by decide) c_2)
  refine lv_iconst (v := (-1)) hx hb dX10_sure_27 (by decide) ?_
  exact retI hC hP hD hS (by decide) (by decide) () [] rfl rfl rfl dX10_sure_28
set_option maxHeartbeats 4000000 in
set_option maxRecDepth 100000 in
theorem k_X10_later (l : Launch) (D : va_G) (cyB cyI cyJ cyZ : ClassId) (sz : Nat) (o : Nat) (p0 : Int32) (fs : List Value) (hl_fs : fs.length = 80) (h_fs_76 : fs[76]? = some (.int 0)) : KI l yX10_later cX10_later 2 .int 1 0 0 D (TYS cyB cyI cyJ cyZ) [(o, .inr (10, fs))] sz [.ref o, .int p0] (fun (r : Int32) (u : Unit) => r = sp_later p0) (fun (u : Unit) => ([] : va_W)) := by
  refine entI (by decide) (Nat.le_of_ble_eq_true rfl) ?_
  intro p e s m below meth c ls A hC hl hP hK hD hA
  obtain ⟨hx, hb, hr, hml, hown, hts, hlk, hnm⟩ := id hC
  have hS : va_S A s.heap s.heap [] := va_S.rf
  have hl : lv_has ls 2 [(0, .ref o), (1, .int p0)] := hl
  generalize hHe : s.heap = H at hP ⊢
  rw [hHe] at hS
  have hS : va_S A s.heap H [] := by rw [hHe]; exact hS
  refine lv_iload_n hx hb dX10_later_0 rfl (lv_at hl 1 rfl) ?_
  refine lv_iconst (v := 0) hx hb dX10_later_1 (by decide) ?_
  refine lv_sipush (v := 1000) hx hb dX10_later_2 (by decide) ?_
  refine aftI (wr := [(o, .inr (10, fs))]) (runS hC hK hP hD hl.1 (k_X10_isIn l D cyB cyI cyJ cyZ H.size p0 0 1000 ) cS_X10_isIn mw_methodLink_RX10_378_yX10_isIn [] rfl rfl rfl rfl (Nat.le_of_ble_eq_true rfl) ⟨by decide, by decide⟩ ⟨by decide, by decide⟩ dX10_later_5) hP hD hS hA [] [0] rfl rfl rfl (by decide) (fun r_1 u_1 H locs hw_1 hP hD hS => ?_)
  have hr_1 := hw_1
  have hP : va_P D classes [(o, .inr (10, fs))] H := hP
  have hD : va_D A [(o, .inr (10, fs))] := hD
  refine W.widen (k := 0) (n := 0) (by decide) (by decide) ?_
  rcases hr_1 with ⟨e_1, p_1⟩ | ⟨e_1, p_1⟩
  · refine lv_cst (v := 1) e_1 ?_
    refine lv_if_eq (tgt := 23) hx hb dX10_later_8 (by decide) (fun c_2 => absurd c_2 (by decide)) (fun c_2 => ?_)
    refine lv_aload_n hx hb dX10_later_11 rfl (lv_at hl 0 rfl) ?_
    refine gf hC hK hP iX10 0 rfl rfl 76 (by decide) mw_fieldLink_RX10_524_MirrorDrillModel_time_I h_fs_76 dX10_later_12 ?_
    refine lv_iload_n hx hb dX10_later_15 rfl (lv_at hl 1 rfl) ?_
    refine lv_iadd hx hb dX10_later_16 ?_
    refine lv_cst (v := p0) (Int32.zero_add _) ?_
    refine lv_ldcw (v := 100000) hx hb hown (hts _ mw_constant_RX10_433_100000) dX10_later_17 ?_
    refine lv_icmp_le (tgt := 25) hx hb dX10_later_20 (by decide) (fun c_3 => ?_) (fun c_3 => absurd (Int32.not_lt.mp (fun h => by have z0 := p_1; have y0 : ((-1) : Int32).toInt = (-1) := (by decide); have y1 : (0 : Int32).toInt = 0 := (by decide); have y2 : (1000 : Int32).toInt = 1000 := (by decide); have y3 : (100000 : Int32).toInt = 100000 := (by decide); have zz := zt_lt h; (try rw [Int32.zero_add] at zz); omega)) c_3)
    refine lv_aload_n hx hb dX10_later_25 rfl (lv_at hl 0 rfl) ?_
    refine lv_dup hx hb dX10_later_26 rfl ?_
    refine gf hC hK hP iX10 0 rfl rfl 76 (by decide) mw_fieldLink_RX10_524_MirrorDrillModel_time_I h_fs_76 dX10_later_27 ?_
    refine lv_iload_n hx hb dX10_later_30 rfl (lv_at hl 1 rfl) ?_
    refine lv_iadd hx hb dX10_later_31 ?_
    refine lv_cst (v := p0) (Int32.zero_add _) ?_
    refine pf (v := .int p0) hC hK hP hD hS iX10 tyX10_ok nmX10 0 rfl rfl 76 (by decide) mw_fieldLink_RX10_524_MirrorDrillModel_time_I rfl rfl rfl (ln_lt hl_fs (by decide)) dX10_later_32 (fun H locs hP hD hS => ?_)
    have hP : va_P D classes [(o, .inr (10, (fs.set 76 (.int p0))))] H := hP
    have hD : va_D A [(o, .inr (10, (fs.set 76 (.int p0))))] := hD
    refine lv_aload_n hx hb dX10_later_35 rfl (lv_at hl 0 rfl) ?_
    refine gf hC hK hP iX10 0 rfl rfl 76 (by decide) mw_fieldLink_RX10_524_MirrorDrillModel_time_I (gs_eq (ln_lt hl_fs (by decide))) dX10_later_36 ?_
    exact retI hC hP hD hS (by decide) (by decide) () [] rfl rfl (by have z0 := p_1; have y0 : ((-1) : Int32).toInt = (-1) := (by decide); have y1 : (0 : Int32).toInt = 0 := (by decide); have y2 : (1000 : Int32).toInt = 1000 := (by decide); unfold sp_later; (repeat' split) <;> first | rfl | (exact Int32.zero_add _) | (exfalso; omega)) dX10_later_39
  · refine lv_cst (v := 0) e_1 ?_
    refine lv_if_eq (tgt := 23) hx hb dX10_later_8 (by decide) (fun c_4 => ?_) (fun c_4 => absurd (by decide) c_4)
    refine lv_iconst (v := (-1)) hx hb dX10_later_23 (by decide) ?_
    exact retI hC hP hD hS (by decide) (by decide) () [] rfl rfl (by have z0 := p_1; have y0 : ((-1) : Int32).toInt = (-1) := (by decide); have y1 : (0 : Int32).toInt = 0 := (by decide); have y2 : (1000 : Int32).toInt = 1000 := (by decide); unfold sp_later; (repeat' split) <;> first | rfl | (exact Int32.zero_add _) | (exfalso; omega)) dX10_later_24
set_option maxHeartbeats 4000000 in
set_option maxRecDepth 100000 in
theorem k_X10_end (l : Launch) (D : va_G) (cyB cyI cyJ cyZ : ClassId) (sz : Nat) (o : Nat) (p0 : Int32) (fs : List Value) (hl_fs : fs.length = 80) (h_fs_2 : fs[2]? = some (.int 0)) : KI l yX10_end cX10_end 2 .int 0 0 0 D (TYS cyB cyI cyJ cyZ) [(o, .inr (10, fs))] sz [.ref o, .int p0] (fun (r : Int32) (u : Unit) => r = sp_end p0) (fun (u : Unit) => ([] : va_W)) := by
  refine entI (by decide) (Nat.le_of_ble_eq_true rfl) ?_
  intro p e s m below meth c ls A hC hl hP hK hD hA
  obtain ⟨hx, hb, hr, hml, hown, hts, hlk, hnm⟩ := id hC
  have hS : va_S A s.heap s.heap [] := va_S.rf
  have hl : lv_has ls 2 [(0, .ref o), (1, .int p0)] := hl
  generalize hHe : s.heap = H at hP ⊢
  rw [hHe] at hS
  have hS : va_S A s.heap H [] := by rw [hHe]; exact hS
  refine lv_iload_n hx hb dX10_end_0 rfl (lv_at hl 1 rfl) ?_
  refine lv_if_lt (tgt := 12) hx hb dX10_end_1 (by decide) (fun c_1 => ?_) (fun c_1 => ?_)
  · refine lv_iconst (v := (-1)) hx hb dX10_end_12 (by decide) ?_
    exact retI hC hP hD hS (by decide) (by decide) () [] rfl rfl (by have z0 := zt_lt c_1; have y0 : ((-1) : Int32).toInt = (-1) := (by decide); have y1 : (0 : Int32).toInt = 0 := (by decide); unfold sp_end; (repeat' split) <;> first | rfl | (exact Int32.zero_add _) | (exact zu_eq (by omega)) | (exfalso; omega)) dX10_end_13
  · refine lv_iload_n hx hb dX10_end_4 rfl (lv_at hl 1 rfl) ?_
    refine lv_aload_n hx hb dX10_end_5 rfl (lv_at hl 0 rfl) ?_
    refine gf hC hK hP iX10 0 rfl rfl 2 (by decide) mw_fieldLink_RX10_279_MirrorDrillModel_taped_I h_fs_2 dX10_end_6 ?_
    refine lv_icmp_le (tgt := 14) hx hb dX10_end_9 (by decide) (fun c_2 => ?_) (fun c_2 => ?_)
    · refine lv_aload_n hx hb dX10_end_14 rfl (lv_at hl 0 rfl) ?_
      refine lv_iload_n hx hb dX10_end_15 rfl (lv_at hl 1 rfl) ?_
      refine pf (v := .int p0) hC hK hP hD hS iX10 tyX10_ok nmX10 0 rfl rfl 2 (by decide) mw_fieldLink_RX10_279_MirrorDrillModel_taped_I rfl rfl rfl (ln_lt hl_fs (by decide)) dX10_end_16 (fun H locs hP hD hS => ?_)
      have hP : va_P D classes [(o, .inr (10, (fs.set 2 (.int p0))))] H := hP
      have hD : va_D A [(o, .inr (10, (fs.set 2 (.int p0))))] := hD
      refine lv_iload_n hx hb dX10_end_19 rfl (lv_at hl 1 rfl) ?_
      exact retI hC hP hD hS (by decide) (by decide) () [] rfl rfl (by have z0 := zt_nlt c_1; have z1 := zt_le c_2; have y0 : ((-1) : Int32).toInt = (-1) := (by decide); have y1 : (0 : Int32).toInt = 0 := (by decide); unfold sp_end; (repeat' split) <;> first | rfl | (exact Int32.zero_add _) | (exact zu_eq (by omega)) | (exfalso; omega)) dX10_end_20
    · refine lv_iconst (v := (-1)) hx hb dX10_end_12 (by decide) ?_
      exact retI hC hP hD hS (by decide) (by decide) () [] rfl rfl (by have z0 := zt_nlt c_1; have z1 := zt_nle c_2; have y0 : ((-1) : Int32).toInt = (-1) := (by decide); have y1 : (0 : Int32).toInt = 0 := (by decide); unfold sp_end; (repeat' split) <;> first | rfl | (exact Int32.zero_add _) | (exact zu_eq (by omega)) | (exfalso; omega)) dX10_end_13
set_option maxHeartbeats 4000000 in
set_option maxRecDepth 100000 in
theorem k_X10_fault (l : Launch) (D : va_G) (cyB cyI cyJ cyZ : ClassId) (sz : Nat) (o : Nat) (p0 : Int32) (fs : List Value) (hl_fs : fs.length = 80) (h_fs_4 : fs[4]? = some (.int 0)) (h_fs_5 : fs[5]? = some (.int (-1))) : KI l yX10_fault cX10_fault 2 .int 0 0 0 D (TYS cyB cyI cyJ cyZ) [(o, .inr (10, fs))] sz [.ref o, .int p0] (fun (r : Int32) (u : Unit) => r = sp_fault p0) (fun (u : Unit) => ([] : va_W)) := by
  refine entI (by decide) (Nat.le_of_ble_eq_true rfl) ?_
  intro p e s m below meth c ls A hC hl hP hK hD hA
  obtain ⟨hx, hb, hr, hml, hown, hts, hlk, hnm⟩ := id hC
  have hS : va_S A s.heap s.heap [] := va_S.rf
  have hl : lv_has ls 2 [(0, .ref o), (1, .int p0)] := hl
  generalize hHe : s.heap = H at hP ⊢
  rw [hHe] at hS
  have hS : va_S A s.heap H [] := by rw [hHe]; exact hS
  refine lv_iload_n hx hb dX10_fault_0 rfl (lv_at hl 1 rfl) ?_
  refine lv_if_ne (tgt := 11) hx hb dX10_fault_1 (by decide) (fun c_1 => ?_) (fun c_1 => ?_)
  · refine lv_iload_n hx hb dX10_fault_11 rfl (lv_at hl 1 rfl) ?_
    refine lv_iconst (v := 1) hx hb dX10_fault_12 (by decide) ?_
    refine lv_icmp_ne (tgt := 23) hx hb dX10_fault_13 (by decide) (fun c_2 => ?_) (fun c_2 => ?_)
    · refine lv_iconst (v := (-1)) hx hb dX10_fault_23 (by decide) ?_
      exact retI hC hP hD hS (by decide) (by decide) () [] rfl rfl (by have z0 := zt_ne c_1; have z1 := zt_ne c_2; have y0 : ((-1) : Int32).toInt = (-1) := (by decide); have y1 : (0 : Int32).toInt = 0 := (by decide); have y2 : (1 : Int32).toInt = 1 := (by decide); unfold sp_fault; (repeat' split) <;> first | rfl | (exact Int32.zero_add _) | (exfalso; omega)) dX10_fault_24
    · refine lv_aload_n hx hb dX10_fault_16 rfl (lv_at hl 0 rfl) ?_
      refine gf hC hK hP iX10 0 rfl rfl 5 (by decide) mw_fieldLink_RX10_16_MirrorDrillModel_faultPlace_I h_fs_5 dX10_fault_17 ?_
      refine lv_goto (tgt := 24) hx hb dX10_fault_20 (by decide) ?_
      exact retI hC hP hD hS (by decide) (by decide) () [] rfl rfl (by have z0 := zt_ne c_1; have z1 := zt_eq c_2; have y0 : ((-1) : Int32).toInt = (-1) := (by decide); have y1 : (0 : Int32).toInt = 0 := (by decide); have y2 : (1 : Int32).toInt = 1 := (by decide); unfold sp_fault; (repeat' split) <;> first | rfl | (exact Int32.zero_add _) | (exfalso; omega)) dX10_fault_24
  · refine lv_aload_n hx hb dX10_fault_4 rfl (lv_at hl 0 rfl) ?_
    refine gf hC hK hP iX10 0 rfl rfl 4 (by decide) mw_fieldLink_RX10_186_MirrorDrillModel_faultKind_I h_fs_4 dX10_fault_5 ?_
    refine lv_goto (tgt := 24) hx hb dX10_fault_8 (by decide) ?_
    exact retI hC hP hD hS (by decide) (by decide) () [] rfl rfl (by have z0 := zt_eq c_1; have y0 : ((-1) : Int32).toInt = (-1) := (by decide); have y1 : (0 : Int32).toInt = 0 := (by decide); have y2 : (1 : Int32).toInt = 1 := (by decide); unfold sp_fault; (repeat' split) <;> first | rfl | (exact Int32.zero_add _) | (exfalso; omega)) dX10_fault_24
