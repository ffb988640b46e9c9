set_option maxHeartbeats 4000000 in
set_option maxRecDepth 100000 in
theorem law_15 {p : Program} {e : Env} {s : State} {m : MethodId} {below : List Frame} {meth : Method} {c : Code} (l : Launch) {b L : Nat} {xs : Nat → Int32} {A : Nat → Prop} {D : va_G} {cyB cyI cyJ cyZ : ClassId} (hC : Ctx p s m meth c #[Value.ref b] code 4 ret RL meth.name) (hX : va_X b L xs s s.heap) (hbl : b < s.heap.size) (hA : ∀ q, s.heap.size ≤ q → A q) (hAf : ∀ q, A q → s.heap.size ≤ q) (hbA : ¬ A b) (hK : va_K D classes (TYS cyB cyI cyJ cyZ) s) (hL : L = 6) {q1 : Nat} {fs_2 : List Value} {dd_2 : Nat} {fdd_2 : List Value} {q3 : Nat} {gs_4 : List Value} {rl_4 : Nat} {mrl_4 : Nat → Int32} (hl_fs_2 : fs_2.length = 17) (h_fs_3_2 : fs_2[3]? = some (.ref dd_2)) (hl_fdd_2 : fdd_2.length = 15) (h_fdd_2_2 : fdd_2[2]? = some (.int 0)) (hl_gs_4 : gs_4.length = 80) (h_gs_13_4 : gs_4[13]? = some (.ref rl_4)) (h_gs_37_4 : gs_4[37]? = some (.int 0)) (h_mrl_0_4 : mrl_4 0 = 0) {H : Heap} {locs : List Loc} {ls : Array Slot} (hl : lv_has ls 4 [(3, .int 0), (2, .ref q3), (1, .ref q1), (0, .ref b)]) (hP : va_P D classes [(q1, .inr (9, fs_2)), (dd_2, .inr (2, fdd_2)), (q3, .inr (10, gs_4)), (rl_4, .inl (cyI, 2, .inl mrl_4))] H) (hD : va_D A [(q1, .inr (9, fs_2)), (dd_2, .inr (2, fdd_2)), (q3, .inr (10, gs_4)), (rl_4, .inl (cyI, 2, .inl mrl_4))]) (hS : va_S A s.heap H locs) : W p l e room_1 s m #[Value.ref b] below meth c H locs 104 213925 (lw_Z below #[Value.ref b] s) (F0 m 544 ls []) := by
  obtain ⟨hx, hb, hr, hml, hown, hts, hlk, -⟩ := id hC
  refine lv_aload_n hx hb dL_law_544 rfl (lv_at hl 2 rfl) ?_
  refine lv_aload_n hx hb dL_law_545 rfl (lv_at hl 3 rfl) ?_
  refine lv_iload_n hx hb dL_law_546 rfl (lv_at hl 0 rfl) ?_
  refine lv_iconst (v := 1) hx hb dL_law_547 (by decide) ?_
  refine lv_iadd hx hb dL_law_548 ?_
  refine lv_cst (v := 1) (by decide) ?_
  refine va_sld hx hb hX hbl hbA hS (vinL hL (by decide)) dL_law_549 ?_
  refine lv_cst (v := xs 1) rfl ?_
  refine aftI (wr := [(q3, .inr (10, gs_4)), (rl_4, .inl (cyI, 2, .inl mrl_4))]) (runV hC hK hP hD hl.1 (k_X9_keeps l D cyB cyI cyJ cyZ H.size q1 (xs 1) fs_2 dd_2 fdd_2 hl_fs_2 h_fs_3_2 hl_fdd_2 h_fdd_2_2) cV_X9_keeps mw_methodLink_RL_80_yX9_keeps [0, 1] rfl rfl 0 rfl rfl rfl rfl rfl (Nat.le_of_ble_eq_true rfl) ⟨Nat.le_of_ble_eq_true rfl, Nat.le_of_ble_eq_true rfl⟩ ⟨Nat.le_of_ble_eq_true rfl, Nat.le_of_ble_eq_true rfl⟩ dL_law_550) hP hD hS hA [0, 1] [2, 3] rfl rfl rfl (by decide) (fun r_1 u_1 H locs hw_1 hP hD hS => ?_)
  have hr_1 := hw_1
  refine lv_cst (v := (-1)) hr_1 ?_
  have hP : va_P D classes [(q3, .inr (10, gs_4)), (rl_4, .inl (cyI, 2, .inl mrl_4))] H := hP
  have hD : va_D A [(q3, .inr (10, gs_4)), (rl_4, .inl (cyI, 2, .inl mrl_4))] := hD
  refine W.widen (k := 104) (n := 213925) (Nat.le_of_ble_eq_true rfl) (Nat.le_of_ble_eq_true rfl) ?_
  refine lv_aload_n hx hb dL_law_553 rfl (lv_at hl 1 rfl) ?_
  refine lv_aload_n hx hb dL_law_554 rfl (lv_at hl 3 rfl) ?_
  refine lv_iload_n hx hb dL_law_555 rfl (lv_at hl 0 rfl) ?_
  refine lv_iconst (v := 1) hx hb dL_law_556 (by decide) ?_
  refine lv_iadd hx hb dL_law_557 ?_
  refine lv_cst (v := 1) (by decide) ?_
  refine va_sld hx hb hX hbl hbA hS (vinL hL (by decide)) dL_law_558 ?_
  refine lv_cst (v := xs 1) rfl ?_
  refine aftI (wr := []) (runV hC hK hP hD hl.1 (k_X10_keeps l D cyB cyI cyJ cyZ H.size q3 (xs 1) gs_4 rl_4 mrl_4 hl_gs_4 h_gs_13_4 h_gs_37_4 h_mrl_0_4) cV_X10_keeps mw_methodLink_RL_83_yX10_keeps [0, 1] rfl rfl 0 rfl rfl rfl rfl rfl (Nat.le_of_ble_eq_true rfl) ⟨Nat.le_of_ble_eq_true rfl, Nat.le_of_ble_eq_true rfl⟩ ⟨Nat.le_of_ble_eq_true rfl, Nat.le_of_ble_eq_true rfl⟩ dL_law_559) hP hD hS hA [0, 1] [] rfl rfl rfl (by decide) (fun r_2 u_2 H locs hw_2 hP hD hS => ?_)
  have hr_2 := hw_2
  refine lv_cst (v := (-1)) hr_2 ?_
  have hP : va_P D classes [] H := hP
  have hD : va_D A [] := hD
  refine W.widen (k := 104) (n := 213925) (Nat.le_of_ble_eq_true rfl) (Nat.le_of_ble_eq_true rfl) ?_
  refine lv_icmp_eq (tgt := 989) hx hb dL_law_562 (by decide) (fun c_3 => ?_) (fun c_3 => absurd (rfl) c_3)
  refine lv_iinc (v := 6) (lv' := [(3, .int 6), (2, .ref q3), (1, .ref q1), (0, .ref b)]) hx hb dL_law_989 hl (k := 0) rfl (by decide) (by decide) rfl (fun ls hl => ?_)
  refine lv_goto (tgt := 18) hx hb dL_law_992 (by decide) ?_
  refine lv_iload_n hx hb dL_law_18 rfl (lv_at hl 0 rfl) ?_
  refine lv_aload_n hx hb dL_law_19 rfl (lv_at hl 3 rfl) ?_
  refine va_slen hx hb hX hbl hbA hS dL_law_20 ?_
  refine lv_cst (v := 6) (by rw [hL]; rfl) ?_
  refine lv_bipush (v := 6) hx hb dL_law_21 (by decide) ?_
  refine lv_isub hx hb dL_law_23 ?_
  refine lv_cst (v := 0) (by decide) ?_
  refine lv_icmp_gt (tgt := 995) hx hb dL_law_24 (by decide) (fun c_4 => ?_) (fun c_4 => absurd (by decide) c_4)
  refine lv_iconst (v := 1) hx hb dL_law_995 (by decide) ?_
  refine va_forget (fun q hq => hAf _ (hS.2.2 q hq)) ?_
  refine W.widen (k := 600000) (n := 7302250) (Nat.le_of_ble_eq_true rfl) (Nat.le_of_ble_eq_true rfl) ?_
  exact lw_ret hx hb hr hlk dL_law_996
set_option maxHeartbeats 4000000 in
set_option maxRecDepth 100000 in
theorem law_16 {p : Program} {e : Env} {s : State} {m : MethodId} {below : List Frame} {meth : Method} {c : Code} (l : Launch) {b L : Nat} {xs : Nat → Int32} {A : Nat → Prop} {D : va_G} {cyB cyI cyJ cyZ : ClassId} (hC : Ctx p s m meth c #[Value.ref b] code 4 ret RL meth.name) (hX : va_X b L xs s s.heap) (hbl : b < s.heap.size) (hA : ∀ q, s.heap.size ≤ q → A q) (hAf : ∀ q, A q → s.heap.size ≤ q) (hbA : ¬ A b) (hK : va_K D classes (TYS cyB cyI cyJ cyZ) s) (hL : L = 6) {q1 : Nat} {fs_2 : List Value} {dd_2 : Nat} {fdd_2 : List Value} {q3 : Nat} {gs_4 : List Value} {mn_4 : Nat} {mmn_4 : Nat → Int32} (hl_fs_2 : fs_2.length = 17) (h_fs_3_2 : fs_2[3]? = some (.ref dd_2)) (hl_fdd_2 : fdd_2.length = 15) (h_fdd_1_2 : fdd_2[1]? = some (.int 0)) (hl_gs_4 : gs_4.length = 80) (h_gs_12_4 : gs_4[12]? = some (.ref mn_4)) (h_gs_37_4 : gs_4[37]? = some (.int 0)) (h_mmn_0_4 : mmn_4 0 = 0) {H : Heap} {locs : List Loc} {ls : Array Slot} (hl : lv_has ls 4 [(3, .int 0), (2, .ref q3), (1, .ref q1), (0, .ref b)]) (hP : va_P D classes [(q1, .inr (9, fs_2)), (dd_2, .inr (2, fdd_2)), (q3, .inr (10, gs_4)), (mn_4, .inl (cyI, 2, .inl mmn_4))] H) (hD : va_D A [(q1, .inr (9, fs_2)), (dd_2, .inr (2, fdd_2)), (q3, .inr (10, gs_4)), (mn_4, .inl (cyI, 2, .inl mmn_4))]) (hS : va_S A s.heap H locs) : W p l e room_1 s m #[Value.ref b] below meth c H locs 104 213925 (lw_Z below #[Value.ref b] s) (F0 m 567 ls []) := by
  obtain ⟨hx, hb, hr, hml, hown, hts, hlk, -⟩ := id hC
  refine lv_aload_n hx hb dL_law_567 rfl (lv_at hl 2 rfl) ?_
  refine lv_aload_n hx hb dL_law_568 rfl (lv_at hl 3 rfl) ?_
  refine lv_iload_n hx hb dL_law_569 rfl (lv_at hl 0 rfl) ?_
  refine lv_iconst (v := 1) hx hb dL_law_570 (by decide) ?_
  refine lv_iadd hx hb dL_law_571 ?_
  refine lv_cst (v := 1) (by decide) ?_
  refine va_sld hx hb hX hbl hbA hS (vinL hL (by decide)) dL_law_572 ?_
  refine lv_cst (v := xs 1) rfl ?_
  refine lv_aload_n hx hb dL_law_573 rfl (lv_at hl 3 rfl) ?_
  refine lv_iload_n hx hb dL_law_574 rfl (lv_at hl 0 rfl) ?_
  refine lv_iconst (v := 2) hx hb dL_law_575 (by decide) ?_
  refine lv_iadd hx hb dL_law_576 ?_
  refine lv_cst (v := 2) (by decide) ?_
  refine va_sld hx hb hX hbl hbA hS (vinL hL (by decide)) dL_law_577 ?_
  refine lv_cst (v := xs 2) rfl ?_
  refine lv_aload_n hx hb dL_law_578 rfl (lv_at hl 3 rfl) ?_
  refine lv_iload_n hx hb dL_law_579 rfl (lv_at hl 0 rfl) ?_
  refine lv_iconst (v := 3) hx hb dL_law_580 (by decide) ?_
  refine lv_iadd hx hb dL_law_581 ?_
  refine lv_cst (v := 3) (by decide) ?_
  refine va_sld hx hb hX hbl hbA hS (vinL hL (by decide)) dL_law_582 ?_
  refine lv_cst (v := xs 3) rfl ?_
  refine aftI (wr := [(q3, .inr (10, gs_4)), (mn_4, .inl (cyI, 2, .inl mmn_4))]) (runV hC hK hP hD hl.1 (k_X9_spread l D cyB cyI cyJ cyZ H.size q1 (xs 1) (xs 2) (xs 3) fs_2 dd_2 fdd_2 hl_fs_2 h_fs_3_2 hl_fdd_2 h_fdd_1_2) cV_X9_spread mw_methodLink_RL_84_yX9_spread [0, 1] rfl rfl 0 rfl rfl rfl rfl rfl (Nat.le_of_ble_eq_true rfl) ⟨Nat.le_of_ble_eq_true rfl, Nat.le_of_ble_eq_true rfl⟩ ⟨Nat.le_of_ble_eq_true rfl, Nat.le_of_ble_eq_true rfl⟩ dL_law_583) hP hD hS hA [0, 1] [2, 3] rfl rfl rfl (by decide) (fun r_1 u_1 H locs hw_1 hP hD hS => ?_)
  have hr_1 := hw_1
  refine lv_cst (v := (-1)) hr_1 ?_
  have hP : va_P D classes [(q3, .inr (10, gs_4)), (mn_4, .inl (cyI, 2, .inl mmn_4))] H := hP
  have hD : va_D A [(q3, .inr (10, gs_4)), (mn_4, .inl (cyI, 2, .inl mmn_4))] := hD
  refine W.widen (k := 104) (n := 213925) (Nat.le_of_ble_eq_true rfl) (Nat.le_of_ble_eq_true rfl) ?_
  refine lv_aload_n hx hb dL_law_586 rfl (lv_at hl 1 rfl) ?_
  refine lv_aload_n hx hb dL_law_587 rfl (lv_at hl 3 rfl) ?_
  refine lv_iload_n hx hb dL_law_588 rfl (lv_at hl 0 rfl) ?_
  refine lv_iconst (v := 1) hx hb dL_law_589 (by decide) ?_
  refine lv_iadd hx hb dL_law_590 ?_
  refine lv_cst (v := 1) (by decide) ?_
  refine va_sld hx hb hX hbl hbA hS (vinL hL (by decide)) dL_law_591 ?_
  refine lv_cst (v := xs 1) rfl ?_
  refine lv_aload_n hx hb dL_law_592 rfl (lv_at hl 3 rfl) ?_
  refine lv_iload_n hx hb dL_law_593 rfl (lv_at hl 0 rfl) ?_
  refine lv_iconst (v := 2) hx hb dL_law_594 (by decide) ?_
  refine lv_iadd hx hb dL_law_595 ?_
  refine lv_cst (v := 2) (by decide) ?_
  refine va_sld hx hb hX hbl hbA hS (vinL hL (by decide)) dL_law_596 ?_
  refine lv_cst (v := xs 2) rfl ?_
  refine lv_aload_n hx hb dL_law_597 rfl (lv_at hl 3 rfl) ?_
  refine lv_iload_n hx hb dL_law_598 rfl (lv_at hl 0 rfl) ?_
  refine lv_iconst (v := 3) hx hb dL_law_599 (by decide) ?_
  refine lv_iadd hx hb dL_law_600 ?_
  refine lv_cst (v := 3) (by decide) ?_
  refine va_sld hx hb hX hbl hbA hS (vinL hL (by decide)) dL_law_601 ?_
  refine lv_cst (v := xs 3) rfl ?_
  refine aftI (wr := []) (runV hC hK hP hD hl.1 (k_X10_spread l D cyB cyI cyJ cyZ H.size q3 (xs 1) (xs 2) (xs 3) gs_4 mn_4 mmn_4 hl_gs_4 h_gs_12_4 h_gs_37_4 h_mmn_0_4) cV_X10_spread mw_methodLink_RL_88_yX10_spread [0, 1] rfl rfl 0 rfl rfl rfl rfl rfl (Nat.le_of_ble_eq_true rfl) ⟨Nat.le_of_ble_eq_true rfl, Nat.le_of_ble_eq_true rfl⟩ ⟨Nat.le_of_ble_eq_true rfl, Nat.le_of_ble_eq_true rfl⟩ dL_law_602) hP hD hS hA [0, 1] [] rfl rfl rfl (by decide) (fun r_2 u_2 H locs hw_2 hP hD hS => ?_)
  have hr_2 := hw_2
  refine lv_cst (v := (-1)) hr_2 ?_
  have hP : va_P D classes [] H := hP
  have hD : va_D A [] := hD
  refine W.widen (k := 104) (n := 213925) (Nat.le_of_ble_eq_true rfl) (Nat.le_of_ble_eq_true rfl) ?_
  refine lv_icmp_eq (tgt := 989) hx hb dL_law_605 (by decide) (fun c_3 => ?_) (fun c_3 => absurd (rfl) c_3)
  refine lv_iinc (v := 6) (lv' := [(3, .int 6), (2, .ref q3), (1, .ref q1), (0, .ref b)]) hx hb dL_law_989 hl (k := 0) rfl (by decide) (by decide) rfl (fun ls hl => ?_)
  refine lv_goto (tgt := 18) hx hb dL_law_992 (by decide) ?_
  refine lv_iload_n hx hb dL_law_18 rfl (lv_at hl 0 rfl) ?_
  refine lv_aload_n hx hb dL_law_19 rfl (lv_at hl 3 rfl) ?_
  refine va_slen hx hb hX hbl hbA hS dL_law_20 ?_
  refine lv_cst (v := 6) (by rw [hL]; rfl) ?_
  refine lv_bipush (v := 6) hx hb dL_law_21 (by decide) ?_
  refine lv_isub hx hb dL_law_23 ?_
  refine lv_cst (v := 0) (by decide) ?_
  refine lv_icmp_gt (tgt := 995) hx hb dL_law_24 (by decide) (fun c_4 => ?_) (fun c_4 => absurd (by decide) c_4)
  refine lv_iconst (v := 1) hx hb dL_law_995 (by decide) ?_
  refine va_forget (fun q hq => hAf _ (hS.2.2 q hq)) ?_
  refine W.widen (k := 600000) (n := 7302250) (Nat.le_of_ble_eq_true rfl) (Nat.le_of_ble_eq_true rfl) ?_
  exact lw_ret hx hb hr hlk dL_law_996
set_option maxHeartbeats 4000000 in
set_option maxRecDepth 100000 in
theorem law_17 {p : Program} {e : Env} {s : State} {m : MethodId} {below : List Frame} {meth : Method} {c : Code} (l : Launch) {b L : Nat} {xs : Nat → Int32} {A : Nat → Prop} {D : va_G} {cyB cyI cyJ cyZ : ClassId} (hC : Ctx p s m meth c #[Value.ref b] code 4 ret RL meth.name) (hX : va_X b L xs s s.heap) (hbl : b < s.heap.size) (hA : ∀ q, s.heap.size ≤ q → A q) (hAf : ∀ q, A q → s.heap.size ≤ q) (hbA : ¬ A b) (hK : va_K D classes (TYS cyB cyI cyJ cyZ) s) (hL : L = 6) {q1 : Nat} {fs_2 : List Value} {dd_2 : Nat} {pl_2 : Nat} {fdd_2 : List Value} {fpl_2 : List Value} {q3 : Nat} {gs_4 : List Value} {mn_4 : Nat} {mmn_4 : Nat → Int32} (hl_fs_2 : fs_2.length = 17) (h_fs_3_2 : fs_2[3]? = some (.ref dd_2)) (h_fs_10_2 : fs_2[10]? = some (.ref pl_2)) (hl_fdd_2 : fdd_2.length = 15) (h_fdd_1_2 : fdd_2[1]? = some (.int 0)) (hl_fpl_2 : fpl_2.length = 2) (hl_gs_4 : gs_4.length = 80) (h_gs_12_4 : gs_4[12]? = some (.ref mn_4)) (h_gs_37_4 : gs_4[37]? = some (.int 0)) (h_mmn_0_4 : mmn_4 0 = 0) {H : Heap} {locs : List Loc} {ls : Array Slot} (hl : lv_has ls 4 [(3, .int 0), (2, .ref q3), (1, .ref q1), (0, .ref b)]) (hP : va_P D classes [(q1, .inr (9, fs_2)), (dd_2, .inr (2, fdd_2)), (pl_2, .inr (6, fpl_2)), (q3, .inr (10, gs_4)), (mn_4, .inl (cyI, 2, .inl mmn_4))] H) (hD : va_D A [(q1, .inr (9, fs_2)), (dd_2, .inr (2, fdd_2)), (pl_2, .inr (6, fpl_2)), (q3, .inr (10, gs_4)), (mn_4, .inl (cyI, 2, .inl mmn_4))]) (hS : va_S A s.heap H locs) : W p l e room_1 s m #[Value.ref b] below meth c H locs 104 213925 (lw_Z below #[Value.ref b] s) (F0 m 610 ls []) := by
  obtain ⟨hx, hb, hr, hml, hown, hts, hlk, -⟩ := id hC
  refine lv_aload_n hx hb dL_law_610 rfl (lv_at hl 2 rfl) ?_
  refine lv_aload_n hx hb dL_law_611 rfl (lv_at hl 3 rfl) ?_
  refine lv_iload_n hx hb dL_law_612 rfl (lv_at hl 0 rfl) ?_
  refine lv_iconst (v := 1) hx hb dL_law_613 (by decide) ?_
  refine lv_iadd hx hb dL_law_614 ?_
  refine lv_cst (v := 1) (by decide) ?_
  refine va_sld hx hb hX hbl hbA hS (vinL hL (by decide)) dL_law_615 ?_
  refine lv_cst (v := xs 1) rfl ?_
  refine lv_aload_n hx hb dL_law_616 rfl (lv_at hl 3 rfl) ?_
  refine lv_iload_n hx hb dL_law_617 rfl (lv_at hl 0 rfl) ?_
  refine lv_iconst (v := 2) hx hb dL_law_618 (by decide) ?_
  refine lv_iadd hx hb dL_law_619 ?_
  refine lv_cst (v := 2) (by decide) ?_
  refine va_sld hx hb hX hbl hbA hS (vinL hL (by decide)) dL_law_620 ?_
  refine lv_cst (v := xs 2) rfl ?_
  refine lv_aload_n hx hb dL_law_621 rfl (lv_at hl 3 rfl) ?_
  refine lv_iload_n hx hb dL_law_622 rfl (lv_at hl 0 rfl) ?_
  refine lv_iconst (v := 3) hx hb dL_law_623 (by decide) ?_
  refine lv_iadd hx hb dL_law_624 ?_
  refine lv_cst (v := 3) (by decide) ?_
  refine va_sld hx hb hX hbl hbA hS (vinL hL (by decide)) dL_law_625 ?_
  refine lv_cst (v := xs 3) rfl ?_
  refine aftI (wr := [(q3, .inr (10, gs_4)), (mn_4, .inl (cyI, 2, .inl mmn_4))]) (runV hC hK hP hD hl.1 (k_X9_glint l D cyB cyI cyJ cyZ H.size q1 (xs 1) (xs 2) (xs 3) fs_2 dd_2 pl_2 fdd_2 fpl_2 hl_fs_2 h_fs_3_2 h_fs_10_2 hl_fdd_2 h_fdd_1_2 hl_fpl_2) cV_X9_glint mw_methodLink_RL_89_yX9_glint [0, 1, 2] rfl rfl 0 rfl rfl rfl rfl rfl (Nat.le_of_ble_eq_true rfl) ⟨Nat.le_of_ble_eq_true rfl, Nat.le_of_ble_eq_true rfl⟩ ⟨Nat.le_of_ble_eq_true rfl, Nat.le_of_ble_eq_true rfl⟩ dL_law_626) hP hD hS hA [0, 1, 2] [3, 4] rfl rfl rfl (by decide) (fun r_1 u_1 H locs hw_1 hP hD hS => ?_)
  have hr_1 := hw_1
  refine lv_cst (v := (-2)) hr_1 ?_
  have hP : va_P D classes [(q3, .inr (10, gs_4)), (mn_4, .inl (cyI, 2, .inl mmn_4))] H := hP
  have hD : va_D A [(q3, .inr (10, gs_4)), (mn_4, .inl (cyI, 2, .inl mmn_4))] := hD
  refine W.widen (k := 104) (n := 213925) (Nat.le_of_ble_eq_true rfl) (Nat.le_of_ble_eq_true rfl) ?_
  refine lv_aload_n hx hb dL_law_629 rfl (lv_at hl 1 rfl) ?_
  refine lv_aload_n hx hb dL_law_630 rfl (lv_at hl 3 rfl) ?_
  refine lv_iload_n hx hb dL_law_631 rfl (lv_at hl 0 rfl) ?_
  refine lv_iconst (v := 1) hx hb dL_law_632 (by decide) ?_
  refine lv_iadd hx hb dL_law_633 ?_
  refine lv_cst (v := 1) (by decide) ?_
  refine va_sld hx hb hX hbl hbA hS (vinL hL (by decide)) dL_law_634 ?_
  refine lv_cst (v := xs 1) rfl ?_
  refine lv_aload_n hx hb dL_law_635 rfl (lv_at hl 3 rfl) ?_
  refine lv_iload_n hx hb dL_law_636 rfl (lv_at hl 0 rfl) ?_
  refine lv_iconst (v := 2) hx hb dL_law_637 (by decide) ?_
  refine lv_iadd hx hb dL_law_638 ?_
  refine lv_cst (v := 2) (by decide) ?_
  refine va_sld hx hb hX hbl hbA hS (vinL hL (by decide)) dL_law_639 ?_
  refine lv_cst (v := xs 2) rfl ?_
  refine lv_aload_n hx hb dL_law_640 rfl (lv_at hl 3 rfl) ?_
  refine lv_iload_n hx hb dL_law_641 rfl (lv_at hl 0 rfl) ?_
  refine lv_iconst (v := 3) hx hb dL_law_642 (by decide) ?_
  refine lv_iadd hx hb dL_law_643 ?_
  refine lv_cst (v := 3) (by decide) ?_
  refine va_sld hx hb hX hbl hbA hS (vinL hL (by decide)) dL_law_644 ?_
  refine lv_cst (v := xs 3) rfl ?_
  refine aftI (wr := []) (runV hC hK hP hD hl.1 (k_X10_glint l D cyB cyI cyJ cyZ H.size q3 (xs 1) (xs 2) (xs 3) gs_4 mn_4 mmn_4 hl_gs_4 h_gs_12_4 h_gs_37_4 h_mmn_0_4) cV_X10_glint mw_methodLink_RL_92_yX10_glint [0, 1] rfl rfl 0 rfl rfl rfl rfl rfl (Nat.le_of_ble_eq_true rfl) ⟨Nat.le_of_ble_eq_true rfl, Nat.le_of_ble_eq_true rfl⟩ ⟨Nat.le_of_ble_eq_true rfl, Nat.le_of_ble_eq_true rfl⟩ dL_law_645) hP hD hS hA [0, 1] [] rfl rfl rfl (by decide) (fun r_2 u_2 H locs hw_2 hP hD hS => ?_)
  have hr_2 := hw_2
  refine lv_cst (v := (-2)) hr_2 ?_
  have hP : va_P D classes [] H := hP
  have hD : va_D A [] := hD
  refine W.widen (k := 104) (n := 213925) (Nat.le_of_ble_eq_true rfl) (Nat.le_of_ble_eq_true rfl) ?_
  refine lv_icmp_eq (tgt := 989) hx hb dL_law_648 (by decide) (fun c_3 => ?_) (fun c_3 => absurd (rfl) c_3)
  refine lv_iinc (v := 6) (lv' := [(3, .int 6), (2, .ref q3), (1, .ref q1), (0, .ref b)]) hx hb dL_law_989 hl (k := 0) rfl (by decide) (by decide) rfl (fun ls hl => ?_)
  refine lv_goto (tgt := 18) hx hb dL_law_992 (by decide) ?_
  refine lv_iload_n hx hb dL_law_18 rfl (lv_at hl 0 rfl) ?_
  refine lv_aload_n hx hb dL_law_19 rfl (lv_at hl 3 rfl) ?_
  refine va_slen hx hb hX hbl hbA hS dL_law_20 ?_
  refine lv_cst (v := 6) (by rw [hL]; rfl) ?_
  refine lv_bipush (v := 6) hx hb dL_law_21 (by decide) ?_
  refine lv_isub hx hb dL_law_23 ?_
  refine lv_cst (v := 0) (by decide) ?_
  refine lv_icmp_gt (tgt := 995) hx hb dL_law_24 (by decide) (fun c_4 => ?_) (fun c_4 => absurd (by decide) c_4)
  refine lv_iconst (v := 1) hx hb dL_law_995 (by decide) ?_
  refine va_forget (fun q hq => hAf _ (hS.2.2 q hq)) ?_
  refine W.widen (k := 600000) (n := 7302250) (Nat.le_of_ble_eq_true rfl) (Nat.le_of_ble_eq_true rfl) ?_
  exact lw_ret hx hb hr hlk dL_law_996
set_option maxHeartbeats 4000000 in
set_option maxRecDepth 100000 in
theorem law_18 {p : Program} {e : Env} {s : State} {m : MethodId} {below : List Frame} {meth : Method} {c : Code} (l : Launch) {b L : Nat} {xs : Nat → Int32} {A : Nat → Prop} {D : va_G} {cyB cyI cyJ cyZ : ClassId} (hC : Ctx p s m meth c #[Value.ref b] code 4 ret RL meth.name) (hX : va_X b L xs s s.heap) (hbl : b < s.heap.size) (hA : ∀ q, s.heap.size ≤ q → A q) (hAf : ∀ q, A q → s.heap.size ≤ q) (hbA : ¬ A b) (hK : va_K D classes (TYS cyB cyI cyJ cyZ) s) (hL : L = 6) {q1 : Nat} {fs_2 : List Value} {dd_2 : Nat} {pl_2 : Nat} {fdd_2 : List Value} {fpl_2 : List Value} {q3 : Nat} {gs_4 : List Value} {mn_4 : Nat} {mmn_4 : Nat → Int32} (hl_fs_2 : fs_2.length = 17) (h_fs_3_2 : fs_2[3]? = some (.ref dd_2)) (h_fs_10_2 : fs_2[10]? = some (.ref pl_2)) (hl_fdd_2 : fdd_2.length = 15) (h_fdd_1_2 : fdd_2[1]? = some (.int 0)) (hl_fpl_2 : fpl_2.length = 2) (hl_gs_4 : gs_4.length = 80) (h_gs_12_4 : gs_4[12]? = some (.ref mn_4)) (h_gs_37_4 : gs_4[37]? = some (.int 0)) (h_mmn_0_4 : mmn_4 0 = 0) {H : Heap} {locs : List Loc} {ls : Array Slot} (hl : lv_has ls 4 [(3, .int 0), (2, .ref q3), (1, .ref q1), (0, .ref b)]) (hP : va_P D classes [(q1, .inr (9, fs_2)), (dd_2, .inr (2, fdd_2)), (pl_2, .inr (6, fpl_2)), (q3, .inr (10, gs_4)), (mn_4, .inl (cyI, 2, .inl mmn_4))] H) (hD : va_D A [(q1, .inr (9, fs_2)), (dd_2, .inr (2, fdd_2)), (pl_2, .inr (6, fpl_2)), (q3, .inr (10, gs_4)), (mn_4, .inl (cyI, 2, .inl mmn_4))]) (hS : va_S A s.heap H locs) : W p l e room_1 s m #[Value.ref b] below meth c H locs 104 213925 (lw_Z below #[Value.ref b] s) (F0 m 653 ls []) := by
  obtain ⟨hx, hb, hr, hml, hown, hts, hlk, -⟩ := id hC
  refine lv_aload_n hx hb dL_law_653 rfl (lv_at hl 2 rfl) ?_
  refine lv_aload_n hx hb dL_law_654 rfl (lv_at hl 3 rfl) ?_
  refine lv_iload_n hx hb dL_law_655 rfl (lv_at hl 0 rfl) ?_
  refine lv_iconst (v := 1) hx hb dL_law_656 (by decide) ?_
  refine lv_iadd hx hb dL_law_657 ?_
  refine lv_cst (v := 1) (by decide) ?_
  refine va_sld hx hb hX hbl hbA hS (vinL hL (by decide)) dL_law_658 ?_
  refine lv_cst (v := xs 1) rfl ?_
  refine lv_aload_n hx hb dL_law_659 rfl (lv_at hl 3 rfl) ?_
  refine lv_iload_n hx hb dL_law_660 rfl (lv_at hl 0 rfl) ?_
  refine lv_iconst (v := 2) hx hb dL_law_661 (by decide) ?_
  refine lv_iadd hx hb dL_law_662 ?_
  refine lv_cst (v := 2) (by decide) ?_
  refine va_sld hx hb hX hbl hbA hS (vinL hL (by decide)) dL_law_663 ?_
  refine lv_cst (v := xs 2) rfl ?_
  refine lv_aload_n hx hb dL_law_664 rfl (lv_at hl 3 rfl) ?_
  refine lv_iload_n hx hb dL_law_665 rfl (lv_at hl 0 rfl) ?_
  refine lv_iconst (v := 3) hx hb dL_law_666 (by decide) ?_
  refine lv_iadd hx hb dL_law_667 ?_
  refine lv_cst (v := 3) (by decide) ?_
  refine va_sld hx hb hX hbl hbA hS (vinL hL (by decide)) dL_law_668 ?_
  refine lv_cst (v := xs 3) rfl ?_
  refine aftI (wr := [(q3, .inr (10, gs_4)), (mn_4, .inl (cyI, 2, .inl mmn_4))]) (runV hC hK hP hD hl.1 (k_X9_cracks l D cyB cyI cyJ cyZ H.size q1 (xs 1) (xs 2) (xs 3) fs_2 dd_2 pl_2 fdd_2 fpl_2 hl_fs_2 h_fs_3_2 h_fs_10_2 hl_fdd_2 h_fdd_1_2 hl_fpl_2) cV_X9_cracks mw_methodLink_RL_93_yX9_cracks [0, 1, 2] rfl rfl 0 rfl rfl rfl rfl rfl (Nat.le_of_ble_eq_true rfl) ⟨Nat.le_of_ble_eq_true rfl, Nat.le_of_ble_eq_true rfl⟩ ⟨Nat.le_of_ble_eq_true rfl, Nat.le_of_ble_eq_true rfl⟩ dL_law_669) hP hD hS hA [0, 1, 2] [3, 4] rfl rfl rfl (by decide) (fun r_1 u_1 H locs hw_1 hP hD hS => ?_)
  have hr_1 := hw_1
  refine lv_cst (v := (-2)) hr_1 ?_
  have hP : va_P D classes [(q3, .inr (10, gs_4)), (mn_4, .inl (cyI, 2, .inl mmn_4))] H := hP
  have hD : va_D A [(q3, .inr (10, gs_4)), (mn_4, .inl (cyI, 2, .inl mmn_4))] := hD
  refine W.widen (k := 104) (n := 213925) (Nat.le_of_ble_eq_true rfl) (Nat.le_of_ble_eq_true rfl) ?_
  refine lv_aload_n hx hb dL_law_672 rfl (lv_at hl 1 rfl) ?_
  refine lv_aload_n hx hb dL_law_673 rfl (lv_at hl 3 rfl) ?_
  refine lv_iload_n hx hb dL_law_674 rfl (lv_at hl 0 rfl) ?_
  refine lv_iconst (v := 1) hx hb dL_law_675 (by decide) ?_
  refine lv_iadd hx hb dL_law_676 ?_
  refine lv_cst (v := 1) (by decide) ?_
  refine va_sld hx hb hX hbl hbA hS (vinL hL (by decide)) dL_law_677 ?_
  refine lv_cst (v := xs 1) rfl ?_
  refine lv_aload_n hx hb dL_law_678 rfl (lv_at hl 3 rfl) ?_
  refine lv_iload_n hx hb dL_law_679 rfl (lv_at hl 0 rfl) ?_
  refine lv_iconst (v := 2) hx hb dL_law_680 (by decide) ?_
  refine lv_iadd hx hb dL_law_681 ?_
  refine lv_cst (v := 2) (by decide) ?_
  refine va_sld hx hb hX hbl hbA hS (vinL hL (by decide)) dL_law_682 ?_
  refine lv_cst (v := xs 2) rfl ?_
  refine lv_aload_n hx hb dL_law_683 rfl (lv_at hl 3 rfl) ?_
  refine lv_iload_n hx hb dL_law_684 rfl (lv_at hl 0 rfl) ?_
  refine lv_iconst (v := 3) hx hb dL_law_685 (by decide) ?_
  refine lv_iadd hx hb dL_law_686 ?_
  refine lv_cst (v := 3) (by decide) ?_
  refine va_sld hx hb hX hbl hbA hS (vinL hL (by decide)) dL_law_687 ?_
  refine lv_cst (v := xs 3) rfl ?_
  refine aftI (wr := []) (runV hC hK hP hD hl.1 (k_X10_cracks l D cyB cyI cyJ cyZ H.size q3 (xs 1) (xs 2) (xs 3) gs_4 mn_4 mmn_4 hl_gs_4 h_gs_12_4 h_gs_37_4 h_mmn_0_4) cV_X10_cracks mw_methodLink_RL_96_yX10_cracks [0, 1] rfl rfl 0 rfl rfl rfl rfl rfl (Nat.le_of_ble_eq_true rfl) ⟨Nat.le_of_ble_eq_true rfl, Nat.le_of_ble_eq_true rfl⟩ ⟨Nat.le_of_ble_eq_true rfl, Nat.le_of_ble_eq_true rfl⟩ dL_law_688) hP hD hS hA [0, 1] [] rfl rfl rfl (by decide) (fun r_2 u_2 H locs hw_2 hP hD hS => ?_)
  have hr_2 := hw_2
  refine lv_cst (v := (-2)) hr_2 ?_
  have hP : va_P D classes [] H := hP
  have hD : va_D A [] := hD
  refine W.widen (k := 104) (n := 213925) (Nat.le_of_ble_eq_true rfl) (Nat.le_of_ble_eq_true rfl) ?_
  refine lv_icmp_eq (tgt := 989) hx hb dL_law_691 (by decide) (fun c_3 => ?_) (fun c_3 => absurd (rfl) c_3)
  refine lv_iinc (v := 6) (lv' := [(3, .int 6), (2, .ref q3), (1, .ref q1), (0, .ref b)]) hx hb dL_law_989 hl (k := 0) rfl (by decide) (by decide) rfl (fun ls hl => ?_)
  refine lv_goto (tgt := 18) hx hb dL_law_992 (by decide) ?_
  refine lv_iload_n hx hb dL_law_18 rfl (lv_at hl 0 rfl) ?_
  refine lv_aload_n hx hb dL_law_19 rfl (lv_at hl 3 rfl) ?_
  refine va_slen hx hb hX hbl hbA hS dL_law_20 ?_
  refine lv_cst (v := 6) (by rw [hL]; rfl) ?_
  refine lv_bipush (v := 6) hx hb dL_law_21 (by decide) ?_
  refine lv_isub hx hb dL_law_23 ?_
  refine lv_cst (v := 0) (by decide) ?_
  refine lv_icmp_gt (tgt := 995) hx hb dL_law_24 (by decide) (fun c_4 => ?_) (fun c_4 => absurd (by decide) c_4)
  refine lv_iconst (v := 1) hx hb dL_law_995 (by decide) ?_
  refine va_forget (fun q hq => hAf _ (hS.2.2 q hq)) ?_
  refine W.widen (k := 600000) (n := 7302250) (Nat.le_of_ble_eq_true rfl) (Nat.le_of_ble_eq_true rfl) ?_
  exact lw_ret hx hb hr hlk dL_law_996
set_option maxHeartbeats 4000000 in
set_option maxRecDepth 100000 in
theorem law_19 {p : Program} {e : Env} {s : State} {m : MethodId} {below : List Frame} {meth : Method} {c : Code} (l : Launch) {b L : Nat} {xs : Nat → Int32} {A : Nat → Prop} {D : va_G} {cyB cyI cyJ cyZ : ClassId} (hC : Ctx p s m meth c #[Value.ref b] code 4 ret RL meth.name) (hX : va_X b L xs s s.heap) (hbl : b < s.heap.size) (hA : ∀ q, s.heap.size ≤ q → A q) (hAf : ∀ q, A q → s.heap.size ≤ q) (hbA : ¬ A b) (hK : va_K D classes (TYS cyB cyI cyJ cyZ) s) (hL : L = 6) {q1 : Nat} {fs_2 : List Value} {pl_2 : Nat} {fpl_2 : List Value} {q3 : Nat} {gs_4 : List Value} (hl_fs_2 : fs_2.length = 17) (h_fs_10_2 : fs_2[10]? = some (.ref pl_2)) (hl_fpl_2 : fpl_2.length = 2) (h_fpl_1_2 : fpl_2[1]? = some (.int 0)) (hl_gs_4 : gs_4.length = 80) (h_gs_60_4 : gs_4[60]? = some (.int 0)) {H : Heap} {locs : List Loc} {ls : Array Slot} (hl : lv_has ls 4 [(3, .int 0), (2, .ref q3), (1, .ref q1), (0, .ref b)]) (hP : va_P D classes [(q1, .inr (9, fs_2)), (pl_2, .inr (6, fpl_2)), (q3, .inr (10, gs_4))] H) (hD : va_D A [(q1, .inr (9, fs_2)), (pl_2, .inr (6, fpl_2)), (q3, .inr (10, gs_4))]) (hS : va_S A s.heap H locs) : W p l e room_1 s m #[Value.ref b] below meth c H locs 104 213925 (lw_Z below #[Value.ref b] s) (F0 m 696 ls []) := by
  obtain ⟨hx, hb, hr, hml, hown, hts, hlk, -⟩ := id hC
  refine lv_aload_n hx hb dL_law_696 rfl (lv_at hl 2 rfl) ?_
  refine lv_aload_n hx hb dL_law_697 rfl (lv_at hl 3 rfl) ?_
  refine lv_iload_n hx hb dL_law_698 rfl (lv_at hl 0 rfl) ?_
  refine lv_iconst (v := 1) hx hb dL_law_699 (by decide) ?_
  refine lv_iadd hx hb dL_law_700 ?_
  refine lv_cst (v := 1) (by decide) ?_
  refine va_sld hx hb hX hbl hbA hS (vinL hL (by decide)) dL_law_701 ?_
  refine lv_cst (v := xs 1) rfl ?_
  refine aftI (wr := [(q3, .inr (10, gs_4))]) (runV hC hK hP hD hl.1 (k_X9_lies l D cyB cyI cyJ cyZ H.size q1 (xs 1) fs_2 pl_2 fpl_2 hl_fs_2 h_fs_10_2 hl_fpl_2 h_fpl_1_2) cV_X9_lies mw_methodLink_RL_97_yX9_lies [0, 1] rfl rfl 0 rfl rfl rfl rfl rfl (Nat.le_of_ble_eq_true rfl) ⟨Nat.le_of_ble_eq_true rfl, Nat.le_of_ble_eq_true rfl⟩ ⟨Nat.le_of_ble_eq_true rfl, Nat.le_of_ble_eq_true rfl⟩ dL_law_702) hP hD hS hA [0, 1] [2] rfl rfl rfl (by decide) (fun r_1 u_1 H locs hw_1 hP hD hS => ?_)
  have hr_1 := hw_1
  refine lv_cst (v := (-1)) hr_1 ?_
  have hP : va_P D classes [(q3, .inr (10, gs_4))] H := hP
  have hD : va_D A [(q3, .inr (10, gs_4))] := hD
  refine W.widen (k := 104) (n := 213925) (Nat.le_of_ble_eq_true rfl) (Nat.le_of_ble_eq_true rfl) ?_
  refine lv_aload_n hx hb dL_law_705 rfl (lv_at hl 1 rfl) ?_
  refine lv_aload_n hx hb dL_law_706 rfl (lv_at hl 3 rfl) ?_
  refine lv_iload_n hx hb dL_law_707 rfl (lv_at hl 0 rfl) ?_
  refine lv_iconst (v := 1) hx hb dL_law_708 (by decide) ?_
  refine lv_iadd hx hb dL_law_709 ?_
  refine lv_cst (v := 1) (by decide) ?_
  refine va_sld hx hb hX hbl hbA hS (vinL hL (by decide)) dL_law_710 ?_
  refine lv_cst (v := xs 1) rfl ?_
  refine aftI (wr := []) (runV hC hK hP hD hl.1 (k_X10_lies l D cyB cyI cyJ cyZ H.size q3 (xs 1) gs_4 hl_gs_4 h_gs_60_4) cV_X10_lies mw_methodLink_RL_100_yX10_lies [0] rfl rfl 0 rfl rfl rfl rfl rfl (Nat.le_of_ble_eq_true rfl) ⟨Nat.le_of_ble_eq_true rfl, Nat.le_of_ble_eq_true rfl⟩ ⟨Nat.le_of_ble_eq_true rfl, Nat.le_of_ble_eq_true rfl⟩ dL_law_711) hP hD hS hA [0] [] rfl rfl rfl (by decide) (fun r_2 u_2 H locs hw_2 hP hD hS => ?_)
  have hr_2 := hw_2
  refine lv_cst (v := (-1)) hr_2 ?_
  have hP : va_P D classes [] H := hP
  have hD : va_D A [] := hD
  refine W.widen (k := 104) (n := 213925) (Nat.le_of_ble_eq_true rfl) (Nat.le_of_ble_eq_true rfl) ?_
  refine lv_icmp_eq (tgt := 989) hx hb dL_law_714 (by decide) (fun c_3 => ?_) (fun c_3 => absurd (rfl) c_3)
  refine lv_iinc (v := 6) (lv' := [(3, .int 6), (2, .ref q3), (1, .ref q1), (0, .ref b)]) hx hb dL_law_989 hl (k := 0) rfl (by decide) (by decide) rfl (fun ls hl => ?_)
  refine lv_goto (tgt := 18) hx hb dL_law_992 (by decide) ?_
  refine lv_iload_n hx hb dL_law_18 rfl (lv_at hl 0 rfl) ?_
  refine lv_aload_n hx hb dL_law_19 rfl (lv_at hl 3 rfl) ?_
  refine va_slen hx hb hX hbl hbA hS dL_law_20 ?_
  refine lv_cst (v := 6) (by rw [hL]; rfl) ?_
  refine lv_bipush (v := 6) hx hb dL_law_21 (by decide) ?_
  refine lv_isub hx hb dL_law_23 ?_
  refine lv_cst (v := 0) (by decide) ?_
  refine lv_icmp_gt (tgt := 995) hx hb dL_law_24 (by decide) (fun c_4 => ?_) (fun c_4 => absurd (by decide) c_4)
  refine lv_iconst (v := 1) hx hb dL_law_995 (by decide) ?_
  refine va_forget (fun q hq => hAf _ (hS.2.2 q hq)) ?_
  refine W.widen (k := 600000) (n := 7302250) (Nat.le_of_ble_eq_true rfl) (Nat.le_of_ble_eq_true rfl) ?_
  exact lw_ret hx hb hr hlk dL_law_996
set_option maxHeartbeats 4000000 in
set_option maxRecDepth 100000 in
theorem law_20 {p : Program} {e : Env} {s : State} {m : MethodId} {below : List Frame} {meth : Method} {c : Code} (l : Launch) {b L : Nat} {xs : Nat → Int32} {A : Nat → Prop} {D : va_G} {cyB cyI cyJ cyZ : ClassId} (hC : Ctx p s m meth c #[Value.ref b] code 4 ret RL meth.name) (hX : va_X b L xs s s.heap) (hbl : b < s.heap.size) (hA : ∀ q, s.heap.size ≤ q → A q) (hAf : ∀ q, A q → s.heap.size ≤ q) (hbA : ¬ A b) (hK : va_K D classes (TYS cyB cyI cyJ cyZ) s) (hL : L = 6) {q1 : Nat} {fs_2 : List Value} {dd_2 : Nat} {fdd_2 : List Value} {q3 : Nat} {gs_4 : List Value} {mn_4 : Nat} {mmn_4 : Nat → Int32} (hl_fs_2 : fs_2.length = 17) (h_fs_3_2 : fs_2[3]? = some (.ref dd_2)) (hl_fdd_2 : fdd_2.length = 15) (h_fdd_1_2 : fdd_2[1]? = some (.int 0)) (hl_gs_4 : gs_4.length = 80) (h_gs_12_4 : gs_4[12]? = some (.ref mn_4)) (h_gs_37_4 : gs_4[37]? = some (.int 0)) (h_mmn_0_4 : mmn_4 0 = 0) {H : Heap} {locs : List Loc} {ls : Array Slot} (hl : lv_has ls 4 [(3, .int 0), (2, .ref q3), (1, .ref q1), (0, .ref b)]) (hP : va_P D classes [(q1, .inr (9, fs_2)), (dd_2, .inr (2, fdd_2)), (q3, .inr (10, gs_4)), (mn_4, .inl (cyI, 2, .inl mmn_4))] H) (hD : va_D A [(q1, .inr (9, fs_2)), (dd_2, .inr (2, fdd_2)), (q3, .inr (10, gs_4)), (mn_4, .inl (cyI, 2, .inl mmn_4))]) (hS : va_S A s.heap H locs) : W p l e room_1 s m #[Value.ref b] below meth c H locs 104 213925 (lw_Z below #[Value.ref b] s) (F0 m 719 ls []) := by
  obtain ⟨hx, hb, hr, hml, hown, hts, hlk, -⟩ := id hC
  refine lv_aload_n hx hb dL_law_719 rfl (lv_at hl 2 rfl) ?_
  refine lv_aload_n hx hb dL_law_720 rfl (lv_at hl 3 rfl) ?_
  refine lv_iload_n hx hb dL_law_721 rfl (lv_at hl 0 rfl) ?_
  refine lv_iconst (v := 1) hx hb dL_law_722 (by decide) ?_
  refine lv_iadd hx hb dL_law_723 ?_
  refine lv_cst (v := 1) (by decide) ?_
  refine va_sld hx hb hX hbl hbA hS (vinL hL (by decide)) dL_law_724 ?_
  refine lv_cst (v := xs 1) rfl ?_
  refine lv_aload_n hx hb dL_law_725 rfl (lv_at hl 3 rfl) ?_
  refine lv_iload_n hx hb dL_law_726 rfl (lv_at hl 0 rfl) ?_
  refine lv_iconst (v := 2) hx hb dL_law_727 (by decide) ?_
  refine lv_iadd hx hb dL_law_728 ?_
  refine lv_cst (v := 2) (by decide) ?_
  refine va_sld hx hb hX hbl hbA hS (vinL hL (by decide)) dL_law_729 ?_
  refine lv_cst (v := xs 2) rfl ?_
  refine lv_aload_n hx hb dL_law_730 rfl (lv_at hl 3 rfl) ?_
  refine lv_iload_n hx hb dL_law_731 rfl (lv_at hl 0 rfl) ?_
  refine lv_iconst (v := 3) hx hb dL_law_732 (by decide) ?_
  refine lv_iadd hx hb dL_law_733 ?_
  refine lv_cst (v := 3) (by decide) ?_
  refine va_sld hx hb hX hbl hbA hS (vinL hL (by decide)) dL_law_734 ?_
  refine lv_cst (v := xs 3) rfl ?_
  refine aftI (wr := [(q3, .inr (10, gs_4)), (mn_4, .inl (cyI, 2, .inl mmn_4))]) (runV hC hK hP hD hl.1 (k_X9_sight l D cyB cyI cyJ cyZ H.size q1 (xs 1) (xs 2) (xs 3) fs_2 dd_2 fdd_2 hl_fs_2 h_fs_3_2 hl_fdd_2 h_fdd_1_2) cV_X9_sight mw_methodLink_RL_101_yX9_sight [0, 1] rfl rfl 0 rfl rfl rfl rfl rfl (Nat.le_of_ble_eq_true rfl) ⟨Nat.le_of_ble_eq_true rfl, Nat.le_of_ble_eq_true rfl⟩ ⟨Nat.le_of_ble_eq_true rfl, Nat.le_of_ble_eq_true rfl⟩ dL_law_735) hP hD hS hA [0, 1] [2, 3] rfl rfl rfl (by decide) (fun r_1 u_1 H locs hw_1 hP hD hS => ?_)
  have hr_1 := hw_1
  refine lv_cst (v := (-1)) hr_1 ?_
  have hP : va_P D classes [(q3, .inr (10, gs_4)), (mn_4, .inl (cyI, 2, .inl mmn_4))] H := hP
  have hD : va_D A [(q3, .inr (10, gs_4)), (mn_4, .inl (cyI, 2, .inl mmn_4))] := hD
  refine W.widen (k := 104) (n := 213925) (Nat.le_of_ble_eq_true rfl) (Nat.le_of_ble_eq_true rfl) ?_
  refine lv_aload_n hx hb dL_law_738 rfl (lv_at hl 1 rfl) ?_
  refine lv_aload_n hx hb dL_law_739 rfl (lv_at hl 3 rfl) ?_
  refine lv_iload_n hx hb dL_law_740 rfl (lv_at hl 0 rfl) ?_
  refine lv_iconst (v := 1) hx hb dL_law_741 (by decide) ?_
  refine lv_iadd hx hb dL_law_742 ?_
  refine lv_cst (v := 1) (by decide) ?_
  refine va_sld hx hb hX hbl hbA hS (vinL hL (by decide)) dL_law_743 ?_
  refine lv_cst (v := xs 1) rfl ?_
  refine lv_aload_n hx hb dL_law_744 rfl (lv_at hl 3 rfl) ?_
  refine lv_iload_n hx hb dL_law_745 rfl (lv_at hl 0 rfl) ?_
  refine lv_iconst (v := 2) hx hb dL_law_746 (by decide) ?_
  refine lv_iadd hx hb dL_law_747 ?_
  refine lv_cst (v := 2) (by decide) ?_
  refine va_sld hx hb hX hbl hbA hS (vinL hL (by decide)) dL_law_748 ?_
  refine lv_cst (v := xs 2) rfl ?_
  refine lv_aload_n hx hb dL_law_749 rfl (lv_at hl 3 rfl) ?_
  refine lv_iload_n hx hb dL_law_750 rfl (lv_at hl 0 rfl) ?_
  refine lv_iconst (v := 3) hx hb dL_law_751 (by decide) ?_
  refine lv_iadd hx hb dL_law_752 ?_
  refine lv_cst (v := 3) (by decide) ?_
  refine va_sld hx hb hX hbl hbA hS (vinL hL (by decide)) dL_law_753 ?_
  refine lv_cst (v := xs 3) rfl ?_
  refine aftI (wr := []) (runV hC hK hP hD hl.1 (k_X10_sight l D cyB cyI cyJ cyZ H.size q3 (xs 1) (xs 2) (xs 3) gs_4 mn_4 mmn_4 hl_gs_4 h_gs_12_4 h_gs_37_4 h_mmn_0_4) cV_X10_sight mw_methodLink_RL_104_yX10_sight [0, 1] rfl rfl 0 rfl rfl rfl rfl rfl (Nat.le_of_ble_eq_true rfl) ⟨Nat.le_of_ble_eq_true rfl, Nat.le_of_ble_eq_true rfl⟩ ⟨Nat.le_of_ble_eq_true rfl, Nat.le_of_ble_eq_true rfl⟩ dL_law_754) hP hD hS hA [0, 1] [] rfl rfl rfl (by decide) (fun r_2 u_2 H locs hw_2 hP hD hS => ?_)
  have hr_2 := hw_2
  refine lv_cst (v := (-1)) hr_2 ?_
  have hP : va_P D classes [] H := hP
  have hD : va_D A [] := hD
  refine W.widen (k := 104) (n := 213925) (Nat.le_of_ble_eq_true rfl) (Nat.le_of_ble_eq_true rfl) ?_
  refine lv_icmp_eq (tgt := 989) hx hb dL_law_757 (by decide) (fun c_3 => ?_) (fun c_3 => absurd (rfl) c_3)
  refine lv_iinc (v := 6) (lv' := [(3, .int 6), (2, .ref q3), (1, .ref q1), (0, .ref b)]) hx hb dL_law_989 hl (k := 0) rfl (by decide) (by decide) rfl (fun ls hl => ?_)
  refine lv_goto (tgt := 18) hx hb dL_law_992 (by decide) ?_
  refine lv_iload_n hx hb dL_law_18 rfl (lv_at hl 0 rfl) ?_
  refine lv_aload_n hx hb dL_law_19 rfl (lv_at hl 3 rfl) ?_
  refine va_slen hx hb hX hbl hbA hS dL_law_20 ?_
  refine lv_cst (v := 6) (by rw [hL]; rfl) ?_
  refine lv_bipush (v := 6) hx hb dL_law_21 (by decide) ?_
  refine lv_isub hx hb dL_law_23 ?_
  refine lv_cst (v := 0) (by decide) ?_
  refine lv_icmp_gt (tgt := 995) hx hb dL_law_24 (by decide) (fun c_4 => ?_) (fun c_4 => absurd (by decide) c_4)
  refine lv_iconst (v := 1) hx hb dL_law_995 (by decide) ?_
  refine va_forget (fun q hq => hAf _ (hS.2.2 q hq)) ?_
  refine W.widen (k := 600000) (n := 7302250) (Nat.le_of_ble_eq_true rfl) (Nat.le_of_ble_eq_true rfl) ?_
  exact lw_ret hx hb hr hlk dL_law_996
set_option maxHeartbeats 4000000 in
set_option maxRecDepth 100000 in
theorem law_21 {p : Program} {e : Env} {s : State} {m : MethodId} {below : List Frame} {meth : Method} {c : Code} (l : Launch) {b L : Nat} {xs : Nat → Int32} {A : Nat → Prop} {D : va_G} {cyB cyI cyJ cyZ : ClassId} (hC : Ctx p s m meth c #[Value.ref b] code 4 ret RL meth.name) (hX : va_X b L xs s s.heap) (hbl : b < s.heap.size) (hA : ∀ q, s.heap.size ≤ q → A q) (hAf : ∀ q, A q → s.heap.size ≤ q) (hbA : ¬ A b) (hK : va_K D classes (TYS cyB cyI cyJ cyZ) s) (hL : L = 6) {q1 : Nat} {fs_2 : List Value} {wt_2 : Nat} {fwt_2 : List Value} {q3 : Nat} {gs_4 : List Value} (hl_fs_2 : fs_2.length = 17) (h_fs_11_2 : fs_2[11]? = some (.int 0)) (h_fs_16_2 : fs_2[16]? = some (.ref wt_2)) (hl_fwt_2 : fwt_2.length = 17) (h_fwt_5_2 : fwt_2[5]? = some (.int 0)) (hl_gs_4 : gs_4.length = 80) (h_gs_75_4 : gs_4[75]? = some (.int 0)) {H : Heap} {locs : List Loc} {ls : Array Slot} (hl : lv_has ls 4 [(3, .int 0), (2, .ref q3), (1, .ref q1), (0, .ref b)]) (hP : va_P D classes [(q1, .inr (9, fs_2)), (wt_2, .inr (8, fwt_2)), (q3, .inr (10, gs_4))] H) (hD : va_D A [(q1, .inr (9, fs_2)), (wt_2, .inr (8, fwt_2)), (q3, .inr (10, gs_4))]) (hS : va_S A s.heap H locs) : W p l e room_1 s m #[Value.ref b] below meth c H locs 104 213925 (lw_Z below #[Value.ref b] s) (F0 m 762 ls []) := by
  obtain ⟨hx, hb, hr, hml, hown, hts, hlk, -⟩ := id hC
  refine lv_aload_n hx hb dL_law_762 rfl (lv_at hl 2 rfl) ?_
  refine lv_aload_n hx hb dL_law_763 rfl (lv_at hl 3 rfl) ?_
  refine lv_iload_n hx hb dL_law_764 rfl (lv_at hl 0 rfl) ?_
  refine lv_iconst (v := 1) hx hb dL_law_765 (by decide) ?_
  refine lv_iadd hx hb dL_law_766 ?_
  refine lv_cst (v := 1) (by decide) ?_
  refine va_sld hx hb hX hbl hbA hS (vinL hL (by decide)) dL_law_767 ?_
  refine lv_cst (v := xs 1) rfl ?_
  refine aftI (wr := [(q3, .inr (10, gs_4))]) (runV hC hK hP hD hl.1 (k_X9_untell l D cyB cyI cyJ cyZ H.size q1 (xs 1) fs_2 wt_2 fwt_2 hl_fs_2 h_fs_16_2 h_fs_11_2 hl_fwt_2 h_fwt_5_2) cV_X9_untell mw_methodLink_RL_105_yX9_untell [0, 1] rfl rfl 0 rfl rfl rfl rfl rfl (Nat.le_of_ble_eq_true rfl) ⟨Nat.le_of_ble_eq_true rfl, Nat.le_of_ble_eq_true rfl⟩ ⟨Nat.le_of_ble_eq_true rfl, Nat.le_of_ble_eq_true rfl⟩ dL_law_768) hP hD hS hA [0, 1] [2] rfl rfl rfl (by decide) (fun r_1 u_1 H locs hw_1 hP hD hS => ?_)
  have hr_1 := hw_1
  refine lv_cst (v := 0) hr_1 ?_
  have hP : va_P D classes [(q3, .inr (10, gs_4))] H := hP
  have hD : va_D A [(q3, .inr (10, gs_4))] := hD
  refine W.widen (k := 104) (n := 213925) (Nat.le_of_ble_eq_true rfl) (Nat.le_of_ble_eq_true rfl) ?_
  refine lv_aload_n hx hb dL_law_771 rfl (lv_at hl 1 rfl) ?_
  refine lv_aload_n hx hb dL_law_772 rfl (lv_at hl 3 rfl) ?_
  refine lv_iload_n hx hb dL_law_773 rfl (lv_at hl 0 rfl) ?_
  refine lv_iconst (v := 1) hx hb dL_law_774 (by decide) ?_
  refine lv_iadd hx hb dL_law_775 ?_
  refine lv_cst (v := 1) (by decide) ?_
  refine va_sld hx hb hX hbl hbA hS (vinL hL (by decide)) dL_law_776 ?_
  refine lv_cst (v := xs 1) rfl ?_
  refine aftI (wr := []) (runV hC hK hP hD hl.1 (k_X10_untell l D cyB cyI cyJ cyZ H.size q3 (xs 1) gs_4 hl_gs_4 h_gs_75_4) cV_X10_untell mw_methodLink_RL_109_yX10_untell [0] rfl rfl 0 rfl rfl rfl rfl rfl (Nat.le_of_ble_eq_true rfl) ⟨Nat.le_of_ble_eq_true rfl, Nat.le_of_ble_eq_true rfl⟩ ⟨Nat.le_of_ble_eq_true rfl, Nat.le_of_ble_eq_true rfl⟩ dL_law_777) hP hD hS hA [0] [] rfl rfl rfl (by decide) (fun r_2 u_2 H locs hw_2 hP hD hS => ?_)
  have hr_2 := hw_2
  refine lv_cst (v := 0) hr_2 ?_
  have hP : va_P D classes [] H := hP
  have hD : va_D A [] := hD
  refine W.widen (k := 104) (n := 213925) (Nat.le_of_ble_eq_true rfl) (Nat.le_of_ble_eq_true rfl) ?_
  refine lv_icmp_eq (tgt := 989) hx hb dL_law_780 (by decide) (fun c_3 => ?_) (fun c_3 => absurd (rfl) c_3)
  refine lv_iinc (v := 6) (lv' := [(3, .int 6), (2, .ref q3), (1, .ref q1), (0, .ref b)]) hx hb dL_law_989 hl (k := 0) rfl (by decide) (by decide) rfl (fun ls hl => ?_)
  refine lv_goto (tgt := 18) hx hb dL_law_992 (by decide) ?_
  refine lv_iload_n hx hb dL_law_18 rfl (lv_at hl 0 rfl) ?_
  refine lv_aload_n hx hb dL_law_19 rfl (lv_at hl 3 rfl) ?_
  refine va_slen hx hb hX hbl hbA hS dL_law_20 ?_
  refine lv_cst (v := 6) (by rw [hL]; rfl) ?_
  refine lv_bipush (v := 6) hx hb dL_law_21 (by decide) ?_
  refine lv_isub hx hb dL_law_23 ?_
  refine lv_cst (v := 0) (by decide) ?_
  refine lv_icmp_gt (tgt := 995) hx hb dL_law_24 (by decide) (fun c_4 => ?_) (fun c_4 => absurd (by decide) c_4)
  refine lv_iconst (v := 1) hx hb dL_law_995 (by decide) ?_
  refine va_forget (fun q hq => hAf _ (hS.2.2 q hq)) ?_
  refine W.widen (k := 600000) (n := 7302250) (Nat.le_of_ble_eq_true rfl) (Nat.le_of_ble_eq_true rfl) ?_
  exact lw_ret hx hb hr hlk dL_law_996
set_option maxHeartbeats 4000000 in
set_option maxRecDepth 100000 in
theorem law_22 {p : Program} {e : Env} {s : State} {m : MethodId} {below : List Frame} {meth : Method} {c : Code} (l : Launch) {b L : Nat} {xs : Nat → Int32} {A : Nat → Prop} {D : va_G} {cyB cyI cyJ cyZ : ClassId} (hC : Ctx p s m meth c #[Value.ref b] code 4 ret RL meth.name) (hX : va_X b L xs s s.heap) (hbl : b < s.heap.size) (hA : ∀ q, s.heap.size ≤ q → A q) (hAf : ∀ q, A q → s.heap.size ≤ q) (hbA : ¬ A b) (hK : va_K D classes (TYS cyB cyI cyJ cyZ) s) (hL : L = 6) {q1 : Nat} {fs_2 : List Value} {q3 : Nat} {gs_4 : List Value} (hl_fs_2 : fs_2.length = 17) (h_fs_11_2 : fs_2[11]? = some (.int 0)) (hl_gs_4 : gs_4.length = 80) (h_gs_76_4 : gs_4[76]? = some (.int 0)) {H : Heap} {locs : List Loc} {ls : Array Slot} (hl : lv_has ls 4 [(3, .int 0), (2, .ref q3), (1, .ref q1), (0, .ref b)]) (hP : va_P D classes [(q1, .inr (9, fs_2)), (q3, .inr (10, gs_4))] H) (hD : va_D A [(q1, .inr (9, fs_2)), (q3, .inr (10, gs_4))]) (hS : va_S A s.heap H locs) : W p l e room_1 s m #[Value.ref b] below meth c H locs 104 213925 (lw_Z below #[Value.ref b] s) (F0 m 785 ls []) := by
  obtain ⟨hx, hb, hr, hml, hown, hts, hlk, -⟩ := id hC
  refine lv_aload_n hx hb dL_law_785 rfl (lv_at hl 2 rfl) ?_
  refine lv_aload_n hx hb dL_law_786 rfl (lv_at hl 3 rfl) ?_
  refine lv_iload_n hx hb dL_law_787 rfl (lv_at hl 0 rfl) ?_
  refine lv_iconst (v := 1) hx hb dL_law_788 (by decide) ?_
  refine lv_iadd hx hb dL_law_789 ?_
  refine lv_cst (v := 1) (by decide) ?_
  refine va_sld hx hb hX hbl hbA hS (vinL hL (by decide)) dL_law_790 ?_
  refine lv_cst (v := xs 1) rfl ?_
  refine aftI (wr := [(q3, .inr (10, gs_4))]) (runV hC hK hP hD hl.1 (k_X9_later l D cyB cyI cyJ cyZ H.size q1 (xs 1) fs_2 hl_fs_2 h_fs_11_2) cV_X9_later mw_methodLink_RL_110_yX9_later [0] rfl rfl 0 rfl rfl rfl rfl rfl (Nat.le_of_ble_eq_true rfl) ⟨Nat.le_of_ble_eq_true rfl, Nat.le_of_ble_eq_true rfl⟩ ⟨Nat.le_of_ble_eq_true rfl, Nat.le_of_ble_eq_true rfl⟩ dL_law_791) hP hD hS hA [0] [1] rfl rfl rfl (by decide) (fun r_1 u_1 H locs hw_1 hP hD hS => ?_)
  have hr_1 := hw_1
  refine lv_cst (v := (sp_later (xs 1))) hr_1 ?_
  have hP : va_P D classes [(q3, .inr (10, gs_4))] H := hP
  have hD : va_D A [(q3, .inr (10, gs_4))] := hD
  refine W.widen (k := 104) (n := 213925) (Nat.le_of_ble_eq_true rfl) (Nat.le_of_ble_eq_true rfl) ?_
  refine lv_aload_n hx hb dL_law_794 rfl (lv_at hl 1 rfl) ?_
  refine lv_aload_n hx hb dL_law_795 rfl (lv_at hl 3 rfl) ?_
  refine lv_iload_n hx hb dL_law_796 rfl (lv_at hl 0 rfl) ?_
  refine lv_iconst (v := 1) hx hb dL_law_797 (by decide) ?_
  refine lv_iadd hx hb dL_law_798 ?_
  refine lv_cst (v := 1) (by decide) ?_
  refine va_sld hx hb hX hbl hbA hS (vinL hL (by decide)) dL_law_799 ?_
  refine lv_cst (v := xs 1) rfl ?_
  refine aftI (wr := []) (runV hC hK hP hD hl.1 (k_X10_later l D cyB cyI cyJ cyZ H.size q3 (xs 1) gs_4 hl_gs_4 h_gs_76_4) cV_X10_later mw_methodLink_RL_113_yX10_later [0] rfl rfl 0 rfl rfl rfl rfl rfl (Nat.le_of_ble_eq_true rfl) ⟨Nat.le_of_ble_eq_true rfl, Nat.le_of_ble_eq_true rfl⟩ ⟨Nat.le_of_ble_eq_true rfl, Nat.le_of_ble_eq_true rfl⟩ dL_law_800) hP hD hS hA [0] [] rfl rfl rfl (by decide) (fun r_2 u_2 H locs hw_2 hP hD hS => ?_)
  have hr_2 := hw_2
  refine lv_cst (v := (sp_later (xs 1))) hr_2 ?_
  have hP : va_P D classes [] H := hP
  have hD : va_D A [] := hD
  refine W.widen (k := 104) (n := 213925) (Nat.le_of_ble_eq_true rfl) (Nat.le_of_ble_eq_true rfl) ?_
  refine lv_icmp_eq (tgt := 989) hx hb dL_law_803 (by decide) (fun c_3 => ?_) (fun c_3 => absurd (rfl) c_3)
  refine lv_iinc (v := 6) (lv' := [(3, .int 6), (2, .ref q3), (1, .ref q1), (0, .ref b)]) hx hb dL_law_989 hl (k := 0) rfl (by decide) (by decide) rfl (fun ls hl => ?_)
  refine lv_goto (tgt := 18) hx hb dL_law_992 (by decide) ?_
  refine lv_iload_n hx hb dL_law_18 rfl (lv_at hl 0 rfl) ?_
  refine lv_aload_n hx hb dL_law_19 rfl (lv_at hl 3 rfl) ?_
  refine va_slen hx hb hX hbl hbA hS dL_law_20 ?_
  refine lv_cst (v := 6) (by rw [hL]; rfl) ?_
  refine lv_bipush (v := 6) hx hb dL_law_21 (by decide) ?_
  refine lv_isub hx hb dL_law_23 ?_
  refine lv_cst (v := 0) (by decide) ?_
  refine lv_icmp_gt (tgt := 995) hx hb dL_law_24 (by decide) (fun c_4 => ?_) (fun c_4 => absurd (by decide) c_4)
  refine lv_iconst (v := 1) hx hb dL_law_995 (by decide) ?_
  refine va_forget (fun q hq => hAf _ (hS.2.2 q hq)) ?_
  refine W.widen (k := 600000) (n := 7302250) (Nat.le_of_ble_eq_true rfl) (Nat.le_of_ble_eq_true rfl) ?_
  exact lw_ret hx hb hr hlk dL_law_996
set_option maxHeartbeats 4000000 in
set_option maxRecDepth 100000 in
theorem law_23 {p : Program} {e : Env} {s : State} {m : MethodId} {below : List Frame} {meth : Method} {c : Code} (l : Launch) {b L : Nat} {xs : Nat → Int32} {A : Nat → Prop} {D : va_G} {cyB cyI cyJ cyZ : ClassId} (hC : Ctx p s m meth c #[Value.ref b] code 4 ret RL meth.name) (hX : va_X b L xs s s.heap) (hbl : b < s.heap.size) (hA : ∀ q, s.heap.size ≤ q → A q) (hAf : ∀ q, A q → s.heap.size ≤ q) (hbA : ¬ A b) (hK : va_K D classes (TYS cyB cyI cyJ cyZ) s) (hL : L = 6) {q1 : Nat} {fs_2 : List Value} {dd_2 : Nat} {wt_2 : Nat} {fdd_2 : List Value} {fwt_2 : List Value} {q3 : Nat} {gs_4 : List Value} {mn_4 : Nat} {mmn_4 : Nat → Int32} (hl_fs_2 : fs_2.length = 17) (h_fs_3_2 : fs_2[3]? = some (.ref dd_2)) (h_fs_16_2 : fs_2[16]? = some (.ref wt_2)) (hl_fdd_2 : fdd_2.length = 15) (h_fdd_1_2 : fdd_2[1]? = some (.int 0)) (hl_fwt_2 : fwt_2.length = 17) (hl_gs_4 : gs_4.length = 80) (h_gs_12_4 : gs_4[12]? = some (.ref mn_4)) (h_gs_37_4 : gs_4[37]? = some (.int 0)) (h_mmn_0_4 : mmn_4 0 = 0) {H : Heap} {locs : List Loc} {ls : Array Slot} (hl : lv_has ls 4 [(3, .int 0), (2, .ref q3), (1, .ref q1), (0, .ref b)]) (hP : va_P D classes [(q1, .inr (9, fs_2)), (dd_2, .inr (2, fdd_2)), (wt_2, .inr (8, fwt_2)), (q3, .inr (10, gs_4)), (mn_4, .inl (cyI, 2, .inl mmn_4))] H) (hD : va_D A [(q1, .inr (9, fs_2)), (dd_2, .inr (2, fdd_2)), (wt_2, .inr (8, fwt_2)), (q3, .inr (10, gs_4)), (mn_4, .inl (cyI, 2, .inl mmn_4))]) (hS : va_S A s.heap H locs) : W p l e room_1 s m #[Value.ref b] below meth c H locs 104 213925 (lw_Z below #[Value.ref b] s) (F0 m 808 ls []) := by
  obtain ⟨hx, hb, hr, hml, hown, hts, hlk, -⟩ := id hC
  refine lv_aload_n hx hb dL_law_808 rfl (lv_at hl 2 rfl) ?_
  refine lv_aload_n hx hb dL_law_809 rfl (lv_at hl 3 rfl) ?_
  refine lv_iload_n hx hb dL_law_810 rfl (lv_at hl 0 rfl) ?_
  refine lv_iconst (v := 1) hx hb dL_law_811 (by decide) ?_
  refine lv_iadd hx hb dL_law_812 ?_
  refine lv_cst (v := 1) (by decide) ?_
  refine va_sld hx hb hX hbl hbA hS (vinL hL (by decide)) dL_law_813 ?_
  refine lv_cst (v := xs 1) rfl ?_
  refine aftI (wr := [(q3, .inr (10, gs_4)), (mn_4, .inl (cyI, 2, .inl mmn_4))]) (runV hC hK hP hD hl.1 (k_X9_unsure l D cyB cyI cyJ cyZ H.size q1 (xs 1) fs_2 dd_2 wt_2 fdd_2 fwt_2 hl_fs_2 h_fs_3_2 h_fs_16_2 hl_fdd_2 h_fdd_1_2 hl_fwt_2) cV_X9_unsure mw_methodLink_RL_114_yX9_unsure [0, 1, 2] rfl rfl 0 rfl rfl rfl rfl rfl (Nat.le_of_ble_eq_true rfl) ⟨Nat.le_of_ble_eq_true rfl, Nat.le_of_ble_eq_true rfl⟩ ⟨Nat.le_of_ble_eq_true rfl, Nat.le_of_ble_eq_true rfl⟩ dL_law_814) hP hD hS hA [0, 1, 2] [3, 4] rfl rfl rfl (by decide) (fun r_1 u_1 H locs hw_1 hP hD hS => ?_)
  have hr_1 := hw_1
  refine lv_cst (v := (sp_end (xs 1))) hr_1 ?_
  have hP : va_P D classes [(q3, .inr (10, gs_4)), (mn_4, .inl (cyI, 2, .inl mmn_4))] H := hP
  have hD : va_D A [(q3, .inr (10, gs_4)), (mn_4, .inl (cyI, 2, .inl mmn_4))] := hD
  refine W.widen (k := 104) (n := 213925) (Nat.le_of_ble_eq_true rfl) (Nat.le_of_ble_eq_true rfl) ?_
  refine lv_aload_n hx hb dL_law_817 rfl (lv_at hl 1 rfl) ?_
  refine lv_aload_n hx hb dL_law_818 rfl (lv_at hl 3 rfl) ?_
  refine lv_iload_n hx hb dL_law_819 rfl (lv_at hl 0 rfl) ?_
  refine lv_iconst (v := 1) hx hb dL_law_820 (by decide) ?_
  refine lv_iadd hx hb dL_law_821 ?_
  refine lv_cst (v := 1) (by decide) ?_
  refine va_sld hx hb hX hbl hbA hS (vinL hL (by decide)) dL_law_822 ?_
  refine lv_cst (v := xs 1) rfl ?_
  refine aftI (wr := []) (runV hC hK hP hD hl.1 (k_X10_unsure l D cyB cyI cyJ cyZ H.size q3 (xs 1) gs_4 mn_4 mmn_4 hl_gs_4 h_gs_12_4 h_gs_37_4 h_mmn_0_4) cV_X10_unsure mw_methodLink_RL_117_yX10_unsure [0, 1] rfl rfl 0 rfl rfl rfl rfl rfl (Nat.le_of_ble_eq_true rfl) ⟨Nat.le_of_ble_eq_true rfl, Nat.le_of_ble_eq_true rfl⟩ ⟨Nat.le_of_ble_eq_true rfl, Nat.le_of_ble_eq_true rfl⟩ dL_law_823) hP hD hS hA [0, 1] [] rfl rfl rfl (by decide) (fun r_2 u_2 H locs hw_2 hP hD hS => ?_)
  have hr_2 := hw_2
  refine lv_cst (v := (sp_end (xs 1))) hr_2 ?_
  have hP : va_P D classes [] H := hP
  have hD : va_D A [] := hD
  refine W.widen (k := 104) (n := 213925) (Nat.le_of_ble_eq_true rfl) (Nat.le_of_ble_eq_true rfl) ?_
  refine lv_icmp_eq (tgt := 989) hx hb dL_law_826 (by decide) (fun c_3 => ?_) (fun c_3 => absurd (rfl) c_3)
  refine lv_iinc (v := 6) (lv' := [(3, .int 6), (2, .ref q3), (1, .ref q1), (0, .ref b)]) hx hb dL_law_989 hl (k := 0) rfl (by decide) (by decide) rfl (fun ls hl => ?_)
  refine lv_goto (tgt := 18) hx hb dL_law_992 (by decide) ?_
  refine lv_iload_n hx hb dL_law_18 rfl (lv_at hl 0 rfl) ?_
  refine lv_aload_n hx hb dL_law_19 rfl (lv_at hl 3 rfl) ?_
  refine va_slen hx hb hX hbl hbA hS dL_law_20 ?_
  refine lv_cst (v := 6) (by rw [hL]; rfl) ?_
  refine lv_bipush (v := 6) hx hb dL_law_21 (by decide) ?_
  refine lv_isub hx hb dL_law_23 ?_
  refine lv_cst (v := 0) (by decide) ?_
  refine lv_icmp_gt (tgt := 995) hx hb dL_law_24 (by decide) (fun c_4 => ?_) (fun c_4 => absurd (by decide) c_4)
  refine lv_iconst (v := 1) hx hb dL_law_995 (by decide) ?_
  refine va_forget (fun q hq => hAf _ (hS.2.2 q hq)) ?_
  refine W.widen (k := 600000) (n := 7302250) (Nat.le_of_ble_eq_true rfl) (Nat.le_of_ble_eq_true rfl) ?_
  exact lw_ret hx hb hr hlk dL_law_996
set_option maxHeartbeats 4000000 in
set_option maxRecDepth 100000 in
theorem law_24 {p : Program} {e : Env} {s : State} {m : MethodId} {below : List Frame} {meth : Method} {c : Code} (l : Launch) {b L : Nat} {xs : Nat → Int32} {A : Nat → Prop} {D : va_G} {cyB cyI cyJ cyZ : ClassId} (hC : Ctx p s m meth c #[Value.ref b] code 4 ret RL meth.name) (hX : va_X b L xs s s.heap) (hbl : b < s.heap.size) (hA : ∀ q, s.heap.size ≤ q → A q) (hAf : ∀ q, A q → s.heap.size ≤ q) (hbA : ¬ A b) (hK : va_K D classes (TYS cyB cyI cyJ cyZ) s) (hL : L = 6) {q1 : Nat} {fs_2 : List Value} {dd_2 : Nat} {wt_2 : Nat} {fdd_2 : List Value} {fwt_2 : List Value} {wc_2 : Nat} {wn_2 : Nat} {wm_2 : Nat} {fwc_2 : Nat → Int64} {fwn_2 : Nat → Int64} {fwm_2 : Nat → Int32} {q3 : Nat} {gs_4 : List Value} {mn_4 : Nat} {fi_4 : Nat} {rw_4 : Nat} {sm_4 : Nat} {mmn_4 : Nat → Int32} {mfi_4 : Nat → Int32} {mrw_4 : Nat → Int32} {msm_4 : Nat → Int32} (hl_fs_2 : fs_2.length = 17) (h_fs_3_2 : fs_2[3]? = some (.ref dd_2)) (h_fs_16_2 : fs_2[16]? = some (.ref wt_2)) (hl_fdd_2 : fdd_2.length = 15) (h_fdd_1_2 : fdd_2[1]? = some (.int 0)) (h_fdd_8_2 : fdd_2[8]? = some (.long 0)) (hl_fwt_2 : fwt_2.length = 17) (h_fwt_5_2 : fwt_2[5]? = some (.int 0)) (h_fwt_7_2 : fwt_2[7]? = some (.ref wc_2)) (h_fwt_8_2 : fwt_2[8]? = some (.ref wn_2)) (h_fwt_13_2 : fwt_2[13]? = some (.int 0)) (h_fwt_16_2 : fwt_2[16]? = some (.ref wm_2)) (hl_gs_4 : gs_4.length = 80) (h_gs_12_4 : gs_4[12]? = some (.ref mn_4)) (h_gs_20_4 : gs_4[20]? = some (.ref fi_4)) (h_gs_43_4 : gs_4[43]? = some (.ref rw_4)) (h_gs_74_4 : gs_4[74]? = some (.ref sm_4)) (h_gs_37_4 : gs_4[37]? = some (.int 0)) (h_gs_75_4 : gs_4[75]? = some (.int 0)) (h_mmn_0_4 : mmn_4 0 = 0) {H : Heap} {locs : List Loc} {ls : Array Slot} (hl : lv_has ls 4 [(3, .int 0), (2, .ref q3), (1, .ref q1), (0, .ref b)]) (hP : va_P D classes [(q1, .inr (9, fs_2)), (dd_2, .inr (2, fdd_2)), (wt_2, .inr (8, fwt_2)), (wc_2, .inl (cyJ, 31, .inr (.inl fwc_2))), (wn_2, .inl (cyJ, 31, .inr (.inl fwn_2))), (wm_2, .inl (cyI, 30, .inl fwm_2)), (q3, .inr (10, gs_4)), (mn_4, .inl (cyI, 2, .inl mmn_4)), (fi_4, .inl (cyI, 60, .inl mfi_4)), (rw_4, .inl (cyI, 30, .inl mrw_4)), (sm_4, .inl (cyI, 30, .inl msm_4))] H) (hD : va_D A [(q1, .inr (9, fs_2)), (dd_2, .inr (2, fdd_2)), (wt_2, .inr (8, fwt_2)), (wc_2, .inl (cyJ, 31, .inr (.inl fwc_2))), (wn_2, .inl (cyJ, 31, .inr (.inl fwn_2))), (wm_2, .inl (cyI, 30, .inl fwm_2)), (q3, .inr (10, gs_4)), (mn_4, .inl (cyI, 2, .inl mmn_4)), (fi_4, .inl (cyI, 60, .inl mfi_4)), (rw_4, .inl (cyI, 30, .inl mrw_4)), (sm_4, .inl (cyI, 30, .inl msm_4))]) (hS : va_S A s.heap H locs) : W p l e room_1 s m #[Value.ref b] below meth c H locs 104 213925 (lw_Z below #[Value.ref b] s) (F0 m 831 ls []) := by
  obtain ⟨hx, hb, hr, hml, hown, hts, hlk, -⟩ := id hC
  refine lv_aload_n hx hb dL_law_831 rfl (lv_at hl 2 rfl) ?_
  refine lv_aload_n hx hb dL_law_832 rfl (lv_at hl 3 rfl) ?_
  refine lv_iload_n hx hb dL_law_833 rfl (lv_at hl 0 rfl) ?_
  refine lv_iconst (v := 1) hx hb dL_law_834 (by decide) ?_
  refine lv_iadd hx hb dL_law_835 ?_
  refine lv_cst (v := 1) (by decide) ?_
  refine va_sld hx hb hX hbl hbA hS (vinL hL (by decide)) dL_law_836 ?_
  refine lv_cst (v := xs 1) rfl ?_
  refine aftI (wr := [(q3, .inr (10, gs_4)), (mn_4, .inl (cyI, 2, .inl mmn_4)), (fi_4, .inl (cyI, 60, .inl mfi_4)), (rw_4, .inl (cyI, 30, .inl mrw_4)), (sm_4, .inl (cyI, 30, .inl msm_4))]) (runV hC hK hP hD hl.1 (k_X9_fits l D cyB cyI cyJ cyZ H.size q1 (xs 1) fs_2 dd_2 wt_2 fwt_2 wm_2 wc_2 wn_2 fdd_2 fwm_2 fwc_2 fwn_2 hl_fs_2 h_fs_3_2 h_fs_16_2 hl_fwt_2 h_fwt_16_2 h_fwt_7_2 h_fwt_8_2 h_fwt_5_2 h_fwt_13_2 hl_fdd_2 h_fdd_1_2 h_fdd_8_2) cV_X9_fits mw_methodLink_RL_118_yX9_fits [0, 2, 1, 5, 3, 4] rfl rfl 0 rfl rfl rfl rfl rfl (Nat.le_of_ble_eq_true rfl) ⟨Nat.le_of_ble_eq_true rfl, Nat.le_of_ble_eq_true rfl⟩ ⟨Nat.le_of_ble_eq_true rfl, Nat.le_of_ble_eq_true rfl⟩ dL_law_837) hP hD hS hA [0, 2, 1, 5, 3, 4] [6, 7, 8, 9, 10] rfl rfl rfl (by decide) (fun r_1 u_1 H locs hw_1 hP hD hS => ?_)
  have hr_1 := hw_1
  refine lv_cst (v := 1) hr_1 ?_
  have hP : va_P D classes [(q3, .inr (10, gs_4)), (mn_4, .inl (cyI, 2, .inl mmn_4)), (fi_4, .inl (cyI, 60, .inl mfi_4)), (rw_4, .inl (cyI, 30, .inl mrw_4)), (sm_4, .inl (cyI, 30, .inl msm_4))] H := hP
  have hD : va_D A [(q3, .inr (10, gs_4)), (mn_4, .inl (cyI, 2, .inl mmn_4)), (fi_4, .inl (cyI, 60, .inl mfi_4)), (rw_4, .inl (cyI, 30, .inl mrw_4)), (sm_4, .inl (cyI, 30, .inl msm_4))] := hD
  refine W.widen (k := 104) (n := 213925) (Nat.le_of_ble_eq_true rfl) (Nat.le_of_ble_eq_true rfl) ?_
  refine lv_aload_n hx hb dL_law_840 rfl (lv_at hl 1 rfl) ?_
  refine lv_aload_n hx hb dL_law_841 rfl (lv_at hl 3 rfl) ?_
  refine lv_iload_n hx hb dL_law_842 rfl (lv_at hl 0 rfl) ?_
  refine lv_iconst (v := 1) hx hb dL_law_843 (by decide) ?_
  refine lv_iadd hx hb dL_law_844 ?_
  refine lv_cst (v := 1) (by decide) ?_
  refine va_sld hx hb hX hbl hbA hS (vinL hL (by decide)) dL_law_845 ?_
  refine lv_cst (v := xs 1) rfl ?_
  refine aftI (wr := []) (runV hC hK hP hD hl.1 (k_X10_fits l D cyB cyI cyJ cyZ H.size q3 (xs 1) gs_4 rw_4 fi_4 mn_4 sm_4 mrw_4 mfi_4 mmn_4 msm_4 hl_gs_4 h_gs_43_4 h_gs_20_4 h_gs_12_4 h_gs_74_4 h_gs_37_4 h_gs_75_4 h_mmn_0_4) cV_X10_fits mw_methodLink_RL_121_yX10_fits [0, 3, 2, 1, 4] rfl rfl 0 rfl rfl rfl rfl rfl (Nat.le_of_ble_eq_true rfl) ⟨Nat.le_of_ble_eq_true rfl, Nat.le_of_ble_eq_true rfl⟩ ⟨Nat.le_of_ble_eq_true rfl, Nat.le_of_ble_eq_true rfl⟩ dL_law_846) hP hD hS hA [0, 3, 2, 1, 4] [] rfl rfl rfl (by decide) (fun r_2 u_2 H locs hw_2 hP hD hS => ?_)
  have hr_2 := hw_2
  refine lv_cst (v := 1) hr_2 ?_
  have hP : va_P D classes [] H := hP
  have hD : va_D A [] := hD
  refine W.widen (k := 104) (n := 213925) (Nat.le_of_ble_eq_true rfl) (Nat.le_of_ble_eq_true rfl) ?_
  refine lv_icmp_eq (tgt := 989) hx hb dL_law_849 (by decide) (fun c_3 => ?_) (fun c_3 => absurd (rfl) c_3)
  refine lv_iinc (v := 6) (lv' := [(3, .int 6), (2, .ref q3), (1, .ref q1), (0, .ref b)]) hx hb dL_law_989 hl (k := 0) rfl (by decide) (by decide) rfl (fun ls hl => ?_)
  refine lv_goto (tgt := 18) hx hb dL_law_992 (by decide) ?_
  refine lv_iload_n hx hb dL_law_18 rfl (lv_at hl 0 rfl) ?_
  refine lv_aload_n hx hb dL_law_19 rfl (lv_at hl 3 rfl) ?_
  refine va_slen hx hb hX hbl hbA hS dL_law_20 ?_
  refine lv_cst (v := 6) (by rw [hL]; rfl) ?_
  refine lv_bipush (v := 6) hx hb dL_law_21 (by decide) ?_
  refine lv_isub hx hb dL_law_23 ?_
  refine lv_cst (v := 0) (by decide) ?_
  refine lv_icmp_gt (tgt := 995) hx hb dL_law_24 (by decide) (fun c_4 => ?_) (fun c_4 => absurd (by decide) c_4)
  refine lv_iconst (v := 1) hx hb dL_law_995 (by decide) ?_
  refine va_forget (fun q hq => hAf _ (hS.2.2 q hq)) ?_
  refine W.widen (k := 600000) (n := 7302250) (Nat.le_of_ble_eq_true rfl) (Nat.le_of_ble_eq_true rfl) ?_
  exact lw_ret hx hb hr hlk dL_law_996
set_option maxHeartbeats 4000000 in
set_option maxRecDepth 100000 in
theorem law_25 {p : Program} {e : Env} {s : State} {m : MethodId} {below : List Frame} {meth : Method} {c : Code} (l : Launch) {b L : Nat} {xs : Nat → Int32} {A : Nat → Prop} {D : va_G} {cyB cyI cyJ cyZ : ClassId} (hC : Ctx p s m meth c #[Value.ref b] code 4 ret RL meth.name) (hX : va_X b L xs s s.heap) (hbl : b < s.heap.size) (hA : ∀ q, s.heap.size ≤ q → A q) (hAf : ∀ q, A q → s.heap.size ≤ q) (hbA : ¬ A b) (hK : va_K D classes (TYS cyB cyI cyJ cyZ) s) (hL : L = 6) {q1 : Nat} {fs_2 : List Value} {dd_2 : Nat} {fdd_2 : List Value} {q3 : Nat} {gs_4 : List Value} {mn_4 : Nat} {mmn_4 : Nat → Int32} (hl_fs_2 : fs_2.length = 17) (h_fs_3_2 : fs_2[3]? = some (.ref dd_2)) (hl_fdd_2 : fdd_2.length = 15) (h_fdd_1_2 : fdd_2[1]? = some (.int 0)) (hl_gs_4 : gs_4.length = 80) (h_gs_12_4 : gs_4[12]? = some (.ref mn_4)) (h_gs_37_4 : gs_4[37]? = some (.int 0)) (h_mmn_0_4 : mmn_4 0 = 0) {H : Heap} {locs : List Loc} {ls : Array Slot} (hl : lv_has ls 4 [(3, .int 0), (2, .ref q3), (1, .ref q1), (0, .ref b)]) (hP : va_P D classes [(q1, .inr (9, fs_2)), (dd_2, .inr (2, fdd_2)), (q3, .inr (10, gs_4)), (mn_4, .inl (cyI, 2, .inl mmn_4))] H) (hD : va_D A [(q1, .inr (9, fs_2)), (dd_2, .inr (2, fdd_2)), (q3, .inr (10, gs_4)), (mn_4, .inl (cyI, 2, .inl mmn_4))]) (hS : va_S A s.heap H locs) : W p l e room_1 s m #[Value.ref b] below meth c H locs 104 213925 (lw_Z below #[Value.ref b] s) (F0 m 854 ls []) := by
  obtain ⟨hx, hb, hr, hml, hown, hts, hlk, -⟩ := id hC
  refine lv_aload_n hx hb dL_law_854 rfl (lv_at hl 2 rfl) ?_
  refine lv_aload_n hx hb dL_law_855 rfl (lv_at hl 3 rfl) ?_
  refine lv_iload_n hx hb dL_law_856 rfl (lv_at hl 0 rfl) ?_
  refine lv_iconst (v := 1) hx hb dL_law_857 (by decide) ?_
  refine lv_iadd hx hb dL_law_858 ?_
  refine lv_cst (v := 1) (by decide) ?_
  refine va_sld hx hb hX hbl hbA hS (vinL hL (by decide)) dL_law_859 ?_
  refine lv_cst (v := xs 1) rfl ?_
  refine lv_aload_n hx hb dL_law_860 rfl (lv_at hl 3 rfl) ?_
  refine lv_iload_n hx hb dL_law_861 rfl (lv_at hl 0 rfl) ?_
  refine lv_iconst (v := 2) hx hb dL_law_862 (by decide) ?_
  refine lv_iadd hx hb dL_law_863 ?_
  refine lv_cst (v := 2) (by decide) ?_
  refine va_sld hx hb hX hbl hbA hS (vinL hL (by decide)) dL_law_864 ?_
  refine lv_cst (v := xs 2) rfl ?_
  refine aftI (wr := [(q3, .inr (10, gs_4)), (mn_4, .inl (cyI, 2, .inl mmn_4))]) (runV hC hK hP hD hl.1 (k_X9_sure l D cyB cyI cyJ cyZ H.size q1 (xs 1) (xs 2) fs_2 dd_2 fdd_2 hl_fs_2 h_fs_3_2 hl_fdd_2 h_fdd_1_2) cV_X9_sure mw_methodLink_RL_122_yX9_sure [0, 1] rfl rfl 0 rfl rfl rfl rfl rfl (Nat.le_of_ble_eq_true rfl) ⟨Nat.le_of_ble_eq_true rfl, Nat.le_of_ble_eq_true rfl⟩ ⟨Nat.le_of_ble_eq_true rfl, Nat.le_of_ble_eq_true rfl⟩ dL_law_865) hP hD hS hA [0, 1] [2, 3] rfl rfl rfl (by decide) (fun r_1 u_1 H locs hw_1 hP hD hS => ?_)
  have hr_1 := hw_1
  refine lv_cst (v := (-1)) hr_1 ?_
  have hP : va_P D classes [(q3, .inr (10, gs_4)), (mn_4, .inl (cyI, 2, .inl mmn_4))] H := hP
  have hD : va_D A [(q3, .inr (10, gs_4)), (mn_4, .inl (cyI, 2, .inl mmn_4))] := hD
  refine W.widen (k := 104) (n := 213925) (Nat.le_of_ble_eq_true rfl) (Nat.le_of_ble_eq_true rfl) ?_
  refine lv_aload_n hx hb dL_law_868 rfl (lv_at hl 1 rfl) ?_
  refine lv_aload_n hx hb dL_law_869 rfl (lv_at hl 3 rfl) ?_
  refine lv_iload_n hx hb dL_law_870 rfl (lv_at hl 0 rfl) ?_
  refine lv_iconst (v := 1) hx hb dL_law_871 (by decide) ?_
  refine lv_iadd hx hb dL_law_872 ?_
  refine lv_cst (v := 1) (by decide) ?_
  refine va_sld hx hb hX hbl hbA hS (vinL hL (by decide)) dL_law_873 ?_
  refine lv_cst (v := xs 1) rfl ?_
  refine lv_aload_n hx hb dL_law_874 rfl (lv_at hl 3 rfl) ?_
  refine lv_iload_n hx hb dL_law_875 rfl (lv_at hl 0 rfl) ?_
  refine lv_iconst (v := 2) hx hb dL_law_876 (by decide) ?_
  refine lv_iadd hx hb dL_law_877 ?_
  refine lv_cst (v := 2) (by decide) ?_
  refine va_sld hx hb hX hbl hbA hS (vinL hL (by decide)) dL_law_878 ?_
  refine lv_cst (v := xs 2) rfl ?_
  refine aftI (wr := []) (runV hC hK hP hD hl.1 (k_X10_sure l D cyB cyI cyJ cyZ H.size q3 (xs 1) (xs 2) gs_4 mn_4 mmn_4 hl_gs_4 h_gs_12_4 h_gs_37_4 h_mmn_0_4) cV_X10_sure mw_methodLink_RL_125_yX10_sure [0, 1] rfl rfl 0 rfl rfl rfl rfl rfl (Nat.le_of_ble_eq_true rfl) ⟨Nat.le_of_ble_eq_true rfl, Nat.le_of_ble_eq_true rfl⟩ ⟨Nat.le_of_ble_eq_true rfl, Nat.le_of_ble_eq_true rfl⟩ dL_law_879) hP hD hS hA [0, 1] [] rfl rfl rfl (by decide) (fun r_2 u_2 H locs hw_2 hP hD hS => ?_)
  have hr_2 := hw_2
  refine lv_cst (v := (-1)) hr_2 ?_
  have hP : va_P D classes [] H := hP
  have hD : va_D A [] := hD
  refine W.widen (k := 104) (n := 213925) (Nat.le_of_ble_eq_true rfl) (Nat.le_of_ble_eq_true rfl) ?_
  refine lv_icmp_eq (tgt := 989) hx hb dL_law_882 (by decide) (fun c_3 => ?_) (fun c_3 => absurd (rfl) c_3)
  refine lv_iinc (v := 6) (lv' := [(3, .int 6), (2, .ref q3), (1, .ref q1), (0, .ref b)]) hx hb dL_law_989 hl (k := 0) rfl (by decide) (by decide) rfl (fun ls hl => ?_)
  refine lv_goto (tgt := 18) hx hb dL_law_992 (by decide) ?_
  refine lv_iload_n hx hb dL_law_18 rfl (lv_at hl 0 rfl) ?_
  refine lv_aload_n hx hb dL_law_19 rfl (lv_at hl 3 rfl) ?_
  refine va_slen hx hb hX hbl hbA hS dL_law_20 ?_
  refine lv_cst (v := 6) (by rw [hL]; rfl) ?_
  refine lv_bipush (v := 6) hx hb dL_law_21 (by decide) ?_
  refine lv_isub hx hb dL_law_23 ?_
  refine lv_cst (v := 0) (by decide) ?_
  refine lv_icmp_gt (tgt := 995) hx hb dL_law_24 (by decide) (fun c_4 => ?_) (fun c_4 => absurd (by decide) c_4)
  refine lv_iconst (v := 1) hx hb dL_law_995 (by decide) ?_
  refine va_forget (fun q hq => hAf _ (hS.2.2 q hq)) ?_
  refine W.widen (k := 600000) (n := 7302250) (Nat.le_of_ble_eq_true rfl) (Nat.le_of_ble_eq_true rfl) ?_
  exact lw_ret hx hb hr hlk dL_law_996
set_option maxHeartbeats 4000000 in
set_option maxRecDepth 100000 in
theorem law_26 {p : Program} {e : Env} {s : State} {m : MethodId} {below : List Frame} {meth : Method} {c : Code} (l : Launch) {b L : Nat} {xs : Nat → Int32} {A : Nat → Prop} {D : va_G} {cyB cyI cyJ cyZ : ClassId} (hC : Ctx p s m meth c #[Value.ref b] code 4 ret RL meth.name) (hX : va_X b L xs s s.heap) (hbl : b < s.heap.size) (hA : ∀ q, s.heap.size ≤ q → A q) (hAf : ∀ q, A q → s.heap.size ≤ q) (hbA : ¬ A b) (hK : va_K D classes (TYS cyB cyI cyJ cyZ) s) (hL : L = 6) {q1 : Nat} {fs_2 : List Value} {dd_2 : Nat} {wt_2 : Nat} {fdd_2 : List Value} {fwt_2 : List Value} {wc_2 : Nat} {wn_2 : Nat} {fwc_2 : Nat → Int64} {fwn_2 : Nat → Int64} {q3 : Nat} {gs_4 : List Value} {mn_4 : Nat} {fi_4 : Nat} {rw_4 : Nat} {mmn_4 : Nat → Int32} {mfi_4 : Nat → Int32} {mrw_4 : Nat → Int32} (hl_fs_2 : fs_2.length = 17) (h_fs_3_2 : fs_2[3]? = some (.ref dd_2)) (h_fs_16_2 : fs_2[16]? = some (.ref wt_2)) (hl_fdd_2 : fdd_2.length = 15) (h_fdd_1_2 : fdd_2[1]? = some (.int 0)) (h_fdd_8_2 : fdd_2[8]? = some (.long 0)) (hl_fwt_2 : fwt_2.length = 17) (h_fwt_5_2 : fwt_2[5]? = some (.int 0)) (h_fwt_7_2 : fwt_2[7]? = some (.ref wc_2)) (h_fwt_8_2 : fwt_2[8]? = some (.ref wn_2)) (hl_gs_4 : gs_4.length = 80) (h_gs_12_4 : gs_4[12]? = some (.ref mn_4)) (h_gs_20_4 : gs_4[20]? = some (.ref fi_4)) (h_gs_43_4 : gs_4[43]? = some (.ref rw_4)) (h_gs_37_4 : gs_4[37]? = some (.int 0)) (h_gs_75_4 : gs_4[75]? = some (.int 0)) (h_mmn_0_4 : mmn_4 0 = 0) {H : Heap} {locs : List Loc} {ls : Array Slot} (hl : lv_has ls 4 [(3, .int 0), (2, .ref q3), (1, .ref q1), (0, .ref b)]) (hP : va_P D classes [(q1, .inr (9, fs_2)), (dd_2, .inr (2, fdd_2)), (wt_2, .inr (8, fwt_2)), (wc_2, .inl (cyJ, 31, .inr (.inl fwc_2))), (wn_2, .inl (cyJ, 31, .inr (.inl fwn_2))), (q3, .inr (10, gs_4)), (mn_4, .inl (cyI, 2, .inl mmn_4)), (fi_4, .inl (cyI, 60, .inl mfi_4)), (rw_4, .inl (cyI, 30, .inl mrw_4))] H) (hD : va_D A [(q1, .inr (9, fs_2)), (dd_2, .inr (2, fdd_2)), (wt_2, .inr (8, fwt_2)), (wc_2, .inl (cyJ, 31, .inr (.inl fwc_2))), (wn_2, .inl (cyJ, 31, .inr (.inl fwn_2))), (q3, .inr (10, gs_4)), (mn_4, .inl (cyI, 2, .inl mmn_4)), (fi_4, .inl (cyI, 60, .inl mfi_4)), (rw_4, .inl (cyI, 30, .inl mrw_4))]) (hS : va_S A s.heap H locs) : W p l e room_1 s m #[Value.ref b] below meth c H locs 104 213925 (lw_Z below #[Value.ref b] s) (F0 m 887 ls []) := by
  obtain ⟨hx, hb, hr, hml, hown, hts, hlk, -⟩ := id hC
  refine lv_aload_n hx hb dL_law_887 rfl (lv_at hl 2 rfl) ?_
  refine lv_aload_n hx hb dL_law_888 rfl (lv_at hl 3 rfl) ?_
  refine lv_iload_n hx hb dL_law_889 rfl (lv_at hl 0 rfl) ?_
  refine lv_iconst (v := 1) hx hb dL_law_890 (by decide) ?_
  refine lv_iadd hx hb dL_law_891 ?_
  refine lv_cst (v := 1) (by decide) ?_
  refine va_sld hx hb hX hbl hbA hS (vinL hL (by decide)) dL_law_892 ?_
  refine lv_cst (v := xs 1) rfl ?_
  refine lv_aload_n hx hb dL_law_893 rfl (lv_at hl 3 rfl) ?_
  refine lv_iload_n hx hb dL_law_894 rfl (lv_at hl 0 rfl) ?_
  refine lv_iconst (v := 2) hx hb dL_law_895 (by decide) ?_
  refine lv_iadd hx hb dL_law_896 ?_
  refine lv_cst (v := 2) (by decide) ?_
  refine va_sld hx hb hX hbl hbA hS (vinL hL (by decide)) dL_law_897 ?_
  refine lv_cst (v := xs 2) rfl ?_
  refine aftI (wr := [(q3, .inr (10, gs_4)), (mn_4, .inl (cyI, 2, .inl mmn_4)), (fi_4, .inl (cyI, 60, .inl mfi_4)), (rw_4, .inl (cyI, 30, .inl mrw_4))]) (runV hC hK hP hD hl.1 (k_X9_wrong l D cyB cyI cyJ cyZ H.size q1 (xs 1) (xs 2) fs_2 dd_2 wt_2 fwt_2 wc_2 wn_2 fdd_2 fwc_2 fwn_2 hl_fs_2 h_fs_3_2 h_fs_16_2 hl_fwt_2 h_fwt_7_2 h_fwt_8_2 h_fwt_5_2 hl_fdd_2 h_fdd_1_2 h_fdd_8_2) cV_X9_wrong mw_methodLink_RL_126_yX9_wrong [0, 2, 1, 3, 4] rfl rfl 0 rfl rfl rfl rfl rfl (Nat.le_of_ble_eq_true rfl) ⟨Nat.le_of_ble_eq_true rfl, Nat.le_of_ble_eq_true rfl⟩ ⟨Nat.le_of_ble_eq_true rfl, Nat.le_of_ble_eq_true rfl⟩ dL_law_898) hP hD hS hA [0, 2, 1, 3, 4] [5, 6, 7, 8] rfl rfl rfl (by decide) (fun r_1 u_1 H locs hw_1 hP hD hS => ?_)
  have hr_1 := hw_1
  refine lv_cst (v := (sp_wrong (xs 1))) hr_1 ?_
  have hP : va_P D classes [(q3, .inr (10, gs_4)), (mn_4, .inl (cyI, 2, .inl mmn_4)), (fi_4, .inl (cyI, 60, .inl mfi_4)), (rw_4, .inl (cyI, 30, .inl mrw_4))] H := hP
  have hD : va_D A [(q3, .inr (10, gs_4)), (mn_4, .inl (cyI, 2, .inl mmn_4)), (fi_4, .inl (cyI, 60, .inl mfi_4)), (rw_4, .inl (cyI, 30, .inl mrw_4))] := hD
  refine W.widen (k := 104) (n := 213925) (Nat.le_of_ble_eq_true rfl) (Nat.le_of_ble_eq_true rfl) ?_
  refine lv_aload_n hx hb dL_law_901 rfl (lv_at hl 1 rfl) ?_
  refine lv_aload_n hx hb dL_law_902 rfl (lv_at hl 3 rfl) ?_
  refine lv_iload_n hx hb dL_law_903 rfl (lv_at hl 0 rfl) ?_
  refine lv_iconst (v := 1) hx hb dL_law_904 (by decide) ?_
  refine lv_iadd hx hb dL_law_905 ?_
  refine lv_cst (v := 1) (by decide) ?_
  refine va_sld hx hb hX hbl hbA hS (vinL hL (by decide)) dL_law_906 ?_
  refine lv_cst (v := xs 1) rfl ?_
  refine lv_aload_n hx hb dL_law_907 rfl (lv_at hl 3 rfl) ?_
  refine lv_iload_n hx hb dL_law_908 rfl (lv_at hl 0 rfl) ?_
  refine lv_iconst (v := 2) hx hb dL_law_909 (by decide) ?_
  refine lv_iadd hx hb dL_law_910 ?_
  refine lv_cst (v := 2) (by decide) ?_
  refine va_sld hx hb hX hbl hbA hS (vinL hL (by decide)) dL_law_911 ?_
  refine lv_cst (v := xs 2) rfl ?_
  refine aftI (wr := []) (runV hC hK hP hD hl.1 (k_X10_wrong l D cyB cyI cyJ cyZ H.size q3 (xs 1) (xs 2) gs_4 rw_4 fi_4 mn_4 mrw_4 mfi_4 mmn_4 hl_gs_4 h_gs_43_4 h_gs_20_4 h_gs_12_4 h_gs_37_4 h_gs_75_4 h_mmn_0_4) cV_X10_wrong mw_methodLink_RL_129_yX10_wrong [0, 3, 2, 1] rfl rfl 0 rfl rfl rfl rfl rfl (Nat.le_of_ble_eq_true rfl) ⟨Nat.le_of_ble_eq_true rfl, Nat.le_of_ble_eq_true rfl⟩ ⟨Nat.le_of_ble_eq_true rfl, Nat.le_of_ble_eq_true rfl⟩ dL_law_912) hP hD hS hA [0, 3, 2, 1] [] rfl rfl rfl (by decide) (fun r_2 u_2 H locs hw_2 hP hD hS => ?_)
  have hr_2 := hw_2
  refine lv_cst (v := (sp_wrong (xs 1))) hr_2 ?_
  have hP : va_P D classes [] H := hP
  have hD : va_D A [] := hD
  refine W.widen (k := 104) (n := 213925) (Nat.le_of_ble_eq_true rfl) (Nat.le_of_ble_eq_true rfl) ?_
  refine lv_icmp_eq (tgt := 989) hx hb dL_law_915 (by decide) (fun c_3 => ?_) (fun c_3 => absurd (rfl) c_3)
  refine lv_iinc (v := 6) (lv' := [(3, .int 6), (2, .ref q3), (1, .ref q1), (0, .ref b)]) hx hb dL_law_989 hl (k := 0) rfl (by decide) (by decide) rfl (fun ls hl => ?_)
  refine lv_goto (tgt := 18) hx hb dL_law_992 (by decide) ?_
  refine lv_iload_n hx hb dL_law_18 rfl (lv_at hl 0 rfl) ?_
  refine lv_aload_n hx hb dL_law_19 rfl (lv_at hl 3 rfl) ?_
  refine va_slen hx hb hX hbl hbA hS dL_law_20 ?_
  refine lv_cst (v := 6) (by rw [hL]; rfl) ?_
  refine lv_bipush (v := 6) hx hb dL_law_21 (by decide) ?_
  refine lv_isub hx hb dL_law_23 ?_
  refine lv_cst (v := 0) (by decide) ?_
  refine lv_icmp_gt (tgt := 995) hx hb dL_law_24 (by decide) (fun c_4 => ?_) (fun c_4 => absurd (by decide) c_4)
  refine lv_iconst (v := 1) hx hb dL_law_995 (by decide) ?_
  refine va_forget (fun q hq => hAf _ (hS.2.2 q hq)) ?_
  refine W.widen (k := 600000) (n := 7302250) (Nat.le_of_ble_eq_true rfl) (Nat.le_of_ble_eq_true rfl) ?_
  exact lw_ret hx hb hr hlk dL_law_996
set_option maxHeartbeats 4000000 in
set_option maxRecDepth 100000 in
theorem law_27 {p : Program} {e : Env} {s : State} {m : MethodId} {below : List Frame} {meth : Method} {c : Code} (l : Launch) {b L : Nat} {xs : Nat → Int32} {A : Nat → Prop} {D : va_G} {cyB cyI cyJ cyZ : ClassId} (hC : Ctx p s m meth c #[Value.ref b] code 4 ret RL meth.name) (hX : va_X b L xs s s.heap) (hbl : b < s.heap.size) (hA : ∀ q, s.heap.size ≤ q → A q) (hAf : ∀ q, A q → s.heap.size ≤ q) (hbA : ¬ A b) (hK : va_K D classes (TYS cyB cyI cyJ cyZ) s) (hL : L = 6) {q1 : Nat} {fs_2 : List Value} {ea_2 : Nat} {bx_2 : Nat} {bb_2 : Nat} {fea_2 : List Value} {er_2 : Nat} {eb_2 : Nat} {fer_2 : Nat → Int64} {feb_2 : Nat → Int32} {fbx_2 : Nat → Int64} {fbb_2 : Nat → Int32} {q3 : Nat} {gs_4 : List Value} {nw_4 : Nat} {bb_4 : Nat} {br_4 : Nat} {mnw_4 : Nat → Int32} {mbb_4 : Nat → Int32} {mbr_4 : Nat → Int32} (hl_fs_2 : fs_2.length = 17) (h_fs_7_2 : fs_2[7]? = some (.ref ea_2)) (h_fs_8_2 : fs_2[8]? = some (.ref bx_2)) (h_fs_9_2 : fs_2[9]? = some (.ref bb_2)) (hl_fea_2 : fea_2.length = 4) (h_fea_0_2 : fea_2[0]? = some (.ref er_2)) (h_fea_1_2 : fea_2[1]? = some (.ref eb_2)) (h_fea_2_2 : fea_2[2]? = some (.int 0)) (h_fer_0_2 : fer_2 0 = 0) (h_feb_0_2 : feb_2 0 = 0) (hl_gs_4 : gs_4.length = 80) (h_gs_45_4 : gs_4[45]? = some (.ref nw_4)) (h_gs_78_4 : gs_4[78]? = some (.ref bb_4)) (h_gs_79_4 : gs_4[79]? = some (.ref br_4)) (h_gs_46_4 : gs_4[46]? = some (.int 0)) {H : Heap} {locs : List Loc} {ls : Array Slot} (hl : lv_has ls 4 [(3, .int 0), (2, .ref q3), (1, .ref q1), (0, .ref b)]) (hP : va_P D classes [(q1, .inr (9, fs_2)), (ea_2, .inr (3, fea_2)), (er_2, .inl (cyJ, 41, .inr (.inl fer_2))), (eb_2, .inl (cyI, 41, .inl feb_2)), (bx_2, .inl (cyJ, 3, .inr (.inl fbx_2))), (bb_2, .inl (cyI, 3, .inl fbb_2)), (q3, .inr (10, gs_4)), (nw_4, .inl (cyI, 30, .inl mnw_4)), (bb_4, .inl (cyI, 3, .inl mbb_4)), (br_4, .inl (cyI, 90, .inl mbr_4))] H) (hD : va_D A [(q1, .inr (9, fs_2)), (ea_2, .inr (3, fea_2)), (er_2, .inl (cyJ, 41, .inr (.inl fer_2))), (eb_2, .inl (cyI, 41, .inl feb_2)), (bx_2, .inl (cyJ, 3, .inr (.inl fbx_2))), (bb_2, .inl (cyI, 3, .inl fbb_2)), (q3, .inr (10, gs_4)), (nw_4, .inl (cyI, 30, .inl mnw_4)), (bb_4, .inl (cyI, 3, .inl mbb_4)), (br_4, .inl (cyI, 90, .inl mbr_4))]) (hS : va_S A s.heap H locs) : W p l e room_1 s m #[Value.ref b] below meth c H locs 104 213925 (lw_Z below #[Value.ref b] s) (F0 m 920 ls []) := by
  obtain ⟨hx, hb, hr, hml, hown, hts, hlk, -⟩ := id hC
  refine lv_aload_n hx hb dL_law_920 rfl (lv_at hl 2 rfl) ?_
  refine lv_aload_n hx hb dL_law_921 rfl (lv_at hl 3 rfl) ?_
  refine lv_iload_n hx hb dL_law_922 rfl (lv_at hl 0 rfl) ?_
  refine lv_iconst (v := 1) hx hb dL_law_923 (by decide) ?_
  refine lv_iadd hx hb dL_law_924 ?_
  refine lv_cst (v := 1) (by decide) ?_
  refine va_sld hx hb hX hbl hbA hS (vinL hL (by decide)) dL_law_925 ?_
  refine lv_cst (v := xs 1) rfl ?_
  refine aftI (wr := [(q3, .inr (10, gs_4)), (nw_4, .inl (cyI, 30, .inl mnw_4)), (bb_4, .inl (cyI, 3, .inl mbb_4)), (br_4, .inl (cyI, 90, .inl mbr_4))]) (runV hC hK hP hD hl.1 (k_X9_image l D cyB cyI cyJ cyZ H.size q1 (xs 1) fs_2 ea_2 bx_2 bb_2 fea_2 er_2 eb_2 fer_2 feb_2 fbx_2 fbb_2 hl_fs_2 h_fs_7_2 h_fs_8_2 h_fs_9_2 hl_fea_2 h_fea_0_2 h_fea_1_2 h_fea_2_2 h_fer_0_2 h_feb_0_2) cV_X9_image mw_methodLink_RL_130_yX9_image [0, 1, 2, 3, 4, 5] rfl rfl 0 rfl rfl rfl rfl rfl (Nat.le_of_ble_eq_true rfl) ⟨Nat.le_of_ble_eq_true rfl, Nat.le_of_ble_eq_true rfl⟩ ⟨Nat.le_of_ble_eq_true rfl, Nat.le_of_ble_eq_true rfl⟩ dL_law_926) hP hD hS hA [0, 1, 2, 3, 4, 5] [6, 7, 8, 9] rfl rfl rfl (by decide) (fun r_1 u_1 H locs hw_1 hP hD hS => ?_)
  have hr_1 := hw_1
  refine lv_cst (v := (sp_image (xs 1))) hr_1 ?_
  have hP : va_P D classes [(q3, .inr (10, gs_4)), (nw_4, .inl (cyI, 30, .inl mnw_4)), (bb_4, .inl (cyI, 3, .inl mbb_4)), (br_4, .inl (cyI, 90, .inl mbr_4))] H := hP
  have hD : va_D A [(q3, .inr (10, gs_4)), (nw_4, .inl (cyI, 30, .inl mnw_4)), (bb_4, .inl (cyI, 3, .inl mbb_4)), (br_4, .inl (cyI, 90, .inl mbr_4))] := hD
  refine W.widen (k := 104) (n := 213925) (Nat.le_of_ble_eq_true rfl) (Nat.le_of_ble_eq_true rfl) ?_
  refine lv_aload_n hx hb dL_law_929 rfl (lv_at hl 1 rfl) ?_
  refine lv_aload_n hx hb dL_law_930 rfl (lv_at hl 3 rfl) ?_
  refine lv_iload_n hx hb dL_law_931 rfl (lv_at hl 0 rfl) ?_
  refine lv_iconst (v := 1) hx hb dL_law_932 (by decide) ?_
  refine lv_iadd hx hb dL_law_933 ?_
  refine lv_cst (v := 1) (by decide) ?_
  refine va_sld hx hb hX hbl hbA hS (vinL hL (by decide)) dL_law_934 ?_
  refine lv_cst (v := xs 1) rfl ?_
  refine aftI (wr := []) (runV hC hK hP hD hl.1 (k_X10_image l D cyB cyI cyJ cyZ H.size q3 (xs 1) gs_4 br_4 nw_4 bb_4 mbr_4 mnw_4 mbb_4 hl_gs_4 h_gs_79_4 h_gs_45_4 h_gs_78_4 h_gs_46_4) cV_X10_image mw_methodLink_RL_133_yX10_image [0, 3, 1, 2] rfl rfl 0 rfl rfl rfl rfl rfl (Nat.le_of_ble_eq_true rfl) ⟨Nat.le_of_ble_eq_true rfl, Nat.le_of_ble_eq_true rfl⟩ ⟨Nat.le_of_ble_eq_true rfl, Nat.le_of_ble_eq_true rfl⟩ dL_law_935) hP hD hS hA [0, 3, 1, 2] [] rfl rfl rfl (by decide) (fun r_2 u_2 H locs hw_2 hP hD hS => ?_)
  have hr_2 := hw_2
  refine lv_cst (v := (sp_image (xs 1))) hr_2 ?_
  have hP : va_P D classes [] H := hP
  have hD : va_D A [] := hD
  refine W.widen (k := 104) (n := 213925) (Nat.le_of_ble_eq_true rfl) (Nat.le_of_ble_eq_true rfl) ?_
  refine lv_icmp_eq (tgt := 989) hx hb dL_law_938 (by decide) (fun c_3 => ?_) (fun c_3 => absurd (rfl) c_3)
  refine lv_iinc (v := 6) (lv' := [(3, .int 6), (2, .ref q3), (1, .ref q1), (0, .ref b)]) hx hb dL_law_989 hl (k := 0) rfl (by decide) (by decide) rfl (fun ls hl => ?_)
  refine lv_goto (tgt := 18) hx hb dL_law_992 (by decide) ?_
  refine lv_iload_n hx hb dL_law_18 rfl (lv_at hl 0 rfl) ?_
  refine lv_aload_n hx hb dL_law_19 rfl (lv_at hl 3 rfl) ?_
  refine va_slen hx hb hX hbl hbA hS dL_law_20 ?_
  refine lv_cst (v := 6) (by rw [hL]; rfl) ?_
  refine lv_bipush (v := 6) hx hb dL_law_21 (by decide) ?_
  refine lv_isub hx hb dL_law_23 ?_
  refine lv_cst (v := 0) (by decide) ?_
  refine lv_icmp_gt (tgt := 995) hx hb dL_law_24 (by decide) (fun c_4 => ?_) (fun c_4 => absurd (by decide) c_4)
  refine lv_iconst (v := 1) hx hb dL_law_995 (by decide) ?_
  refine va_forget (fun q hq => hAf _ (hS.2.2 q hq)) ?_
  refine W.widen (k := 600000) (n := 7302250) (Nat.le_of_ble_eq_true rfl) (Nat.le_of_ble_eq_true rfl) ?_
  exact lw_ret hx hb hr hlk dL_law_996
set_option maxHeartbeats 4000000 in
set_option maxRecDepth 100000 in
theorem law_28 {p : Program} {e : Env} {s : State} {m : MethodId} {below : List Frame} {meth : Method} {c : Code} (l : Launch) {b L : Nat} {xs : Nat → Int32} {A : Nat → Prop} {D : va_G} {cyB cyI cyJ cyZ : ClassId} (hC : Ctx p s m meth c #[Value.ref b] code 4 ret RL meth.name) (hX : va_X b L xs s s.heap) (hbl : b < s.heap.size) (hA : ∀ q, s.heap.size ≤ q → A q) (hAf : ∀ q, A q → s.heap.size ≤ q) (hbA : ¬ A b) (hK : va_K D classes (TYS cyB cyI cyJ cyZ) s) (hL : L = 6) {q1 : Nat} {fs_2 : List Value} {bb_2 : Nat} {fbb_2 : Nat → Int32} {q3 : Nat} {gs_4 : List Value} {bb_4 : Nat} {mbb_4 : Nat → Int32} (hl_fs_2 : fs_2.length = 17) (h_fs_9_2 : fs_2[9]? = some (.ref bb_2)) (h_fbb_0_2 : fbb_2 0 = (-1)) (h_fbb_1_2 : fbb_2 1 = (-1)) (h_fbb_2_2 : fbb_2 2 = (-1)) (hl_gs_4 : gs_4.length = 80) (h_gs_78_4 : gs_4[78]? = some (.ref bb_4)) (h_mbb_0_4 : mbb_4 0 = (-1)) (h_mbb_1_4 : mbb_4 1 = (-1)) (h_mbb_2_4 : mbb_4 2 = (-1)) {H : Heap} {locs : List Loc} {ls : Array Slot} (hl : lv_has ls 4 [(3, .int 0), (2, .ref q3), (1, .ref q1), (0, .ref b)]) (hP : va_P D classes [(q1, .inr (9, fs_2)), (bb_2, .inl (cyI, 3, .inl fbb_2)), (q3, .inr (10, gs_4)), (bb_4, .inl (cyI, 3, .inl mbb_4))] H) (hD : va_D A [(q1, .inr (9, fs_2)), (bb_2, .inl (cyI, 3, .inl fbb_2)), (q3, .inr (10, gs_4)), (bb_4, .inl (cyI, 3, .inl mbb_4))]) (hS : va_S A s.heap H locs) : W p l e room_1 s m #[Value.ref b] below meth c H locs 104 213925 (lw_Z below #[Value.ref b] s) (F0 m 943 ls []) := by
  obtain ⟨hx, hb, hr, hml, hown, hts, hlk, -⟩ := id hC
  refine lv_aload_n hx hb dL_law_943 rfl (lv_at hl 2 rfl) ?_
  refine lv_aload_n hx hb dL_law_944 rfl (lv_at hl 3 rfl) ?_
  refine lv_iload_n hx hb dL_law_945 rfl (lv_at hl 0 rfl) ?_
  refine lv_iconst (v := 1) hx hb dL_law_946 (by decide) ?_
  refine lv_iadd hx hb dL_law_947 ?_
  refine lv_cst (v := 1) (by decide) ?_
  refine va_sld hx hb hX hbl hbA hS (vinL hL (by decide)) dL_law_948 ?_
  refine lv_cst (v := xs 1) rfl ?_
  refine aftI (wr := [(q3, .inr (10, gs_4)), (bb_4, .inl (cyI, 3, .inl mbb_4))]) (runV hC hK hP hD hl.1 (k_X9_back l D cyB cyI cyJ cyZ H.size q1 (xs 1) fs_2 bb_2 fbb_2 hl_fs_2 h_fs_9_2 h_fbb_0_2 h_fbb_1_2 h_fbb_2_2) cV_X9_back mw_methodLink_RL_134_yX9_back [0, 1] rfl rfl 0 rfl rfl rfl rfl rfl (Nat.le_of_ble_eq_true rfl) ⟨Nat.le_of_ble_eq_true rfl, Nat.le_of_ble_eq_true rfl⟩ ⟨Nat.le_of_ble_eq_true rfl, Nat.le_of_ble_eq_true rfl⟩ dL_law_949) hP hD hS hA [0, 1] [2, 3] rfl rfl rfl (by decide) (fun r_1 u_1 H locs hw_1 hP hD hS => ?_)
  have hr_1 := hw_1
  refine lv_cst (v := (-1)) hr_1 ?_
  have hP : va_P D classes [(q3, .inr (10, gs_4)), (bb_4, .inl (cyI, 3, .inl mbb_4))] H := hP
  have hD : va_D A [(q3, .inr (10, gs_4)), (bb_4, .inl (cyI, 3, .inl mbb_4))] := hD
  refine W.widen (k := 104) (n := 213925) (Nat.le_of_ble_eq_true rfl) (Nat.le_of_ble_eq_true rfl) ?_
  refine lv_aload_n hx hb dL_law_952 rfl (lv_at hl 1 rfl) ?_
  refine lv_aload_n hx hb dL_law_953 rfl (lv_at hl 3 rfl) ?_
  refine lv_iload_n hx hb dL_law_954 rfl (lv_at hl 0 rfl) ?_
  refine lv_iconst (v := 1) hx hb dL_law_955 (by decide) ?_
  refine lv_iadd hx hb dL_law_956 ?_
  refine lv_cst (v := 1) (by decide) ?_
  refine va_sld hx hb hX hbl hbA hS (vinL hL (by decide)) dL_law_957 ?_
  refine lv_cst (v := xs 1) rfl ?_
  refine aftI (wr := []) (runV hC hK hP hD hl.1 (k_X10_back l D cyB cyI cyJ cyZ H.size q3 (xs 1) gs_4 bb_4 mbb_4 hl_gs_4 h_gs_78_4 h_mbb_0_4 h_mbb_1_4 h_mbb_2_4) cV_X10_back mw_methodLink_RL_137_yX10_back [0, 1] rfl rfl 0 rfl rfl rfl rfl rfl (Nat.le_of_ble_eq_true rfl) ⟨Nat.le_of_ble_eq_true rfl, Nat.le_of_ble_eq_true rfl⟩ ⟨Nat.le_of_ble_eq_true rfl, Nat.le_of_ble_eq_true rfl⟩ dL_law_958) hP hD hS hA [0, 1] [] rfl rfl rfl (by decide) (fun r_2 u_2 H locs hw_2 hP hD hS => ?_)
  have hr_2 := hw_2
  refine lv_cst (v := (-1)) hr_2 ?_
  have hP : va_P D classes [] H := hP
  have hD : va_D A [] := hD
  refine W.widen (k := 104) (n := 213925) (Nat.le_of_ble_eq_true rfl) (Nat.le_of_ble_eq_true rfl) ?_
  refine lv_icmp_eq (tgt := 989) hx hb dL_law_961 (by decide) (fun c_3 => ?_) (fun c_3 => absurd (rfl) c_3)
  refine lv_iinc (v := 6) (lv' := [(3, .int 6), (2, .ref q3), (1, .ref q1), (0, .ref b)]) hx hb dL_law_989 hl (k := 0) rfl (by decide) (by decide) rfl (fun ls hl => ?_)
  refine lv_goto (tgt := 18) hx hb dL_law_992 (by decide) ?_
  refine lv_iload_n hx hb dL_law_18 rfl (lv_at hl 0 rfl) ?_
  refine lv_aload_n hx hb dL_law_19 rfl (lv_at hl 3 rfl) ?_
  refine va_slen hx hb hX hbl hbA hS dL_law_20 ?_
  refine lv_cst (v := 6) (by rw [hL]; rfl) ?_
  refine lv_bipush (v := 6) hx hb dL_law_21 (by decide) ?_
  refine lv_isub hx hb dL_law_23 ?_
  refine lv_cst (v := 0) (by decide) ?_
  refine lv_icmp_gt (tgt := 995) hx hb dL_law_24 (by decide) (fun c_4 => ?_) (fun c_4 => absurd (by decide) c_4)
  refine lv_iconst (v := 1) hx hb dL_law_995 (by decide) ?_
  refine va_forget (fun q hq => hAf _ (hS.2.2 q hq)) ?_
  refine W.widen (k := 600000) (n := 7302250) (Nat.le_of_ble_eq_true rfl) (Nat.le_of_ble_eq_true rfl) ?_
  exact lw_ret hx hb hr hlk dL_law_996
set_option maxHeartbeats 4000000 in
set_option maxRecDepth 100000 in
theorem law_29 {p : Program} {e : Env} {s : State} {m : MethodId} {below : List Frame} {meth : Method} {c : Code} (l : Launch) {b L : Nat} {xs : Nat → Int32} {A : Nat → Prop} {D : va_G} {cyB cyI cyJ cyZ : ClassId} (hC : Ctx p s m meth c #[Value.ref b] code 4 ret RL meth.name) (hX : va_X b L xs s s.heap) (hbl : b < s.heap.size) (hA : ∀ q, s.heap.size ≤ q → A q) (hAf : ∀ q, A q → s.heap.size ≤ q) (hbA : ¬ A b) (hK : va_K D classes (TYS cyB cyI cyJ cyZ) s) (hL : L = 6) {q1 : Nat} {fs_2 : List Value} {dd_2 : Nat} {ea_2 : Nat} {pl_2 : Nat} {wt_2 : Nat} {fdd_2 : List Value} {fea_2 : List Value} {eb_2 : Nat} {feb_2 : Nat → Int32} {fpl_2 : List Value} {fwt_2 : List Value} {q3 : Nat} {gs_4 : List Value} {mv_4 : Nat} {mn_4 : Nat} {rl_4 : Nat} {uo_4 : Nat} {rg_4 : Nat} {mmv_4 : Nat → Int32} {mmn_4 : Nat → Int32} {mrl_4 : Nat → Int32} {muo_4 : Nat → Int32} {mrg_4 : Nat → Int32} (hl_fs_2 : fs_2.length = 17) (h_fs_1_2 : fs_2[1]? = some (.int 0)) (h_fs_3_2 : fs_2[3]? = some (.ref dd_2)) (h_fs_7_2 : fs_2[7]? = some (.ref ea_2)) (h_fs_10_2 : fs_2[10]? = some (.ref pl_2)) (h_fs_11_2 : fs_2[11]? = some (.int 0)) (h_fs_16_2 : fs_2[16]? = some (.ref wt_2)) (hl_fdd_2 : fdd_2.length = 15) (h_fdd_0_2 : fdd_2[0]? = some (.int 2)) (h_fdd_1_2 : fdd_2[1]? = some (.int 0)) (h_fdd_2_2 : fdd_2[2]? = some (.int 0)) (h_fdd_3_2 : fdd_2[3]? = some (.int 0)) (h_fdd_5_2 : fdd_2[5]? = some (.int 0)) (hl_fea_2 : fea_2.length = 4) (h_fea_1_2 : fea_2[1]? = some (.ref eb_2)) (h_fea_2_2 : fea_2[2]? = some (.int 0)) (h_fea_3_2 : fea_2[3]? = some (.int 0)) (h_feb_0_2 : feb_2 0 = 0) (hl_fpl_2 : fpl_2.length = 2) (h_fpl_1_2 : fpl_2[1]? = some (.int 0)) (hl_fwt_2 : fwt_2.length = 17) (h_fwt_5_2 : fwt_2[5]? = some (.int 0)) (h_fwt_6_2 : fwt_2[6]? = some (.int 0)) (hl_gs_4 : gs_4.length = 80) (h_gs_11_4 : gs_4[11]? = some (.ref mv_4)) (h_gs_12_4 : gs_4[12]? = some (.ref mn_4)) (h_gs_13_4 : gs_4[13]? = some (.ref rl_4)) (h_gs_14_4 : gs_4[14]? = some (.ref uo_4)) (h_gs_25_4 : gs_4[25]? = some (.ref rg_4)) (h_gs_2_4 : gs_4[2]? = some (.int 0)) (h_gs_37_4 : gs_4[37]? = some (.int 0)) (h_gs_46_4 : gs_4[46]? = some (.int 0)) (h_gs_51_4 : gs_4[51]? = some (.int 0)) (h_gs_52_4 : gs_4[52]? = some (.int 0)) (h_gs_60_4 : gs_4[60]? = some (.int 0)) (h_gs_75_4 : gs_4[75]? = some (.int 0)) (h_gs_76_4 : gs_4[76]? = some (.int 0)) (h_gs_77_4 : gs_4[77]? = some (.int 0)) (h_mmv_0_4 : mmv_4 0 = 2) (h_mmn_0_4 : mmn_4 0 = 0) (h_mrl_0_4 : mrl_4 0 = 0) (h_muo_0_4 : muo_4 0 = 0) (h_mrg_0_4 : mrg_4 0 = 0) {H : Heap} {locs : List Loc} {ls : Array Slot} (hl : lv_has ls 4 [(3, .int 0), (2, .ref q3), (1, .ref q1), (0, .ref b)]) (hP : va_P D classes [(q1, .inr (9, fs_2)), (dd_2, .inr (2, fdd_2)), (ea_2, .inr (3, fea_2)), (eb_2, .inl (cyI, 41, .inl feb_2)), (pl_2, .inr (6, fpl_2)), (wt_2, .inr (8, fwt_2)), (q3, .inr (10, gs_4)), (mv_4, .inl (cyI, 2, .inl mmv_4)), (mn_4, .inl (cyI, 2, .inl mmn_4)), (rl_4, .inl (cyI, 2, .inl mrl_4)), (uo_4, .inl (cyI, 2, .inl muo_4)), (rg_4, .inl (cyZ, 2, .inl mrg_4))] H) (hD : va_D A [(q1, .inr (9, fs_2)), (dd_2, .inr (2, fdd_2)), (ea_2, .inr (3, fea_2)), (eb_2, .inl (cyI, 41, .inl feb_2)), (pl_2, .inr (6, fpl_2)), (wt_2, .inr (8, fwt_2)), (q3, .inr (10, gs_4)), (mv_4, .inl (cyI, 2, .inl mmv_4)), (mn_4, .inl (cyI, 2, .inl mmn_4)), (rl_4, .inl (cyI, 2, .inl mrl_4)), (uo_4, .inl (cyI, 2, .inl muo_4)), (rg_4, .inl (cyZ, 2, .inl mrg_4))]) (hS : va_S A s.heap H locs) : W p l e room_1 s m #[Value.ref b] below meth c H locs 104 213925 (lw_Z below #[Value.ref b] s) (F0 m 966 ls []) := by
  obtain ⟨hx, hb, hr, hml, hown, hts, hlk, -⟩ := id hC
  refine lv_aload_n hx hb dL_law_966 rfl (lv_at hl 2 rfl) ?_
  refine lv_aload_n hx hb dL_law_967 rfl (lv_at hl 3 rfl) ?_
  refine lv_iload_n hx hb dL_law_968 rfl (lv_at hl 0 rfl) ?_
  refine lv_iconst (v := 1) hx hb dL_law_969 (by decide) ?_
  refine lv_iadd hx hb dL_law_970 ?_
  refine lv_cst (v := 1) (by decide) ?_
  refine va_sld hx hb hX hbl hbA hS (vinL hL (by decide)) dL_law_971 ?_
  refine lv_cst (v := xs 1) rfl ?_
  refine aftI (wr := [(q3, .inr (10, gs_4)), (mv_4, .inl (cyI, 2, .inl mmv_4)), (mn_4, .inl (cyI, 2, .inl mmn_4)), (rl_4, .inl (cyI, 2, .inl mrl_4)), (uo_4, .inl (cyI, 2, .inl muo_4)), (rg_4, .inl (cyZ, 2, .inl mrg_4))]) (runV hC hK hP hD hl.1 (k_X9_about l D cyB cyI cyJ cyZ H.size q1 (xs 1) fs_2 dd_2 ea_2 pl_2 wt_2 fdd_2 fea_2 eb_2 feb_2 fpl_2 fwt_2 hl_fs_2 h_fs_3_2 h_fs_7_2 h_fs_10_2 h_fs_16_2 h_fs_11_2 h_fs_1_2 hl_fdd_2 h_fdd_0_2 h_fdd_1_2 h_fdd_2_2 h_fdd_3_2 h_fdd_5_2 hl_fea_2 h_fea_1_2 h_fea_2_2 h_fea_3_2 h_feb_0_2 hl_fpl_2 h_fpl_1_2 hl_fwt_2 h_fwt_5_2 h_fwt_6_2) cV_X9_about mw_methodLink_RL_138_yX9_about [0, 1, 2, 3, 4, 5] rfl rfl 0 rfl rfl rfl rfl rfl (Nat.le_of_ble_eq_true rfl) ⟨Nat.le_of_ble_eq_true rfl, Nat.le_of_ble_eq_true rfl⟩ ⟨Nat.le_of_ble_eq_true rfl, Nat.le_of_ble_eq_true rfl⟩ dL_law_972) hP hD hS hA [0, 1, 2, 3, 4, 5] [6, 7, 8, 9, 10, 11] rfl rfl rfl (by decide) (fun r_1 u_1 H locs hw_1 hP hD hS => ?_)
  have hr_1 := hw_1
  refine lv_cst (v := (sp_about (xs 1))) hr_1 ?_
  have hP : va_P D classes [(q3, .inr (10, gs_4)), (mv_4, .inl (cyI, 2, .inl mmv_4)), (mn_4, .inl (cyI, 2, .inl mmn_4)), (rl_4, .inl (cyI, 2, .inl mrl_4)), (uo_4, .inl (cyI, 2, .inl muo_4)), (rg_4, .inl (cyZ, 2, .inl mrg_4))] H := hP
  have hD : va_D A [(q3, .inr (10, gs_4)), (mv_4, .inl (cyI, 2, .inl mmv_4)), (mn_4, .inl (cyI, 2, .inl mmn_4)), (rl_4, .inl (cyI, 2, .inl mrl_4)), (uo_4, .inl (cyI, 2, .inl muo_4)), (rg_4, .inl (cyZ, 2, .inl mrg_4))] := hD
  refine W.widen (k := 104) (n := 213925) (Nat.le_of_ble_eq_true rfl) (Nat.le_of_ble_eq_true rfl) ?_
  refine lv_aload_n hx hb dL_law_975 rfl (lv_at hl 1 rfl) ?_
  refine lv_aload_n hx hb dL_law_976 rfl (lv_at hl 3 rfl) ?_
  refine lv_iload_n hx hb dL_law_977 rfl (lv_at hl 0 rfl) ?_
  refine lv_iconst (v := 1) hx hb dL_law_978 (by decide) ?_
  refine lv_iadd hx hb dL_law_979 ?_
  refine lv_cst (v := 1) (by decide) ?_
  refine va_sld hx hb hX hbl hbA hS (vinL hL (by decide)) dL_law_980 ?_
  refine lv_cst (v := xs 1) rfl ?_
  refine aftI (wr := []) (runV hC hK hP hD hl.1 (k_X10_about l D cyB cyI cyJ cyZ H.size q3 (xs 1) gs_4 mn_4 mv_4 rl_4 uo_4 rg_4 mmn_4 mmv_4 mrl_4 muo_4 mrg_4 hl_gs_4 h_gs_12_4 h_gs_11_4 h_gs_13_4 h_gs_14_4 h_gs_25_4 h_gs_37_4 h_gs_46_4 h_gs_51_4 h_gs_52_4 h_gs_75_4 h_gs_76_4 h_gs_2_4 h_gs_60_4 h_gs_77_4 h_mmn_0_4 h_mmv_0_4 h_mrl_0_4 h_muo_0_4 h_mrg_0_4) cV_X10_about mw_methodLink_RL_141_yX10_about [0, 2, 1, 3, 4, 5] rfl rfl 0 rfl rfl rfl rfl rfl (Nat.le_of_ble_eq_true rfl) ⟨Nat.le_of_ble_eq_true rfl, Nat.le_of_ble_eq_true rfl⟩ ⟨Nat.le_of_ble_eq_true rfl, Nat.le_of_ble_eq_true rfl⟩ dL_law_981) hP hD hS hA [0, 2, 1, 3, 4, 5] [] rfl rfl rfl (by decide) (fun r_2 u_2 H locs hw_2 hP hD hS => ?_)
  have hr_2 := hw_2
  refine lv_cst (v := (sp_about (xs 1))) hr_2 ?_
  have hP : va_P D classes [] H := hP
  have hD : va_D A [] := hD
  refine W.widen (k := 104) (n := 213925) (Nat.le_of_ble_eq_true rfl) (Nat.le_of_ble_eq_true rfl) ?_
  refine lv_icmp_eq (tgt := 989) hx hb dL_law_984 (by decide) (fun c_3 => ?_) (fun c_3 => absurd (rfl) c_3)
  refine lv_iinc (v := 6) (lv' := [(3, .int 6), (2, .ref q3), (1, .ref q1), (0, .ref b)]) hx hb dL_law_989 hl (k := 0) rfl (by decide) (by decide) rfl (fun ls hl => ?_)
  refine lv_goto (tgt := 18) hx hb dL_law_992 (by decide) ?_
  refine lv_iload_n hx hb dL_law_18 rfl (lv_at hl 0 rfl) ?_
  refine lv_aload_n hx hb dL_law_19 rfl (lv_at hl 3 rfl) ?_
  refine va_slen hx hb hX hbl hbA hS dL_law_20 ?_
  refine lv_cst (v := 6) (by rw [hL]; rfl) ?_
  refine lv_bipush (v := 6) hx hb dL_law_21 (by decide) ?_
  refine lv_isub hx hb dL_law_23 ?_
  refine lv_cst (v := 0) (by decide) ?_
  refine lv_icmp_gt (tgt := 995) hx hb dL_law_24 (by decide) (fun c_4 => ?_) (fun c_4 => absurd (by decide) c_4)
  refine lv_iconst (v := 1) hx hb dL_law_995 (by decide) ?_
  refine va_forget (fun q hq => hAf _ (hS.2.2 q hq)) ?_
  refine W.widen (k := 600000) (n := 7302250) (Nat.le_of_ble_eq_true rfl) (Nat.le_of_ble_eq_true rfl) ?_
  exact lw_ret hx hb hr hlk dL_law_996
