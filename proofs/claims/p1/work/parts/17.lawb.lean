set_option maxHeartbeats 4000000 in
set_option maxRecDepth 100000 in
theorem law_0 {p : Program} {e : Env} {s : State} {m : MethodId} {below : List Frame} {meth : Method} {c : Code} (l : Launch) {b L : Nat} {xs : Nat → Int32} {A : Nat → Prop} {D : va_G} {cyB cyI cyJ cyZ : ClassId} (hC : Ctx p s m meth c #[Value.ref b] code 4 ret RL meth.name) (hX : va_X b L xs s s.heap) (hbl : b < s.heap.size) (hA : ∀ q, s.heap.size ≤ q → A q) (hAf : ∀ q, A q → s.heap.size ≤ q) (hbA : ¬ A b) (hK : va_K D classes (TYS cyB cyI cyJ cyZ) s) (hL : L = 6) {q1 : Nat} {fs_2 : List Value} {tp_2 : Nat} {ftp_2 : Nat → Int32} {q3 : Nat} {gs_4 : List Value} {tp_4 : Nat} {mtp_4 : Nat → Int32} (hl_fs_2 : fs_2.length = 17) (h_fs_0_2 : fs_2[0]? = some (.ref tp_2)) (h_fs_1_2 : fs_2[1]? = some (.int 0)) (hl_gs_4 : gs_4.length = 80) (h_gs_0_4 : gs_4[0]? = some (.ref tp_4)) (h_gs_2_4 : gs_4[2]? = some (.int 0)) {H : Heap} {locs : List Loc} {ls : Array Slot} (hl : lv_has ls 4 [(3, .int 0), (2, .ref q3), (1, .ref q1), (0, .ref b)]) (hP : va_P D classes [(q1, .inr (9, fs_2)), (tp_2, .inl (cyI, 1600, .inl ftp_2)), (q3, .inr (10, gs_4)), (tp_4, .inl (cyB, 1620, .inl mtp_4))] H) (hD : va_D A [(q1, .inr (9, fs_2)), (tp_2, .inl (cyI, 1600, .inl ftp_2)), (q3, .inr (10, gs_4)), (tp_4, .inl (cyB, 1620, .inl mtp_4))]) (hS : va_S A s.heap H locs) : W p l e room_1 s m #[Value.ref b] below meth c H locs 104 213925 (lw_Z below #[Value.ref b] s) (F0 m 168 ls []) := by
  obtain ⟨hx, hb, hr, hml, hown, hts, hlk, -⟩ := id hC
  refine lv_aload_n hx hb dL_law_168 rfl (lv_at hl 2 rfl) ?_
  refine lv_aload_n hx hb dL_law_169 rfl (lv_at hl 3 rfl) ?_
  refine lv_iload_n hx hb dL_law_170 rfl (lv_at hl 0 rfl) ?_
  refine lv_iconst (v := 1) hx hb dL_law_171 (by decide) ?_
  refine lv_iadd hx hb dL_law_172 ?_
  refine lv_cst (v := 1) (by decide) ?_
  refine va_sld hx hb hX hbl hbA hS (vinL hL (by decide)) dL_law_173 ?_
  refine lv_cst (v := xs 1) rfl ?_
  refine lv_aload_n hx hb dL_law_174 rfl (lv_at hl 3 rfl) ?_
  refine lv_iload_n hx hb dL_law_175 rfl (lv_at hl 0 rfl) ?_
  refine lv_iconst (v := 2) hx hb dL_law_176 (by decide) ?_
  refine lv_iadd hx hb dL_law_177 ?_
  refine lv_cst (v := 2) (by decide) ?_
  refine va_sld hx hb hX hbl hbA hS (vinL hL (by decide)) dL_law_178 ?_
  refine lv_cst (v := xs 2) rfl ?_
  refine lv_aload_n hx hb dL_law_179 rfl (lv_at hl 3 rfl) ?_
  refine lv_iload_n hx hb dL_law_180 rfl (lv_at hl 0 rfl) ?_
  refine lv_iconst (v := 3) hx hb dL_law_181 (by decide) ?_
  refine lv_iadd hx hb dL_law_182 ?_
  refine lv_cst (v := 3) (by decide) ?_
  refine va_sld hx hb hX hbl hbA hS (vinL hL (by decide)) dL_law_183 ?_
  refine lv_cst (v := xs 3) rfl ?_
  refine lv_aload_n hx hb dL_law_184 rfl (lv_at hl 3 rfl) ?_
  refine lv_iload_n hx hb dL_law_185 rfl (lv_at hl 0 rfl) ?_
  refine lv_iconst (v := 4) hx hb dL_law_186 (by decide) ?_
  refine lv_iadd hx hb dL_law_187 ?_
  refine lv_cst (v := 4) (by decide) ?_
  refine va_sld hx hb hX hbl hbA hS (vinL hL (by decide)) dL_law_188 ?_
  refine lv_cst (v := xs 4) rfl ?_
  refine lv_aload_n hx hb dL_law_189 rfl (lv_at hl 3 rfl) ?_
  refine lv_iload_n hx hb dL_law_190 rfl (lv_at hl 0 rfl) ?_
  refine lv_iconst (v := 5) hx hb dL_law_191 (by decide) ?_
  refine lv_iadd hx hb dL_law_192 ?_
  refine lv_cst (v := 5) (by decide) ?_
  refine va_sld hx hb hX hbl hbA hS (vinL hL (by decide)) dL_law_193 ?_
  refine lv_cst (v := xs 5) rfl ?_
  refine aftI (wr := [(q3, .inr (10, gs_4)), (tp_4, .inl (cyB, 1620, .inl mtp_4))]) (runV hC hK hP hD hl.1 (k_X9_feed l D cyB cyI cyJ cyZ H.size q1 (xs 1) (xs 2) (xs 3) (xs 4) (xs 5) fs_2 tp_2 ftp_2 hl_fs_2 h_fs_0_2 h_fs_1_2) cV_X9_feed mw_methodLink_RL_13_yX9_feed [0, 1] rfl rfl 0 rfl rfl rfl rfl rfl (Nat.le_of_ble_eq_true rfl) ⟨Nat.le_of_ble_eq_true rfl, Nat.le_of_ble_eq_true rfl⟩ ⟨Nat.le_of_ble_eq_true rfl, Nat.le_of_ble_eq_true rfl⟩ dL_law_194) hP hD hS hA [0, 1] [2, 3] rfl rfl rfl (by decide) (fun r_1 u_1 H locs hw_1 hP hD hS => ?_)
  have hr_1 := hw_1
  refine lv_cst (v := 20) hr_1 ?_
  have hP : va_P D classes [(q3, .inr (10, gs_4)), (tp_4, .inl (cyB, 1620, .inl mtp_4))] H := hP
  have hD : va_D A [(q3, .inr (10, gs_4)), (tp_4, .inl (cyB, 1620, .inl mtp_4))] := hD
  refine W.widen (k := 104) (n := 213925) (Nat.le_of_ble_eq_true rfl) (Nat.le_of_ble_eq_true rfl) ?_
  refine lv_aload_n hx hb dL_law_197 rfl (lv_at hl 1 rfl) ?_
  refine lv_aload_n hx hb dL_law_198 rfl (lv_at hl 3 rfl) ?_
  refine lv_iload_n hx hb dL_law_199 rfl (lv_at hl 0 rfl) ?_
  refine lv_iconst (v := 1) hx hb dL_law_200 (by decide) ?_
  refine lv_iadd hx hb dL_law_201 ?_
  refine lv_cst (v := 1) (by decide) ?_
  refine va_sld hx hb hX hbl hbA hS (vinL hL (by decide)) dL_law_202 ?_
  refine lv_cst (v := xs 1) rfl ?_
  refine lv_aload_n hx hb dL_law_203 rfl (lv_at hl 3 rfl) ?_
  refine lv_iload_n hx hb dL_law_204 rfl (lv_at hl 0 rfl) ?_
  refine lv_iconst (v := 2) hx hb dL_law_205 (by decide) ?_
  refine lv_iadd hx hb dL_law_206 ?_
  refine lv_cst (v := 2) (by decide) ?_
  refine va_sld hx hb hX hbl hbA hS (vinL hL (by decide)) dL_law_207 ?_
  refine lv_cst (v := xs 2) rfl ?_
  refine lv_aload_n hx hb dL_law_208 rfl (lv_at hl 3 rfl) ?_
  refine lv_iload_n hx hb dL_law_209 rfl (lv_at hl 0 rfl) ?_
  refine lv_iconst (v := 3) hx hb dL_law_210 (by decide) ?_
  refine lv_iadd hx hb dL_law_211 ?_
  refine lv_cst (v := 3) (by decide) ?_
  refine va_sld hx hb hX hbl hbA hS (vinL hL (by decide)) dL_law_212 ?_
  refine lv_cst (v := xs 3) rfl ?_
  refine lv_aload_n hx hb dL_law_213 rfl (lv_at hl 3 rfl) ?_
  refine lv_iload_n hx hb dL_law_214 rfl (lv_at hl 0 rfl) ?_
  refine lv_iconst (v := 4) hx hb dL_law_215 (by decide) ?_
  refine lv_iadd hx hb dL_law_216 ?_
  refine lv_cst (v := 4) (by decide) ?_
  refine va_sld hx hb hX hbl hbA hS (vinL hL (by decide)) dL_law_217 ?_
  refine lv_cst (v := xs 4) rfl ?_
  refine lv_aload_n hx hb dL_law_218 rfl (lv_at hl 3 rfl) ?_
  refine lv_iload_n hx hb dL_law_219 rfl (lv_at hl 0 rfl) ?_
  refine lv_iconst (v := 5) hx hb dL_law_220 (by decide) ?_
  refine lv_iadd hx hb dL_law_221 ?_
  refine lv_cst (v := 5) (by decide) ?_
  refine va_sld hx hb hX hbl hbA hS (vinL hL (by decide)) dL_law_222 ?_
  refine lv_cst (v := xs 5) rfl ?_
  refine aftI (wr := []) (runV hC hK hP hD hl.1 (k_X10_feed l D cyB cyI cyJ cyZ H.size q3 (xs 1) (xs 2) (xs 3) (xs 4) (xs 5) gs_4 tp_4 mtp_4 hl_gs_4 h_gs_0_4 h_gs_2_4) cV_X10_feed mw_methodLink_RL_17_yX10_feed [0, 1] rfl rfl 0 rfl rfl rfl rfl rfl (Nat.le_of_ble_eq_true rfl) ⟨Nat.le_of_ble_eq_true rfl, Nat.le_of_ble_eq_true rfl⟩ ⟨Nat.le_of_ble_eq_true rfl, Nat.le_of_ble_eq_true rfl⟩ dL_law_223) hP hD hS hA [0, 1] [] rfl rfl rfl (by decide) (fun r_2 u_2 H locs hw_2 hP hD hS => ?_)
  have hr_2 := hw_2
  refine lv_cst (v := 20) hr_2 ?_
  have hP : va_P D classes [] H := hP
  have hD : va_D A [] := hD
  refine W.widen (k := 104) (n := 213925) (Nat.le_of_ble_eq_true rfl) (Nat.le_of_ble_eq_true rfl) ?_
  refine lv_icmp_eq (tgt := 989) hx hb dL_law_226 (by decide) (fun c_3 => ?_) (fun c_3 => absurd (rfl) c_3)
  refine lv_iinc (v := 6) (lv' := [(3, .int 6), (2, .ref q3), (1, .ref q1), (0, .ref b)]) hx hb dL_law_989 hl (k := 0) rfl (by decide) (by decide) rfl (fun ls hl => ?_)
  refine lv_goto (tgt := 18) hx hb dL_law_992 (by decide) ?_
  refine lv_iload_n hx hb dL_law_18 rfl (lv_at hl 0 rfl) ?_
  refine lv_aload_n hx hb dL_law_19 rfl (lv_at hl 3 rfl) ?_
  refine va_slen hx hb hX hbl hbA hS dL_law_20 ?_
  refine lv_cst (v := 6) (by rw [hL]; rfl) ?_
  refine lv_bipush (v := 6) hx hb dL_law_21 (by decide) ?_
  refine lv_isub hx hb dL_law_23 ?_
  refine lv_cst (v := 0) (by decide) ?_
  refine lv_icmp_gt (tgt := 995) hx hb dL_law_24 (by decide) (fun c_4 => ?_) (fun c_4 => absurd (by decide) c_4)
  refine lv_iconst (v := 1) hx hb dL_law_995 (by decide) ?_
  refine va_forget (fun q hq => hAf _ (hS.2.2 q hq)) ?_
  refine W.widen (k := 600000) (n := 7302250) (Nat.le_of_ble_eq_true rfl) (Nat.le_of_ble_eq_true rfl) ?_
  exact lw_ret hx hb hr hlk dL_law_996
set_option maxHeartbeats 4000000 in
set_option maxRecDepth 100000 in
theorem law_1 {p : Program} {e : Env} {s : State} {m : MethodId} {below : List Frame} {meth : Method} {c : Code} (l : Launch) {b L : Nat} {xs : Nat → Int32} {A : Nat → Prop} {D : va_G} {cyB cyI cyJ cyZ : ClassId} (hC : Ctx p s m meth c #[Value.ref b] code 4 ret RL meth.name) (hX : va_X b L xs s s.heap) (hbl : b < s.heap.size) (hA : ∀ q, s.heap.size ≤ q → A q) (hAf : ∀ q, A q → s.heap.size ≤ q) (hbA : ¬ A b) (hK : va_K D classes (TYS cyB cyI cyJ cyZ) s) (hL : L = 6) {q1 : Nat} {fs_2 : List Value} {q3 : Nat} {gs_4 : List Value} (hl_fs_2 : fs_2.length = 17) (h_fs_1_2 : fs_2[1]? = some (.int 0)) (hl_gs_4 : gs_4.length = 80) (h_gs_2_4 : gs_4[2]? = some (.int 0)) {H : Heap} {locs : List Loc} {ls : Array Slot} (hl : lv_has ls 4 [(3, .int 0), (2, .ref q3), (1, .ref q1), (0, .ref b)]) (hP : va_P D classes [(q1, .inr (9, fs_2)), (q3, .inr (10, gs_4))] H) (hD : va_D A [(q1, .inr (9, fs_2)), (q3, .inr (10, gs_4))]) (hS : va_S A s.heap H locs) : W p l e room_1 s m #[Value.ref b] below meth c H locs 104 213925 (lw_Z below #[Value.ref b] s) (F0 m 231 ls []) := by
  obtain ⟨hx, hb, hr, hml, hown, hts, hlk, -⟩ := id hC
  refine lv_aload_n hx hb dL_law_231 rfl (lv_at hl 2 rfl) ?_
  refine lv_aload_n hx hb dL_law_232 rfl (lv_at hl 3 rfl) ?_
  refine lv_iload_n hx hb dL_law_233 rfl (lv_at hl 0 rfl) ?_
  refine lv_iconst (v := 1) hx hb dL_law_234 (by decide) ?_
  refine lv_iadd hx hb dL_law_235 ?_
  refine lv_cst (v := 1) (by decide) ?_
  refine va_sld hx hb hX hbl hbA hS (vinL hL (by decide)) dL_law_236 ?_
  refine lv_cst (v := xs 1) rfl ?_
  refine aftI (wr := [(q3, .inr (10, gs_4))]) (runV hC hK hP hD hl.1 (k_X9_end l D cyB cyI cyJ cyZ H.size q1 (xs 1) fs_2 hl_fs_2 h_fs_1_2) cV_X9_end mw_methodLink_RL_18_yX9_end [0] rfl rfl 0 rfl rfl rfl rfl rfl (Nat.le_of_ble_eq_true rfl) ⟨Nat.le_of_ble_eq_true rfl, Nat.le_of_ble_eq_true rfl⟩ ⟨Nat.le_of_ble_eq_true rfl, Nat.le_of_ble_eq_true rfl⟩ dL_law_237) hP hD hS hA [0] [1] rfl rfl rfl (by decide) (fun r_1 u_1 H locs hw_1 hP hD hS => ?_)
  have hr_1 := hw_1
  refine lv_cst (v := (sp_end (xs 1))) hr_1 ?_
  have hP : va_P D classes [(q3, .inr (10, gs_4))] H := hP
  have hD : va_D A [(q3, .inr (10, gs_4))] := hD
  refine W.widen (k := 104) (n := 213925) (Nat.le_of_ble_eq_true rfl) (Nat.le_of_ble_eq_true rfl) ?_
  refine lv_aload_n hx hb dL_law_240 rfl (lv_at hl 1 rfl) ?_
  refine lv_aload_n hx hb dL_law_241 rfl (lv_at hl 3 rfl) ?_
  refine lv_iload_n hx hb dL_law_242 rfl (lv_at hl 0 rfl) ?_
  refine lv_iconst (v := 1) hx hb dL_law_243 (by decide) ?_
  refine lv_iadd hx hb dL_law_244 ?_
  refine lv_cst (v := 1) (by decide) ?_
  refine va_sld hx hb hX hbl hbA hS (vinL hL (by decide)) dL_law_245 ?_
  refine lv_cst (v := xs 1) rfl ?_
  refine aftI (wr := []) (runV hC hK hP hD hl.1 (k_X10_end l D cyB cyI cyJ cyZ H.size q3 (xs 1) gs_4 hl_gs_4 h_gs_2_4) cV_X10_end mw_methodLink_RL_22_yX10_end [0] rfl rfl 0 rfl rfl rfl rfl rfl (Nat.le_of_ble_eq_true rfl) ⟨Nat.le_of_ble_eq_true rfl, Nat.le_of_ble_eq_true rfl⟩ ⟨Nat.le_of_ble_eq_true rfl, Nat.le_of_ble_eq_true rfl⟩ dL_law_246) hP hD hS hA [0] [] rfl rfl rfl (by decide) (fun r_2 u_2 H locs hw_2 hP hD hS => ?_)
  have hr_2 := hw_2
  refine lv_cst (v := (sp_end (xs 1))) hr_2 ?_
  have hP : va_P D classes [] H := hP
  have hD : va_D A [] := hD
  refine W.widen (k := 104) (n := 213925) (Nat.le_of_ble_eq_true rfl) (Nat.le_of_ble_eq_true rfl) ?_
  refine lv_icmp_eq (tgt := 989) hx hb dL_law_249 (by decide) (fun c_3 => ?_) (fun c_3 => absurd (rfl) c_3)
  refine lv_iinc (v := 6) (lv' := [(3, .int 6), (2, .ref q3), (1, .ref q1), (0, .ref b)]) hx hb dL_law_989 hl (k := 0) rfl (by decide) (by decide) rfl (fun ls hl => ?_)
  refine lv_goto (tgt := 18) hx hb dL_law_992 (by decide) ?_
  refine lv_iload_n hx hb dL_law_18 rfl (lv_at hl 0 rfl) ?_
  refine lv_aload_n hx hb dL_law_19 rfl (lv_at hl 3 rfl) ?_
  refine va_slen hx hb hX hbl hbA hS dL_law_20 ?_
  refine lv_cst (v := 6) (by rw [hL]; rfl) ?_
  refine lv_bipush (v := 6) hx hb dL_law_21 (by decide) ?_
  refine lv_isub hx hb dL_law_23 ?_
  refine lv_cst (v := 0) (by decide) ?_
  refine lv_icmp_gt (tgt := 995) hx hb dL_law_24 (by decide) (fun c_4 => ?_) (fun c_4 => absurd (by decide) c_4)
  refine lv_iconst (v := 1) hx hb dL_law_995 (by decide) ?_
  refine va_forget (fun q hq => hAf _ (hS.2.2 q hq)) ?_
  refine W.widen (k := 600000) (n := 7302250) (Nat.le_of_ble_eq_true rfl) (Nat.le_of_ble_eq_true rfl) ?_
  exact lw_ret hx hb hr hlk dL_law_996
set_option maxHeartbeats 4000000 in
set_option maxRecDepth 100000 in
theorem law_2 {p : Program} {e : Env} {s : State} {m : MethodId} {below : List Frame} {meth : Method} {c : Code} (l : Launch) {b L : Nat} {xs : Nat → Int32} {A : Nat → Prop} {D : va_G} {cyB cyI cyJ cyZ : ClassId} (hC : Ctx p s m meth c #[Value.ref b] code 4 ret RL meth.name) (hX : va_X b L xs s s.heap) (hbl : b < s.heap.size) (hA : ∀ q, s.heap.size ≤ q → A q) (hAf : ∀ q, A q → s.heap.size ≤ q) (hbA : ¬ A b) (hK : va_K D classes (TYS cyB cyI cyJ cyZ) s) (hL : L = 6) {q1 : Nat} {fs_2 : List Value} {tp_2 : Nat} {rd_2 : Nat} {dd_2 : Nat} {ds_2 : Nat} {ea_2 : Nat} {bb_2 : Nat} {pl_2 : Nat} {cs_2 : Nat} {wt_2 : Nat} {ftp_2 : Nat → Int32} {frd_2 : List Value} {fds_2 : List Value} {ro_2 : Nat} {wd_2 : Nat} {wo_2 : Nat} {fro_2 : Nat → Int32} {fwd_2 : Nat → Int32} {fwo_2 : Nat → Int32} {fea_2 : List Value} {er_2 : Nat} {eb_2 : Nat} {fer_2 : Nat → Int64} {feb_2 : Nat → Int32} {fbb_2 : Nat → Int32} {fpl_2 : List Value} {fcs_2 : List Value} {fwt_2 : List Value} {q3 : Nat} {gs_4 : List Value} {mv_4 : Nat} {mn_4 : Nat} {rl_4 : Nat} {uo_4 : Nat} {ed_4 : Nat} {wo_4 : Nat} {fi_4 : Nat} {bym_4 : Nat} {wi_4 : Nat} {z1_4 : Nat} {z2_4 : Nat} {rg_4 : Nat} {z4_4 : Nat} {z5_4 : Nat} {tu_4 : Nat} {cr_4 : Nat} {tld_4 : Nat} {rw_4 : Nat} {nw_4 : Nat} {bb_4 : Nat} {mmv_4 : Nat → Int32} {mmn_4 : Nat → Int32} {mrl_4 : Nat → Int32} {muo_4 : Nat → Int32} {med_4 : Nat → Int32} {mwo_4 : Nat → Int32} {mfi_4 : Nat → Int32} {mbym_4 : Nat → Int32} {mwi_4 : Nat → Int32} {mz1_4 : Nat → Int32} {mz2_4 : Nat → Int32} {mrg_4 : Nat → Int32} {mz4_4 : Nat → Int32} {mz5_4 : Nat → Int32} {mtu_4 : Nat → Int32} {mcr_4 : Nat → Int32} {mtld_4 : Nat → Int32} {mrw_4 : Nat → Int32} {mnw_4 : Nat → Int32} {mbb_4 : Nat → Int32} (hl_fs_2 : fs_2.length = 17) (h_fs_0_2 : fs_2[0]? = some (.ref tp_2)) (h_fs_1_2 : fs_2[1]? = some (.int 0)) (h_fs_2_2 : fs_2[2]? = some (.ref rd_2)) (h_fs_3_2 : fs_2[3]? = some (.ref dd_2)) (h_fs_4_2 : fs_2[4]? = some (.ref ds_2)) (h_fs_7_2 : fs_2[7]? = some (.ref ea_2)) (h_fs_9_2 : fs_2[9]? = some (.ref bb_2)) (h_fs_10_2 : fs_2[10]? = some (.ref pl_2)) (h_fs_12_2 : fs_2[12]? = some (.ref cs_2)) (h_fs_16_2 : fs_2[16]? = some (.ref wt_2)) (hl_frd_2 : frd_2.length = 16) (hl_fds_2 : fds_2.length = 15) (h_fds_9_2 : fds_2[9]? = some (.ref ro_2)) (h_fds_10_2 : fds_2[10]? = some (.ref wd_2)) (h_fds_11_2 : fds_2[11]? = some (.ref wo_2)) (hl_fea_2 : fea_2.length = 4) (h_fea_0_2 : fea_2[0]? = some (.ref er_2)) (h_fea_1_2 : fea_2[1]? = some (.ref eb_2)) (hl_fpl_2 : fpl_2.length = 2) (hl_fcs_2 : fcs_2.length = 5) (hl_fwt_2 : fwt_2.length = 17) (hl_gs_4 : gs_4.length = 80) (h_gs_11_4 : gs_4[11]? = some (.ref mv_4)) (h_gs_12_4 : gs_4[12]? = some (.ref mn_4)) (h_gs_13_4 : gs_4[13]? = some (.ref rl_4)) (h_gs_14_4 : gs_4[14]? = some (.ref uo_4)) (h_gs_15_4 : gs_4[15]? = some (.ref ed_4)) (h_gs_16_4 : gs_4[16]? = some (.ref wo_4)) (h_gs_20_4 : gs_4[20]? = some (.ref fi_4)) (h_gs_21_4 : gs_4[21]? = some (.ref bym_4)) (h_gs_22_4 : gs_4[22]? = some (.ref wi_4)) (h_gs_23_4 : gs_4[23]? = some (.ref z1_4)) (h_gs_24_4 : gs_4[24]? = some (.ref z2_4)) (h_gs_25_4 : gs_4[25]? = some (.ref rg_4)) (h_gs_26_4 : gs_4[26]? = some (.ref z4_4)) (h_gs_27_4 : gs_4[27]? = some (.ref z5_4)) (h_gs_28_4 : gs_4[28]? = some (.ref tu_4)) (h_gs_29_4 : gs_4[29]? = some (.ref cr_4)) (h_gs_30_4 : gs_4[30]? = some (.ref tld_4)) (h_gs_43_4 : gs_4[43]? = some (.ref rw_4)) (h_gs_45_4 : gs_4[45]? = some (.ref nw_4)) (h_gs_78_4 : gs_4[78]? = some (.ref bb_4)) (h_gs_2_4 : gs_4[2]? = some (.int 0)) (h_gs_37_4 : gs_4[37]? = some (.int 0)) {H : Heap} {locs : List Loc} {ls : Array Slot} (hl : lv_has ls 4 [(3, .int 0), (2, .ref q3), (1, .ref q1), (0, .ref b)]) (hP : va_P D classes [(q1, .inr (9, fs_2)), (tp_2, .inl (cyI, 1600, .inl ftp_2)), (rd_2, .inr (7, frd_2)), (ds_2, .inr (2, fds_2)), (ro_2, .inl (cyI, 30, .inl fro_2)), (wd_2, .inl (cyI, 30, .inl fwd_2)), (wo_2, .inl (cyI, 4, .inl fwo_2)), (ea_2, .inr (3, fea_2)), (er_2, .inl (cyJ, 41, .inr (.inl fer_2))), (eb_2, .inl (cyI, 41, .inl feb_2)), (bb_2, .inl (cyI, 3, .inl fbb_2)), (pl_2, .inr (6, fpl_2)), (cs_2, .inr (1, fcs_2)), (wt_2, .inr (8, fwt_2)), (q3, .inr (10, gs_4)), (mv_4, .inl (cyI, 2, .inl mmv_4)), (mn_4, .inl (cyI, 2, .inl mmn_4)), (rl_4, .inl (cyI, 2, .inl mrl_4)), (uo_4, .inl (cyI, 2, .inl muo_4)), (ed_4, .inl (cyI, 2, .inl med_4)), (wo_4, .inl (cyI, 8, .inl mwo_4)), (fi_4, .inl (cyI, 60, .inl mfi_4)), (bym_4, .inl (cyI, 60, .inl mbym_4)), (wi_4, .inl (cyI, 60, .inl mwi_4)), (z1_4, .inl (cyZ, 2, .inl mz1_4)), (z2_4, .inl (cyZ, 2, .inl mz2_4)), (rg_4, .inl (cyZ, 2, .inl mrg_4)), (z4_4, .inl (cyZ, 2, .inl mz4_4)), (z5_4, .inl (cyZ, 2, .inl mz5_4)), (tu_4, .inl (cyZ, 60, .inl mtu_4)), (cr_4, .inl (cyZ, 60, .inl mcr_4)), (tld_4, .inl (cyZ, 60, .inl mtld_4)), (rw_4, .inl (cyI, 30, .inl mrw_4)), (nw_4, .inl (cyI, 30, .inl mnw_4)), (bb_4, .inl (cyI, 3, .inl mbb_4))] H) (hD : va_D A [(q1, .inr (9, fs_2)), (tp_2, .inl (cyI, 1600, .inl ftp_2)), (rd_2, .inr (7, frd_2)), (ds_2, .inr (2, fds_2)), (ro_2, .inl (cyI, 30, .inl fro_2)), (wd_2, .inl (cyI, 30, .inl fwd_2)), (wo_2, .inl (cyI, 4, .inl fwo_2)), (ea_2, .inr (3, fea_2)), (er_2, .inl (cyJ, 41, .inr (.inl fer_2))), (eb_2, .inl (cyI, 41, .inl feb_2)), (bb_2, .inl (cyI, 3, .inl fbb_2)), (pl_2, .inr (6, fpl_2)), (cs_2, .inr (1, fcs_2)), (wt_2, .inr (8, fwt_2)), (q3, .inr (10, gs_4)), (mv_4, .inl (cyI, 2, .inl mmv_4)), (mn_4, .inl (cyI, 2, .inl mmn_4)), (rl_4, .inl (cyI, 2, .inl mrl_4)), (uo_4, .inl (cyI, 2, .inl muo_4)), (ed_4, .inl (cyI, 2, .inl med_4)), (wo_4, .inl (cyI, 8, .inl mwo_4)), (fi_4, .inl (cyI, 60, .inl mfi_4)), (bym_4, .inl (cyI, 60, .inl mbym_4)), (wi_4, .inl (cyI, 60, .inl mwi_4)), (z1_4, .inl (cyZ, 2, .inl mz1_4)), (z2_4, .inl (cyZ, 2, .inl mz2_4)), (rg_4, .inl (cyZ, 2, .inl mrg_4)), (z4_4, .inl (cyZ, 2, .inl mz4_4)), (z5_4, .inl (cyZ, 2, .inl mz5_4)), (tu_4, .inl (cyZ, 60, .inl mtu_4)), (cr_4, .inl (cyZ, 60, .inl mcr_4)), (tld_4, .inl (cyZ, 60, .inl mtld_4)), (rw_4, .inl (cyI, 30, .inl mrw_4)), (nw_4, .inl (cyI, 30, .inl mnw_4)), (bb_4, .inl (cyI, 3, .inl mbb_4))]) (hS : va_S A s.heap H locs) : W p l e room_1 s m #[Value.ref b] below meth c H locs 104 213925 (lw_Z below #[Value.ref b] s) (F0 m 254 ls []) := by
  obtain ⟨hx, hb, hr, hml, hown, hts, hlk, -⟩ := id hC
  refine lv_aload_n hx hb dL_law_254 rfl (lv_at hl 2 rfl) ?_
  refine aftI (wr := [(q3, .inr (10, gs_4)), (mv_4, .inl (cyI, 2, .inl mmv_4)), (mn_4, .inl (cyI, 2, .inl mmn_4)), (rl_4, .inl (cyI, 2, .inl mrl_4)), (uo_4, .inl (cyI, 2, .inl muo_4)), (ed_4, .inl (cyI, 2, .inl med_4)), (wo_4, .inl (cyI, 8, .inl mwo_4)), (fi_4, .inl (cyI, 60, .inl mfi_4)), (bym_4, .inl (cyI, 60, .inl mbym_4)), (wi_4, .inl (cyI, 60, .inl mwi_4)), (z1_4, .inl (cyZ, 2, .inl mz1_4)), (z2_4, .inl (cyZ, 2, .inl mz2_4)), (rg_4, .inl (cyZ, 2, .inl mrg_4)), (z4_4, .inl (cyZ, 2, .inl mz4_4)), (z5_4, .inl (cyZ, 2, .inl mz5_4)), (tu_4, .inl (cyZ, 60, .inl mtu_4)), (cr_4, .inl (cyZ, 60, .inl mcr_4)), (tld_4, .inl (cyZ, 60, .inl mtld_4)), (rw_4, .inl (cyI, 30, .inl mrw_4)), (nw_4, .inl (cyI, 30, .inl mnw_4)), (bb_4, .inl (cyI, 3, .inl mbb_4))]) (runV hC hK hP hD hl.1 (k_X9_drill l D cyB cyI cyJ cyZ H.size q1 fs_2 rd_2 tp_2 ds_2 dd_2 ea_2 bb_2 pl_2 cs_2 wt_2 frd_2 ftp_2 fds_2 ro_2 wd_2 wo_2 fro_2 fwd_2 fwo_2 fea_2 er_2 eb_2 fer_2 feb_2 fbb_2 fpl_2 fcs_2 fwt_2 hl_fs_2 h_fs_2_2 h_fs_0_2 h_fs_4_2 h_fs_3_2 h_fs_7_2 h_fs_9_2 h_fs_10_2 h_fs_12_2 h_fs_16_2 h_fs_1_2 hl_frd_2 hl_fds_2 h_fds_9_2 h_fds_10_2 h_fds_11_2 hl_fea_2 h_fea_0_2 h_fea_1_2 hl_fpl_2 hl_fcs_2 hl_fwt_2) cV_X9_drill mw_methodLink_RL_23_yX9_drill [0, 2, 1, 3, 4, 5, 6, 7, 8, 9, 10, 11, 12, 13] rfl rfl 0 rfl rfl rfl rfl rfl (Nat.le_of_ble_eq_true rfl) ⟨Nat.le_of_ble_eq_true rfl, Nat.le_of_ble_eq_true rfl⟩ ⟨Nat.le_of_ble_eq_true rfl, Nat.le_of_ble_eq_true rfl⟩ dL_law_255) hP hD hS hA [0, 2, 1, 3, 4, 5, 6, 7, 8, 9, 10, 11, 12, 13] [14, 15, 16, 17, 18, 19, 20, 21, 22, 23, 24, 25, 26, 27, 28, 29, 30, 31, 32, 33, 34] rfl rfl rfl (by decide) (fun r_1 u_1 H locs hw_1 hP hD hS => ?_)
  have hr_1 := hw_1
  refine lv_cst (v := 0) hr_1 ?_
  have hP : va_P D classes [(q3, .inr (10, gs_4)), (mv_4, .inl (cyI, 2, .inl mmv_4)), (mn_4, .inl (cyI, 2, .inl mmn_4)), (rl_4, .inl (cyI, 2, .inl mrl_4)), (uo_4, .inl (cyI, 2, .inl muo_4)), (ed_4, .inl (cyI, 2, .inl med_4)), (wo_4, .inl (cyI, 8, .inl mwo_4)), (fi_4, .inl (cyI, 60, .inl mfi_4)), (bym_4, .inl (cyI, 60, .inl mbym_4)), (wi_4, .inl (cyI, 60, .inl mwi_4)), (z1_4, .inl (cyZ, 2, .inl mz1_4)), (z2_4, .inl (cyZ, 2, .inl mz2_4)), (rg_4, .inl (cyZ, 2, .inl mrg_4)), (z4_4, .inl (cyZ, 2, .inl mz4_4)), (z5_4, .inl (cyZ, 2, .inl mz5_4)), (tu_4, .inl (cyZ, 60, .inl mtu_4)), (cr_4, .inl (cyZ, 60, .inl mcr_4)), (tld_4, .inl (cyZ, 60, .inl mtld_4)), (rw_4, .inl (cyI, 30, .inl mrw_4)), (nw_4, .inl (cyI, 30, .inl mnw_4)), (bb_4, .inl (cyI, 3, .inl mbb_4))] H := hP
  have hD : va_D A [(q3, .inr (10, gs_4)), (mv_4, .inl (cyI, 2, .inl mmv_4)), (mn_4, .inl (cyI, 2, .inl mmn_4)), (rl_4, .inl (cyI, 2, .inl mrl_4)), (uo_4, .inl (cyI, 2, .inl muo_4)), (ed_4, .inl (cyI, 2, .inl med_4)), (wo_4, .inl (cyI, 8, .inl mwo_4)), (fi_4, .inl (cyI, 60, .inl mfi_4)), (bym_4, .inl (cyI, 60, .inl mbym_4)), (wi_4, .inl (cyI, 60, .inl mwi_4)), (z1_4, .inl (cyZ, 2, .inl mz1_4)), (z2_4, .inl (cyZ, 2, .inl mz2_4)), (rg_4, .inl (cyZ, 2, .inl mrg_4)), (z4_4, .inl (cyZ, 2, .inl mz4_4)), (z5_4, .inl (cyZ, 2, .inl mz5_4)), (tu_4, .inl (cyZ, 60, .inl mtu_4)), (cr_4, .inl (cyZ, 60, .inl mcr_4)), (tld_4, .inl (cyZ, 60, .inl mtld_4)), (rw_4, .inl (cyI, 30, .inl mrw_4)), (nw_4, .inl (cyI, 30, .inl mnw_4)), (bb_4, .inl (cyI, 3, .inl mbb_4))] := hD
  refine W.widen (k := 104) (n := 213925) (Nat.le_of_ble_eq_true rfl) (Nat.le_of_ble_eq_true rfl) ?_
  refine lv_aload_n hx hb dL_law_258 rfl (lv_at hl 1 rfl) ?_
  refine aftI (wr := []) (runV hC hK hP hD hl.1 (k_X10_drill l D cyB cyI cyJ cyZ H.size q3 gs_4 mv_4 mn_4 rl_4 uo_4 ed_4 z1_4 z2_4 rg_4 z4_4 z5_4 wo_4 fi_4 bym_4 wi_4 tu_4 cr_4 tld_4 rw_4 nw_4 bb_4 mmv_4 mmn_4 mrl_4 muo_4 med_4 mz1_4 mz2_4 mrg_4 mz4_4 mz5_4 mwo_4 mfi_4 mbym_4 mwi_4 mtu_4 mcr_4 mtld_4 mrw_4 mnw_4 mbb_4 hl_gs_4 h_gs_11_4 h_gs_12_4 h_gs_13_4 h_gs_14_4 h_gs_15_4 h_gs_23_4 h_gs_24_4 h_gs_25_4 h_gs_26_4 h_gs_27_4 h_gs_16_4 h_gs_20_4 h_gs_21_4 h_gs_22_4 h_gs_28_4 h_gs_29_4 h_gs_30_4 h_gs_43_4 h_gs_45_4 h_gs_78_4 h_gs_2_4 h_gs_37_4) cV_X10_drill mw_methodLink_RL_27_yX10_drill [0, 1, 2, 3, 4, 5, 10, 11, 12, 13, 14, 6, 7, 8, 9, 15, 16, 17, 18, 19, 20] rfl rfl 0 rfl rfl rfl rfl rfl (Nat.le_of_ble_eq_true rfl) ⟨Nat.le_of_ble_eq_true rfl, Nat.le_of_ble_eq_true rfl⟩ ⟨Nat.le_of_ble_eq_true rfl, Nat.le_of_ble_eq_true rfl⟩ dL_law_259) hP hD hS hA [0, 1, 2, 3, 4, 5, 10, 11, 12, 13, 14, 6, 7, 8, 9, 15, 16, 17, 18, 19, 20] [] rfl rfl rfl (by decide) (fun r_2 u_2 H locs hw_2 hP hD hS => ?_)
  have hr_2 := hw_2
  refine lv_cst (v := 0) hr_2 ?_
  have hP : va_P D classes [] H := hP
  have hD : va_D A [] := hD
  refine W.widen (k := 104) (n := 213925) (Nat.le_of_ble_eq_true rfl) (Nat.le_of_ble_eq_true rfl) ?_
  refine lv_icmp_eq (tgt := 989) hx hb dL_law_262 (by decide) (fun c_3 => ?_) (fun c_3 => absurd (rfl) c_3)
  refine lv_iinc (v := 6) (lv' := [(3, .int 6), (2, .ref q3), (1, .ref q1), (0, .ref b)]) hx hb dL_law_989 hl (k := 0) rfl (by decide) (by decide) rfl (fun ls hl => ?_)
  refine lv_goto (tgt := 18) hx hb dL_law_992 (by decide) ?_
  refine lv_iload_n hx hb dL_law_18 rfl (lv_at hl 0 rfl) ?_
  refine lv_aload_n hx hb dL_law_19 rfl (lv_at hl 3 rfl) ?_
  refine va_slen hx hb hX hbl hbA hS dL_law_20 ?_
  refine lv_cst (v := 6) (by rw [hL]; rfl) ?_
  refine lv_bipush (v := 6) hx hb dL_law_21 (by decide) ?_
  refine lv_isub hx hb dL_law_23 ?_
  refine lv_cst (v := 0) (by decide) ?_
  refine lv_icmp_gt (tgt := 995) hx hb dL_law_24 (by decide) (fun c_4 => ?_) (fun c_4 => absurd (by decide) c_4)
  refine lv_iconst (v := 1) hx hb dL_law_995 (by decide) ?_
  refine va_forget (fun q hq => hAf _ (hS.2.2 q hq)) ?_
  refine W.widen (k := 600000) (n := 7302250) (Nat.le_of_ble_eq_true rfl) (Nat.le_of_ble_eq_true rfl) ?_
  exact lw_ret hx hb hr hlk dL_law_996
set_option maxHeartbeats 4000000 in
set_option maxRecDepth 100000 in
theorem law_3 {p : Program} {e : Env} {s : State} {m : MethodId} {below : List Frame} {meth : Method} {c : Code} (l : Launch) {b L : Nat} {xs : Nat → Int32} {A : Nat → Prop} {D : va_G} {cyB cyI cyJ cyZ : ClassId} (hC : Ctx p s m meth c #[Value.ref b] code 4 ret RL meth.name) (hX : va_X b L xs s s.heap) (hbl : b < s.heap.size) (hA : ∀ q, s.heap.size ≤ q → A q) (hAf : ∀ q, A q → s.heap.size ≤ q) (hbA : ¬ A b) (hK : va_K D classes (TYS cyB cyI cyJ cyZ) s) (hL : L = 6) {q1 : Nat} {fs_2 : List Value} {q3 : Nat} {gs_4 : List Value} (hl_fs_2 : fs_2.length = 17) (h_fs_5_2 : fs_2[5]? = some (.int 0)) (h_fs_6_2 : fs_2[6]? = some (.int (-1))) (hl_gs_4 : gs_4.length = 80) (h_gs_4_4 : gs_4[4]? = some (.int 0)) (h_gs_5_4 : gs_4[5]? = some (.int (-1))) {H : Heap} {locs : List Loc} {ls : Array Slot} (hl : lv_has ls 4 [(3, .int 0), (2, .ref q3), (1, .ref q1), (0, .ref b)]) (hP : va_P D classes [(q1, .inr (9, fs_2)), (q3, .inr (10, gs_4))] H) (hD : va_D A [(q1, .inr (9, fs_2)), (q3, .inr (10, gs_4))]) (hS : va_S A s.heap H locs) : W p l e room_1 s m #[Value.ref b] below meth c H locs 104 213925 (lw_Z below #[Value.ref b] s) (F0 m 267 ls []) := by
  obtain ⟨hx, hb, hr, hml, hown, hts, hlk, -⟩ := id hC
  refine lv_aload_n hx hb dL_law_267 rfl (lv_at hl 2 rfl) ?_
  refine lv_aload_n hx hb dL_law_268 rfl (lv_at hl 3 rfl) ?_
  refine lv_iload_n hx hb dL_law_269 rfl (lv_at hl 0 rfl) ?_
  refine lv_iconst (v := 1) hx hb dL_law_270 (by decide) ?_
  refine lv_iadd hx hb dL_law_271 ?_
  refine lv_cst (v := 1) (by decide) ?_
  refine va_sld hx hb hX hbl hbA hS (vinL hL (by decide)) dL_law_272 ?_
  refine lv_cst (v := xs 1) rfl ?_
  refine aftI (wr := [(q3, .inr (10, gs_4))]) (runV hC hK hP hD hl.1 (k_X9_fault l D cyB cyI cyJ cyZ H.size q1 (xs 1) fs_2 hl_fs_2 h_fs_5_2 h_fs_6_2) cV_X9_fault mw_methodLink_RL_28_yX9_fault [0] rfl rfl 0 rfl rfl rfl rfl rfl (Nat.le_of_ble_eq_true rfl) ⟨Nat.le_of_ble_eq_true rfl, Nat.le_of_ble_eq_true rfl⟩ ⟨Nat.le_of_ble_eq_true rfl, Nat.le_of_ble_eq_true rfl⟩ dL_law_273) hP hD hS hA [0] [1] rfl rfl rfl (by decide) (fun r_1 u_1 H locs hw_1 hP hD hS => ?_)
  have hr_1 := hw_1
  refine lv_cst (v := (sp_fault (xs 1))) hr_1 ?_
  have hP : va_P D classes [(q3, .inr (10, gs_4))] H := hP
  have hD : va_D A [(q3, .inr (10, gs_4))] := hD
  refine W.widen (k := 104) (n := 213925) (Nat.le_of_ble_eq_true rfl) (Nat.le_of_ble_eq_true rfl) ?_
  refine lv_aload_n hx hb dL_law_276 rfl (lv_at hl 1 rfl) ?_
  refine lv_aload_n hx hb dL_law_277 rfl (lv_at hl 3 rfl) ?_
  refine lv_iload_n hx hb dL_law_278 rfl (lv_at hl 0 rfl) ?_
  refine lv_iconst (v := 1) hx hb dL_law_279 (by decide) ?_
  refine lv_iadd hx hb dL_law_280 ?_
  refine lv_cst (v := 1) (by decide) ?_
  refine va_sld hx hb hX hbl hbA hS (vinL hL (by decide)) dL_law_281 ?_
  refine lv_cst (v := xs 1) rfl ?_
  refine aftI (wr := []) (runV hC hK hP hD hl.1 (k_X10_fault l D cyB cyI cyJ cyZ H.size q3 (xs 1) gs_4 hl_gs_4 h_gs_4_4 h_gs_5_4) cV_X10_fault mw_methodLink_RL_31_yX10_fault [0] rfl rfl 0 rfl rfl rfl rfl rfl (Nat.le_of_ble_eq_true rfl) ⟨Nat.le_of_ble_eq_true rfl, Nat.le_of_ble_eq_true rfl⟩ ⟨Nat.le_of_ble_eq_true rfl, Nat.le_of_ble_eq_true rfl⟩ dL_law_282) hP hD hS hA [0] [] rfl rfl rfl (by decide) (fun r_2 u_2 H locs hw_2 hP hD hS => ?_)
  have hr_2 := hw_2
  refine lv_cst (v := (sp_fault (xs 1))) hr_2 ?_
  have hP : va_P D classes [] H := hP
  have hD : va_D A [] := hD
  refine W.widen (k := 104) (n := 213925) (Nat.le_of_ble_eq_true rfl) (Nat.le_of_ble_eq_true rfl) ?_
  refine lv_icmp_eq (tgt := 989) hx hb dL_law_285 (by decide) (fun c_3 => ?_) (fun c_3 => absurd (rfl) c_3)
  refine lv_iinc (v := 6) (lv' := [(3, .int 6), (2, .ref q3), (1, .ref q1), (0, .ref b)]) hx hb dL_law_989 hl (k := 0) rfl (by decide) (by decide) rfl (fun ls hl => ?_)
  refine lv_goto (tgt := 18) hx hb dL_law_992 (by decide) ?_
  refine lv_iload_n hx hb dL_law_18 rfl (lv_at hl 0 rfl) ?_
  refine lv_aload_n hx hb dL_law_19 rfl (lv_at hl 3 rfl) ?_
  refine va_slen hx hb hX hbl hbA hS dL_law_20 ?_
  refine lv_cst (v := 6) (by rw [hL]; rfl) ?_
  refine lv_bipush (v := 6) hx hb dL_law_21 (by decide) ?_
  refine lv_isub hx hb dL_law_23 ?_
  refine lv_cst (v := 0) (by decide) ?_
  refine lv_icmp_gt (tgt := 995) hx hb dL_law_24 (by decide) (fun c_4 => ?_) (fun c_4 => absurd (by decide) c_4)
  refine lv_iconst (v := 1) hx hb dL_law_995 (by decide) ?_
  refine va_forget (fun q hq => hAf _ (hS.2.2 q hq)) ?_
  refine W.widen (k := 600000) (n := 7302250) (Nat.le_of_ble_eq_true rfl) (Nat.le_of_ble_eq_true rfl) ?_
  exact lw_ret hx hb hr hlk dL_law_996
set_option maxHeartbeats 4000000 in
set_option maxRecDepth 100000 in
theorem law_4 {p : Program} {e : Env} {s : State} {m : MethodId} {below : List Frame} {meth : Method} {c : Code} (l : Launch) {b L : Nat} {xs : Nat → Int32} {A : Nat → Prop} {D : va_G} {cyB cyI cyJ cyZ : ClassId} (hC : Ctx p s m meth c #[Value.ref b] code 4 ret RL meth.name) (hX : va_X b L xs s s.heap) (hbl : b < s.heap.size) (hA : ∀ q, s.heap.size ≤ q → A q) (hAf : ∀ q, A q → s.heap.size ≤ q) (hbA : ¬ A b) (hK : va_K D classes (TYS cyB cyI cyJ cyZ) s) (hL : L = 6) {q1 : Nat} {fs_2 : List Value} {dd_2 : Nat} {fdd_2 : List Value} {q3 : Nat} {gs_4 : List Value} {mn_4 : Nat} {mmn_4 : Nat → Int32} (hl_fs_2 : fs_2.length = 17) (h_fs_3_2 : fs_2[3]? = some (.ref dd_2)) (hl_fdd_2 : fdd_2.length = 15) (h_fdd_1_2 : fdd_2[1]? = some (.int 0)) (hl_gs_4 : gs_4.length = 80) (h_gs_12_4 : gs_4[12]? = some (.ref mn_4)) (h_gs_37_4 : gs_4[37]? = some (.int 0)) (h_mmn_0_4 : mmn_4 0 = 0) {H : Heap} {locs : List Loc} {ls : Array Slot} (hl : lv_has ls 4 [(3, .int 0), (2, .ref q3), (1, .ref q1), (0, .ref b)]) (hP : va_P D classes [(q1, .inr (9, fs_2)), (dd_2, .inr (2, fdd_2)), (q3, .inr (10, gs_4)), (mn_4, .inl (cyI, 2, .inl mmn_4))] H) (hD : va_D A [(q1, .inr (9, fs_2)), (dd_2, .inr (2, fdd_2)), (q3, .inr (10, gs_4)), (mn_4, .inl (cyI, 2, .inl mmn_4))]) (hS : va_S A s.heap H locs) : W p l e room_1 s m #[Value.ref b] below meth c H locs 104 213925 (lw_Z below #[Value.ref b] s) (F0 m 290 ls []) := by
  obtain ⟨hx, hb, hr, hml, hown, hts, hlk, -⟩ := id hC
  refine lv_aload_n hx hb dL_law_290 rfl (lv_at hl 2 rfl) ?_
  refine lv_aload_n hx hb dL_law_291 rfl (lv_at hl 3 rfl) ?_
  refine lv_iload_n hx hb dL_law_292 rfl (lv_at hl 0 rfl) ?_
  refine lv_iconst (v := 1) hx hb dL_law_293 (by decide) ?_
  refine lv_iadd hx hb dL_law_294 ?_
  refine lv_cst (v := 1) (by decide) ?_
  refine va_sld hx hb hX hbl hbA hS (vinL hL (by decide)) dL_law_295 ?_
  refine lv_cst (v := xs 1) rfl ?_
  refine aftI (wr := [(q3, .inr (10, gs_4)), (mn_4, .inl (cyI, 2, .inl mmn_4))]) (runV hC hK hP hD hl.1 (k_X9_does l D cyB cyI cyJ cyZ H.size q1 (xs 1) fs_2 dd_2 fdd_2 hl_fs_2 h_fs_3_2 hl_fdd_2 h_fdd_1_2) cV_X9_does mw_methodLink_RL_32_yX9_does [0, 1] rfl rfl 0 rfl rfl rfl rfl rfl (Nat.le_of_ble_eq_true rfl) ⟨Nat.le_of_ble_eq_true rfl, Nat.le_of_ble_eq_true rfl⟩ ⟨Nat.le_of_ble_eq_true rfl, Nat.le_of_ble_eq_true rfl⟩ dL_law_296) hP hD hS hA [0, 1] [2, 3] rfl rfl rfl (by decide) (fun r_1 u_1 H locs hw_1 hP hD hS => ?_)
  have hr_1 := hw_1
  refine lv_cst (v := (-1)) hr_1 ?_
  have hP : va_P D classes [(q3, .inr (10, gs_4)), (mn_4, .inl (cyI, 2, .inl mmn_4))] H := hP
  have hD : va_D A [(q3, .inr (10, gs_4)), (mn_4, .inl (cyI, 2, .inl mmn_4))] := hD
  refine W.widen (k := 104) (n := 213925) (Nat.le_of_ble_eq_true rfl) (Nat.le_of_ble_eq_true rfl) ?_
  refine lv_aload_n hx hb dL_law_299 rfl (lv_at hl 1 rfl) ?_
  refine lv_aload_n hx hb dL_law_300 rfl (lv_at hl 3 rfl) ?_
  refine lv_iload_n hx hb dL_law_301 rfl (lv_at hl 0 rfl) ?_
  refine lv_iconst (v := 1) hx hb dL_law_302 (by decide) ?_
  refine lv_iadd hx hb dL_law_303 ?_
  refine lv_cst (v := 1) (by decide) ?_
  refine va_sld hx hb hX hbl hbA hS (vinL hL (by decide)) dL_law_304 ?_
  refine lv_cst (v := xs 1) rfl ?_
  refine aftI (wr := []) (runV hC hK hP hD hl.1 (k_X10_does l D cyB cyI cyJ cyZ H.size q3 (xs 1) gs_4 mn_4 mmn_4 hl_gs_4 h_gs_12_4 h_gs_37_4 h_mmn_0_4) cV_X10_does mw_methodLink_RL_35_yX10_does [0, 1] rfl rfl 0 rfl rfl rfl rfl rfl (Nat.le_of_ble_eq_true rfl) ⟨Nat.le_of_ble_eq_true rfl, Nat.le_of_ble_eq_true rfl⟩ ⟨Nat.le_of_ble_eq_true rfl, Nat.le_of_ble_eq_true rfl⟩ dL_law_305) hP hD hS hA [0, 1] [] rfl rfl rfl (by decide) (fun r_2 u_2 H locs hw_2 hP hD hS => ?_)
  have hr_2 := hw_2
  refine lv_cst (v := (-1)) hr_2 ?_
  have hP : va_P D classes [] H := hP
  have hD : va_D A [] := hD
  refine W.widen (k := 104) (n := 213925) (Nat.le_of_ble_eq_true rfl) (Nat.le_of_ble_eq_true rfl) ?_
  refine lv_icmp_eq (tgt := 989) hx hb dL_law_308 (by decide) (fun c_3 => ?_) (fun c_3 => absurd (rfl) c_3)
  refine lv_iinc (v := 6) (lv' := [(3, .int 6), (2, .ref q3), (1, .ref q1), (0, .ref b)]) hx hb dL_law_989 hl (k := 0) rfl (by decide) (by decide) rfl (fun ls hl => ?_)
  refine lv_goto (tgt := 18) hx hb dL_law_992 (by decide) ?_
  refine lv_iload_n hx hb dL_law_18 rfl (lv_at hl 0 rfl) ?_
  refine lv_aload_n hx hb dL_law_19 rfl (lv_at hl 3 rfl) ?_
  refine va_slen hx hb hX hbl hbA hS dL_law_20 ?_
  refine lv_cst (v := 6) (by rw [hL]; rfl) ?_
  refine lv_bipush (v := 6) hx hb dL_law_21 (by decide) ?_
  refine lv_isub hx hb dL_law_23 ?_
  refine lv_cst (v := 0) (by decide) ?_
  refine lv_icmp_gt (tgt := 995) hx hb dL_law_24 (by decide) (fun c_4 => ?_) (fun c_4 => absurd (by decide) c_4)
  refine lv_iconst (v := 1) hx hb dL_law_995 (by decide) ?_
  refine va_forget (fun q hq => hAf _ (hS.2.2 q hq)) ?_
  refine W.widen (k := 600000) (n := 7302250) (Nat.le_of_ble_eq_true rfl) (Nat.le_of_ble_eq_true rfl) ?_
  exact lw_ret hx hb hr hlk dL_law_996
set_option maxHeartbeats 4000000 in
set_option maxRecDepth 100000 in
theorem law_5 {p : Program} {e : Env} {s : State} {m : MethodId} {below : List Frame} {meth : Method} {c : Code} (l : Launch) {b L : Nat} {xs : Nat → Int32} {A : Nat → Prop} {D : va_G} {cyB cyI cyJ cyZ : ClassId} (hC : Ctx p s m meth c #[Value.ref b] code 4 ret RL meth.name) (hX : va_X b L xs s s.heap) (hbl : b < s.heap.size) (hA : ∀ q, s.heap.size ≤ q → A q) (hAf : ∀ q, A q → s.heap.size ≤ q) (hbA : ¬ A b) (hK : va_K D classes (TYS cyB cyI cyJ cyZ) s) (hL : L = 6) {q1 : Nat} {fs_2 : List Value} {dd_2 : Nat} {fdd_2 : List Value} {q3 : Nat} {gs_4 : List Value} {rl_4 : Nat} {mrl_4 : Nat → Int32} (hl_fs_2 : fs_2.length = 17) (h_fs_3_2 : fs_2[3]? = some (.ref dd_2)) (hl_fdd_2 : fdd_2.length = 15) (h_fdd_2_2 : fdd_2[2]? = some (.int 0)) (hl_gs_4 : gs_4.length = 80) (h_gs_13_4 : gs_4[13]? = some (.ref rl_4)) (h_gs_37_4 : gs_4[37]? = some (.int 0)) (h_mrl_0_4 : mrl_4 0 = 0) {H : Heap} {locs : List Loc} {ls : Array Slot} (hl : lv_has ls 4 [(3, .int 0), (2, .ref q3), (1, .ref q1), (0, .ref b)]) (hP : va_P D classes [(q1, .inr (9, fs_2)), (dd_2, .inr (2, fdd_2)), (q3, .inr (10, gs_4)), (rl_4, .inl (cyI, 2, .inl mrl_4))] H) (hD : va_D A [(q1, .inr (9, fs_2)), (dd_2, .inr (2, fdd_2)), (q3, .inr (10, gs_4)), (rl_4, .inl (cyI, 2, .inl mrl_4))]) (hS : va_S A s.heap H locs) : W p l e room_1 s m #[Value.ref b] below meth c H locs 104 213925 (lw_Z below #[Value.ref b] s) (F0 m 313 ls []) := by
  obtain ⟨hx, hb, hr, hml, hown, hts, hlk, -⟩ := id hC
  refine lv_aload_n hx hb dL_law_313 rfl (lv_at hl 2 rfl) ?_
  refine lv_aload_n hx hb dL_law_314 rfl (lv_at hl 3 rfl) ?_
  refine lv_iload_n hx hb dL_law_315 rfl (lv_at hl 0 rfl) ?_
  refine lv_iconst (v := 1) hx hb dL_law_316 (by decide) ?_
  refine lv_iadd hx hb dL_law_317 ?_
  refine lv_cst (v := 1) (by decide) ?_
  refine va_sld hx hb hX hbl hbA hS (vinL hL (by decide)) dL_law_318 ?_
  refine lv_cst (v := xs 1) rfl ?_
  refine lv_aload_n hx hb dL_law_319 rfl (lv_at hl 3 rfl) ?_
  refine lv_iload_n hx hb dL_law_320 rfl (lv_at hl 0 rfl) ?_
  refine lv_iconst (v := 2) hx hb dL_law_321 (by decide) ?_
  refine lv_iadd hx hb dL_law_322 ?_
  refine lv_cst (v := 2) (by decide) ?_
  refine va_sld hx hb hX hbl hbA hS (vinL hL (by decide)) dL_law_323 ?_
  refine lv_cst (v := xs 2) rfl ?_
  refine lv_aload_n hx hb dL_law_324 rfl (lv_at hl 3 rfl) ?_
  refine lv_iload_n hx hb dL_law_325 rfl (lv_at hl 0 rfl) ?_
  refine lv_iconst (v := 3) hx hb dL_law_326 (by decide) ?_
  refine lv_iadd hx hb dL_law_327 ?_
  refine lv_cst (v := 3) (by decide) ?_
  refine va_sld hx hb hX hbl hbA hS (vinL hL (by decide)) dL_law_328 ?_
  refine lv_cst (v := xs 3) rfl ?_
  refine lv_aload_n hx hb dL_law_329 rfl (lv_at hl 3 rfl) ?_
  refine lv_iload_n hx hb dL_law_330 rfl (lv_at hl 0 rfl) ?_
  refine lv_iconst (v := 4) hx hb dL_law_331 (by decide) ?_
  refine lv_iadd hx hb dL_law_332 ?_
  refine lv_cst (v := 4) (by decide) ?_
  refine va_sld hx hb hX hbl hbA hS (vinL hL (by decide)) dL_law_333 ?_
  refine lv_cst (v := xs 4) rfl ?_
  refine aftI (wr := [(q3, .inr (10, gs_4)), (rl_4, .inl (cyI, 2, .inl mrl_4))]) (runV hC hK hP hD hl.1 (k_X9_made l D cyB cyI cyJ cyZ H.size q1 (xs 1) (xs 2) (xs 3) (xs 4) fs_2 dd_2 fdd_2 hl_fs_2 h_fs_3_2 hl_fdd_2 h_fdd_2_2) cV_X9_made mw_methodLink_RL_36_yX9_made [0, 1] rfl rfl 0 rfl rfl rfl rfl rfl (Nat.le_of_ble_eq_true rfl) ⟨Nat.le_of_ble_eq_true rfl, Nat.le_of_ble_eq_true rfl⟩ ⟨Nat.le_of_ble_eq_true rfl, Nat.le_of_ble_eq_true rfl⟩ dL_law_334) hP hD hS hA [0, 1] [2, 3] rfl rfl rfl (by decide) (fun r_1 u_1 H locs hw_1 hP hD hS => ?_)
  have hr_1 := hw_1
  refine lv_cst (v := (-1)) hr_1 ?_
  have hP : va_P D classes [(q3, .inr (10, gs_4)), (rl_4, .inl (cyI, 2, .inl mrl_4))] H := hP
  have hD : va_D A [(q3, .inr (10, gs_4)), (rl_4, .inl (cyI, 2, .inl mrl_4))] := hD
  refine W.widen (k := 104) (n := 213925) (Nat.le_of_ble_eq_true rfl) (Nat.le_of_ble_eq_true rfl) ?_
  refine lv_aload_n hx hb dL_law_337 rfl (lv_at hl 1 rfl) ?_
  refine lv_aload_n hx hb dL_law_338 rfl (lv_at hl 3 rfl) ?_
  refine lv_iload_n hx hb dL_law_339 rfl (lv_at hl 0 rfl) ?_
  refine lv_iconst (v := 1) hx hb dL_law_340 (by decide) ?_
  refine lv_iadd hx hb dL_law_341 ?_
  refine lv_cst (v := 1) (by decide) ?_
  refine va_sld hx hb hX hbl hbA hS (vinL hL (by decide)) dL_law_342 ?_
  refine lv_cst (v := xs 1) rfl ?_
  refine lv_aload_n hx hb dL_law_343 rfl (lv_at hl 3 rfl) ?_
  refine lv_iload_n hx hb dL_law_344 rfl (lv_at hl 0 rfl) ?_
  refine lv_iconst (v := 2) hx hb dL_law_345 (by decide) ?_
  refine lv_iadd hx hb dL_law_346 ?_
  refine lv_cst (v := 2) (by decide) ?_
  refine va_sld hx hb hX hbl hbA hS (vinL hL (by decide)) dL_law_347 ?_
  refine lv_cst (v := xs 2) rfl ?_
  refine lv_aload_n hx hb dL_law_348 rfl (lv_at hl 3 rfl) ?_
  refine lv_iload_n hx hb dL_law_349 rfl (lv_at hl 0 rfl) ?_
  refine lv_iconst (v := 3) hx hb dL_law_350 (by decide) ?_
  refine lv_iadd hx hb dL_law_351 ?_
  refine lv_cst (v := 3) (by decide) ?_
  refine va_sld hx hb hX hbl hbA hS (vinL hL (by decide)) dL_law_352 ?_
  refine lv_cst (v := xs 3) rfl ?_
  refine lv_aload_n hx hb dL_law_353 rfl (lv_at hl 3 rfl) ?_
  refine lv_iload_n hx hb dL_law_354 rfl (lv_at hl 0 rfl) ?_
  refine lv_iconst (v := 4) hx hb dL_law_355 (by decide) ?_
  refine lv_iadd hx hb dL_law_356 ?_
  refine lv_cst (v := 4) (by decide) ?_
  refine va_sld hx hb hX hbl hbA hS (vinL hL (by decide)) dL_law_357 ?_
  refine lv_cst (v := xs 4) rfl ?_
  refine aftI (wr := []) (runV hC hK hP hD hl.1 (k_X10_made l D cyB cyI cyJ cyZ H.size q3 (xs 1) (xs 2) (xs 3) (xs 4) gs_4 rl_4 mrl_4 hl_gs_4 h_gs_13_4 h_gs_37_4 h_mrl_0_4) cV_X10_made mw_methodLink_RL_40_yX10_made [0, 1] rfl rfl 0 rfl rfl rfl rfl rfl (Nat.le_of_ble_eq_true rfl) ⟨Nat.le_of_ble_eq_true rfl, Nat.le_of_ble_eq_true rfl⟩ ⟨Nat.le_of_ble_eq_true rfl, Nat.le_of_ble_eq_true rfl⟩ dL_law_358) hP hD hS hA [0, 1] [] rfl rfl rfl (by decide) (fun r_2 u_2 H locs hw_2 hP hD hS => ?_)
  have hr_2 := hw_2
  refine lv_cst (v := (-1)) hr_2 ?_
  have hP : va_P D classes [] H := hP
  have hD : va_D A [] := hD
  refine W.widen (k := 104) (n := 213925) (Nat.le_of_ble_eq_true rfl) (Nat.le_of_ble_eq_true rfl) ?_
  refine lv_icmp_eq (tgt := 989) hx hb dL_law_361 (by decide) (fun c_3 => ?_) (fun c_3 => absurd (rfl) c_3)
  refine lv_iinc (v := 6) (lv' := [(3, .int 6), (2, .ref q3), (1, .ref q1), (0, .ref b)]) hx hb dL_law_989 hl (k := 0) rfl (by decide) (by decide) rfl (fun ls hl => ?_)
  refine lv_goto (tgt := 18) hx hb dL_law_992 (by decide) ?_
  refine lv_iload_n hx hb dL_law_18 rfl (lv_at hl 0 rfl) ?_
  refine lv_aload_n hx hb dL_law_19 rfl (lv_at hl 3 rfl) ?_
  refine va_slen hx hb hX hbl hbA hS dL_law_20 ?_
  refine lv_cst (v := 6) (by rw [hL]; rfl) ?_
  refine lv_bipush (v := 6) hx hb dL_law_21 (by decide) ?_
  refine lv_isub hx hb dL_law_23 ?_
  refine lv_cst (v := 0) (by decide) ?_
  refine lv_icmp_gt (tgt := 995) hx hb dL_law_24 (by decide) (fun c_4 => ?_) (fun c_4 => absurd (by decide) c_4)
  refine lv_iconst (v := 1) hx hb dL_law_995 (by decide) ?_
  refine va_forget (fun q hq => hAf _ (hS.2.2 q hq)) ?_
  refine W.widen (k := 600000) (n := 7302250) (Nat.le_of_ble_eq_true rfl) (Nat.le_of_ble_eq_true rfl) ?_
  exact lw_ret hx hb hr hlk dL_law_996
set_option maxHeartbeats 4000000 in
set_option maxRecDepth 100000 in
theorem law_6 {p : Program} {e : Env} {s : State} {m : MethodId} {below : List Frame} {meth : Method} {c : Code} (l : Launch) {b L : Nat} {xs : Nat → Int32} {A : Nat → Prop} {D : va_G} {cyB cyI cyJ cyZ : ClassId} (hC : Ctx p s m meth c #[Value.ref b] code 4 ret RL meth.name) (hX : va_X b L xs s s.heap) (hbl : b < s.heap.size) (hA : ∀ q, s.heap.size ≤ q → A q) (hAf : ∀ q, A q → s.heap.size ≤ q) (hbA : ¬ A b) (hK : va_K D classes (TYS cyB cyI cyJ cyZ) s) (hL : L = 6) {q1 : Nat} {fs_2 : List Value} {dd_2 : Nat} {ea_2 : Nat} {fdd_2 : List Value} {fea_2 : List Value} {er_2 : Nat} {eb_2 : Nat} {fer_2 : Nat → Int64} {feb_2 : Nat → Int32} {q3 : Nat} {gs_4 : List Value} {mn_4 : Nat} {rw_4 : Nat} {nw_4 : Nat} {ws_4 : Nat} {mmn_4 : Nat → Int32} {mrw_4 : Nat → Int32} {mnw_4 : Nat → Int32} {mws_4 : Nat → Int32} (hl_fs_2 : fs_2.length = 17) (h_fs_3_2 : fs_2[3]? = some (.ref dd_2)) (h_fs_7_2 : fs_2[7]? = some (.ref ea_2)) (hl_fdd_2 : fdd_2.length = 15) (h_fdd_1_2 : fdd_2[1]? = some (.int 0)) (hl_fea_2 : fea_2.length = 4) (h_fea_0_2 : fea_2[0]? = some (.ref er_2)) (h_fea_1_2 : fea_2[1]? = some (.ref eb_2)) (h_fea_2_2 : fea_2[2]? = some (.int 0)) (h_fer_0_2 : fer_2 0 = 0) (h_feb_0_2 : feb_2 0 = 0) (hl_gs_4 : gs_4.length = 80) (h_gs_12_4 : gs_4[12]? = some (.ref mn_4)) (h_gs_43_4 : gs_4[43]? = some (.ref rw_4)) (h_gs_45_4 : gs_4[45]? = some (.ref nw_4)) (h_gs_50_4 : gs_4[50]? = some (.ref ws_4)) (h_gs_37_4 : gs_4[37]? = some (.int 0)) (h_gs_46_4 : gs_4[46]? = some (.int 0)) (h_gs_51_4 : gs_4[51]? = some (.int 0)) (h_mmn_0_4 : mmn_4 0 = 0) {H : Heap} {locs : List Loc} {ls : Array Slot} (hl : lv_has ls 4 [(3, .int 0), (2, .ref q3), (1, .ref q1), (0, .ref b)]) (hP : va_P D classes [(q1, .inr (9, fs_2)), (dd_2, .inr (2, fdd_2)), (ea_2, .inr (3, fea_2)), (er_2, .inl (cyJ, 41, .inr (.inl fer_2))), (eb_2, .inl (cyI, 41, .inl feb_2)), (q3, .inr (10, gs_4)), (mn_4, .inl (cyI, 2, .inl mmn_4)), (rw_4, .inl (cyI, 30, .inl mrw_4)), (nw_4, .inl (cyI, 30, .inl mnw_4)), (ws_4, .inl (cyI, 1271, .inl mws_4))] H) (hD : va_D A [(q1, .inr (9, fs_2)), (dd_2, .inr (2, fdd_2)), (ea_2, .inr (3, fea_2)), (er_2, .inl (cyJ, 41, .inr (.inl fer_2))), (eb_2, .inl (cyI, 41, .inl feb_2)), (q3, .inr (10, gs_4)), (mn_4, .inl (cyI, 2, .inl mmn_4)), (rw_4, .inl (cyI, 30, .inl mrw_4)), (nw_4, .inl (cyI, 30, .inl mnw_4)), (ws_4, .inl (cyI, 1271, .inl mws_4))]) (hS : va_S A s.heap H locs) : W p l e room_1 s m #[Value.ref b] below meth c H locs 104 213925 (lw_Z below #[Value.ref b] s) (F0 m 366 ls []) := by
  obtain ⟨hx, hb, hr, hml, hown, hts, hlk, -⟩ := id hC
  refine lv_aload_n hx hb dL_law_366 rfl (lv_at hl 2 rfl) ?_
  refine lv_aload_n hx hb dL_law_367 rfl (lv_at hl 3 rfl) ?_
  refine lv_iload_n hx hb dL_law_368 rfl (lv_at hl 0 rfl) ?_
  refine lv_iconst (v := 1) hx hb dL_law_369 (by decide) ?_
  refine lv_iadd hx hb dL_law_370 ?_
  refine lv_cst (v := 1) (by decide) ?_
  refine va_sld hx hb hX hbl hbA hS (vinL hL (by decide)) dL_law_371 ?_
  refine lv_cst (v := xs 1) rfl ?_
  refine aftI (wr := [(q3, .inr (10, gs_4)), (mn_4, .inl (cyI, 2, .inl mmn_4)), (rw_4, .inl (cyI, 30, .inl mrw_4)), (nw_4, .inl (cyI, 30, .inl mnw_4)), (ws_4, .inl (cyI, 1271, .inl mws_4))]) (runV hC hK hP hD hl.1 (k_X9_run l D cyB cyI cyJ cyZ H.size q1 (xs 1) fs_2 dd_2 ea_2 fdd_2 fea_2 er_2 eb_2 fer_2 feb_2 hl_fs_2 h_fs_3_2 h_fs_7_2 hl_fdd_2 h_fdd_1_2 hl_fea_2 h_fea_0_2 h_fea_1_2 h_fea_2_2 h_fer_0_2 h_feb_0_2) cV_X9_run mw_methodLink_RL_41_yX9_run [0, 1, 2, 3, 4] rfl rfl 0 rfl rfl rfl rfl rfl (Nat.le_of_ble_eq_true rfl) ⟨Nat.le_of_ble_eq_true rfl, Nat.le_of_ble_eq_true rfl⟩ ⟨Nat.le_of_ble_eq_true rfl, Nat.le_of_ble_eq_true rfl⟩ dL_law_372) hP hD hS hA [0, 1, 2, 3, 4] [5, 6, 7, 8, 9] rfl rfl rfl (by decide) (fun r_1 u_1 H locs hw_1 hP hD hS => ?_)
  have hr_1 := hw_1
  refine lv_cst (v := (sp_run (xs 1))) hr_1 ?_
  have hP : va_P D classes [(q3, .inr (10, gs_4)), (mn_4, .inl (cyI, 2, .inl mmn_4)), (rw_4, .inl (cyI, 30, .inl mrw_4)), (nw_4, .inl (cyI, 30, .inl mnw_4)), (ws_4, .inl (cyI, 1271, .inl mws_4))] H := hP
  have hD : va_D A [(q3, .inr (10, gs_4)), (mn_4, .inl (cyI, 2, .inl mmn_4)), (rw_4, .inl (cyI, 30, .inl mrw_4)), (nw_4, .inl (cyI, 30, .inl mnw_4)), (ws_4, .inl (cyI, 1271, .inl mws_4))] := hD
  refine W.widen (k := 104) (n := 213925) (Nat.le_of_ble_eq_true rfl) (Nat.le_of_ble_eq_true rfl) ?_
  refine lv_aload_n hx hb dL_law_375 rfl (lv_at hl 1 rfl) ?_
  refine lv_aload_n hx hb dL_law_376 rfl (lv_at hl 3 rfl) ?_
  refine lv_iload_n hx hb dL_law_377 rfl (lv_at hl 0 rfl) ?_
  refine lv_iconst (v := 1) hx hb dL_law_378 (by decide) ?_
  refine lv_iadd hx hb dL_law_379 ?_
  refine lv_cst (v := 1) (by decide) ?_
  refine va_sld hx hb hX hbl hbA hS (vinL hL (by decide)) dL_law_380 ?_
  refine lv_cst (v := xs 1) rfl ?_
  refine aftI (wr := []) (runV hC hK hP hD hl.1 (k_X10_run l D cyB cyI cyJ cyZ H.size q3 (xs 1) gs_4 ws_4 nw_4 rw_4 mn_4 mws_4 mnw_4 mrw_4 mmn_4 hl_gs_4 h_gs_50_4 h_gs_45_4 h_gs_43_4 h_gs_12_4 h_gs_51_4 h_gs_46_4 h_gs_37_4 h_mmn_0_4) cV_X10_run mw_methodLink_RL_44_yX10_run [0, 4, 3, 2, 1] rfl rfl 0 rfl rfl rfl rfl rfl (Nat.le_of_ble_eq_true rfl) ⟨Nat.le_of_ble_eq_true rfl, Nat.le_of_ble_eq_true rfl⟩ ⟨Nat.le_of_ble_eq_true rfl, Nat.le_of_ble_eq_true rfl⟩ dL_law_381) hP hD hS hA [0, 4, 3, 2, 1] [] rfl rfl rfl (by decide) (fun r_2 u_2 H locs hw_2 hP hD hS => ?_)
  have hr_2 := hw_2
  refine lv_cst (v := (sp_run (xs 1))) hr_2 ?_
  have hP : va_P D classes [] H := hP
  have hD : va_D A [] := hD
  refine W.widen (k := 104) (n := 213925) (Nat.le_of_ble_eq_true rfl) (Nat.le_of_ble_eq_true rfl) ?_
  refine lv_icmp_eq (tgt := 989) hx hb dL_law_384 (by decide) (fun c_3 => ?_) (fun c_3 => absurd (rfl) c_3)
  refine lv_iinc (v := 6) (lv' := [(3, .int 6), (2, .ref q3), (1, .ref q1), (0, .ref b)]) hx hb dL_law_989 hl (k := 0) rfl (by decide) (by decide) rfl (fun ls hl => ?_)
  refine lv_goto (tgt := 18) hx hb dL_law_992 (by decide) ?_
  refine lv_iload_n hx hb dL_law_18 rfl (lv_at hl 0 rfl) ?_
  refine lv_aload_n hx hb dL_law_19 rfl (lv_at hl 3 rfl) ?_
  refine va_slen hx hb hX hbl hbA hS dL_law_20 ?_
  refine lv_cst (v := 6) (by rw [hL]; rfl) ?_
  refine lv_bipush (v := 6) hx hb dL_law_21 (by decide) ?_
  refine lv_isub hx hb dL_law_23 ?_
  refine lv_cst (v := 0) (by decide) ?_
  refine lv_icmp_gt (tgt := 995) hx hb dL_law_24 (by decide) (fun c_4 => ?_) (fun c_4 => absurd (by decide) c_4)
  refine lv_iconst (v := 1) hx hb dL_law_995 (by decide) ?_
  refine va_forget (fun q hq => hAf _ (hS.2.2 q hq)) ?_
  refine W.widen (k := 600000) (n := 7302250) (Nat.le_of_ble_eq_true rfl) (Nat.le_of_ble_eq_true rfl) ?_
  exact lw_ret hx hb hr hlk dL_law_996
set_option maxHeartbeats 4000000 in
set_option maxRecDepth 100000 in
theorem law_7 {p : Program} {e : Env} {s : State} {m : MethodId} {below : List Frame} {meth : Method} {c : Code} (l : Launch) {b L : Nat} {xs : Nat → Int32} {A : Nat → Prop} {D : va_G} {cyB cyI cyJ cyZ : ClassId} (hC : Ctx p s m meth c #[Value.ref b] code 4 ret RL meth.name) (hX : va_X b L xs s s.heap) (hbl : b < s.heap.size) (hA : ∀ q, s.heap.size ≤ q → A q) (hAf : ∀ q, A q → s.heap.size ≤ q) (hbA : ¬ A b) (hK : va_K D classes (TYS cyB cyI cyJ cyZ) s) (hL : L = 6) {q1 : Nat} {fs_2 : List Value} {dd_2 : Nat} {fdd_2 : List Value} {q3 : Nat} {gs_4 : List Value} {mn_4 : Nat} {mmn_4 : Nat → Int32} (hl_fs_2 : fs_2.length = 17) (h_fs_3_2 : fs_2[3]? = some (.ref dd_2)) (hl_fdd_2 : fdd_2.length = 15) (h_fdd_1_2 : fdd_2[1]? = some (.int 0)) (hl_gs_4 : gs_4.length = 80) (h_gs_12_4 : gs_4[12]? = some (.ref mn_4)) (h_gs_37_4 : gs_4[37]? = some (.int 0)) (h_mmn_0_4 : mmn_4 0 = 0) {H : Heap} {locs : List Loc} {ls : Array Slot} (hl : lv_has ls 4 [(3, .int 0), (2, .ref q3), (1, .ref q1), (0, .ref b)]) (hP : va_P D classes [(q1, .inr (9, fs_2)), (dd_2, .inr (2, fdd_2)), (q3, .inr (10, gs_4)), (mn_4, .inl (cyI, 2, .inl mmn_4))] H) (hD : va_D A [(q1, .inr (9, fs_2)), (dd_2, .inr (2, fdd_2)), (q3, .inr (10, gs_4)), (mn_4, .inl (cyI, 2, .inl mmn_4))]) (hS : va_S A s.heap H locs) : W p l e room_1 s m #[Value.ref b] below meth c H locs 104 213925 (lw_Z below #[Value.ref b] s) (F0 m 389 ls []) := by
  obtain ⟨hx, hb, hr, hml, hown, hts, hlk, -⟩ := id hC
  refine lv_aload_n hx hb dL_law_389 rfl (lv_at hl 2 rfl) ?_
  refine lv_aload_n hx hb dL_law_390 rfl (lv_at hl 3 rfl) ?_
  refine lv_iload_n hx hb dL_law_391 rfl (lv_at hl 0 rfl) ?_
  refine lv_iconst (v := 1) hx hb dL_law_392 (by decide) ?_
  refine lv_iadd hx hb dL_law_393 ?_
  refine lv_cst (v := 1) (by decide) ?_
  refine va_sld hx hb hX hbl hbA hS (vinL hL (by decide)) dL_law_394 ?_
  refine lv_cst (v := xs 1) rfl ?_
  refine lv_aload_n hx hb dL_law_395 rfl (lv_at hl 3 rfl) ?_
  refine lv_iload_n hx hb dL_law_396 rfl (lv_at hl 0 rfl) ?_
  refine lv_iconst (v := 2) hx hb dL_law_397 (by decide) ?_
  refine lv_iadd hx hb dL_law_398 ?_
  refine lv_cst (v := 2) (by decide) ?_
  refine va_sld hx hb hX hbl hbA hS (vinL hL (by decide)) dL_law_399 ?_
  refine lv_cst (v := xs 2) rfl ?_
  refine aftI (wr := [(q3, .inr (10, gs_4)), (mn_4, .inl (cyI, 2, .inl mmn_4))]) (runV hC hK hP hD hl.1 (k_X9_order l D cyB cyI cyJ cyZ H.size q1 (xs 1) (xs 2) fs_2 dd_2 fdd_2 hl_fs_2 h_fs_3_2 hl_fdd_2 h_fdd_1_2) cV_X9_order mw_methodLink_RL_45_yX9_order [0, 1] rfl rfl 0 rfl rfl rfl rfl rfl (Nat.le_of_ble_eq_true rfl) ⟨Nat.le_of_ble_eq_true rfl, Nat.le_of_ble_eq_true rfl⟩ ⟨Nat.le_of_ble_eq_true rfl, Nat.le_of_ble_eq_true rfl⟩ dL_law_400) hP hD hS hA [0, 1] [2, 3] rfl rfl rfl (by decide) (fun r_1 u_1 H locs hw_1 hP hD hS => ?_)
  have hr_1 := hw_1
  refine lv_cst (v := (-1)) hr_1 ?_
  have hP : va_P D classes [(q3, .inr (10, gs_4)), (mn_4, .inl (cyI, 2, .inl mmn_4))] H := hP
  have hD : va_D A [(q3, .inr (10, gs_4)), (mn_4, .inl (cyI, 2, .inl mmn_4))] := hD
  refine W.widen (k := 104) (n := 213925) (Nat.le_of_ble_eq_true rfl) (Nat.le_of_ble_eq_true rfl) ?_
  refine lv_aload_n hx hb dL_law_403 rfl (lv_at hl 1 rfl) ?_
  refine lv_aload_n hx hb dL_law_404 rfl (lv_at hl 3 rfl) ?_
  refine lv_iload_n hx hb dL_law_405 rfl (lv_at hl 0 rfl) ?_
  refine lv_iconst (v := 1) hx hb dL_law_406 (by decide) ?_
  refine lv_iadd hx hb dL_law_407 ?_
  refine lv_cst (v := 1) (by decide) ?_
  refine va_sld hx hb hX hbl hbA hS (vinL hL (by decide)) dL_law_408 ?_
  refine lv_cst (v := xs 1) rfl ?_
  refine lv_aload_n hx hb dL_law_409 rfl (lv_at hl 3 rfl) ?_
  refine lv_iload_n hx hb dL_law_410 rfl (lv_at hl 0 rfl) ?_
  refine lv_iconst (v := 2) hx hb dL_law_411 (by decide) ?_
  refine lv_iadd hx hb dL_law_412 ?_
  refine lv_cst (v := 2) (by decide) ?_
  refine va_sld hx hb hX hbl hbA hS (vinL hL (by decide)) dL_law_413 ?_
  refine lv_cst (v := xs 2) rfl ?_
  refine aftI (wr := []) (runV hC hK hP hD hl.1 (k_X10_order l D cyB cyI cyJ cyZ H.size q3 (xs 1) (xs 2) gs_4 mn_4 mmn_4 hl_gs_4 h_gs_12_4 h_gs_37_4 h_mmn_0_4) cV_X10_order mw_methodLink_RL_49_yX10_order [0, 1] rfl rfl 0 rfl rfl rfl rfl rfl (Nat.le_of_ble_eq_true rfl) ⟨Nat.le_of_ble_eq_true rfl, Nat.le_of_ble_eq_true rfl⟩ ⟨Nat.le_of_ble_eq_true rfl, Nat.le_of_ble_eq_true rfl⟩ dL_law_414) hP hD hS hA [0, 1] [] rfl rfl rfl (by decide) (fun r_2 u_2 H locs hw_2 hP hD hS => ?_)
  have hr_2 := hw_2
  refine lv_cst (v := (-1)) hr_2 ?_
  have hP : va_P D classes [] H := hP
  have hD : va_D A [] := hD
  refine W.widen (k := 104) (n := 213925) (Nat.le_of_ble_eq_true rfl) (Nat.le_of_ble_eq_true rfl) ?_
  refine lv_icmp_eq (tgt := 989) hx hb dL_law_417 (by decide) (fun c_3 => ?_) (fun c_3 => absurd (rfl) c_3)
  refine lv_iinc (v := 6) (lv' := [(3, .int 6), (2, .ref q3), (1, .ref q1), (0, .ref b)]) hx hb dL_law_989 hl (k := 0) rfl (by decide) (by decide) rfl (fun ls hl => ?_)
  refine lv_goto (tgt := 18) hx hb dL_law_992 (by decide) ?_
  refine lv_iload_n hx hb dL_law_18 rfl (lv_at hl 0 rfl) ?_
  refine lv_aload_n hx hb dL_law_19 rfl (lv_at hl 3 rfl) ?_
  refine va_slen hx hb hX hbl hbA hS dL_law_20 ?_
  refine lv_cst (v := 6) (by rw [hL]; rfl) ?_
  refine lv_bipush (v := 6) hx hb dL_law_21 (by decide) ?_
  refine lv_isub hx hb dL_law_23 ?_
  refine lv_cst (v := 0) (by decide) ?_
  refine lv_icmp_gt (tgt := 995) hx hb dL_law_24 (by decide) (fun c_4 => ?_) (fun c_4 => absurd (by decide) c_4)
  refine lv_iconst (v := 1) hx hb dL_law_995 (by decide) ?_
  refine va_forget (fun q hq => hAf _ (hS.2.2 q hq)) ?_
  refine W.widen (k := 600000) (n := 7302250) (Nat.le_of_ble_eq_true rfl) (Nat.le_of_ble_eq_true rfl) ?_
  exact lw_ret hx hb hr hlk dL_law_996
set_option maxHeartbeats 4000000 in
set_option maxRecDepth 100000 in
theorem law_8 {p : Program} {e : Env} {s : State} {m : MethodId} {below : List Frame} {meth : Method} {c : Code} (l : Launch) {b L : Nat} {xs : Nat → Int32} {A : Nat → Prop} {D : va_G} {cyB cyI cyJ cyZ : ClassId} (hC : Ctx p s m meth c #[Value.ref b] code 4 ret RL meth.name) (hX : va_X b L xs s s.heap) (hbl : b < s.heap.size) (hA : ∀ q, s.heap.size ≤ q → A q) (hAf : ∀ q, A q → s.heap.size ≤ q) (hbA : ¬ A b) (hK : va_K D classes (TYS cyB cyI cyJ cyZ) s) (hL : L = 6) {q1 : Nat} {fs_2 : List Value} {ea_2 : Nat} {fea_2 : List Value} {q3 : Nat} {gs_4 : List Value} (hl_fs_2 : fs_2.length = 17) (h_fs_7_2 : fs_2[7]? = some (.ref ea_2)) (hl_fea_2 : fea_2.length = 4) (h_fea_2_2 : fea_2[2]? = some (.int 0)) (hl_gs_4 : gs_4.length = 80) (h_gs_51_4 : gs_4[51]? = some (.int 0)) {H : Heap} {locs : List Loc} {ls : Array Slot} (hl : lv_has ls 4 [(3, .int 0), (2, .ref q3), (1, .ref q1), (0, .ref b)]) (hP : va_P D classes [(q1, .inr (9, fs_2)), (ea_2, .inr (3, fea_2)), (q3, .inr (10, gs_4))] H) (hD : va_D A [(q1, .inr (9, fs_2)), (ea_2, .inr (3, fea_2)), (q3, .inr (10, gs_4))]) (hS : va_S A s.heap H locs) : W p l e room_1 s m #[Value.ref b] below meth c H locs 104 213925 (lw_Z below #[Value.ref b] s) (F0 m 422 ls []) := by
  obtain ⟨hx, hb, hr, hml, hown, hts, hlk, -⟩ := id hC
  refine lv_aload_n hx hb dL_law_422 rfl (lv_at hl 2 rfl) ?_
  refine aftI (wr := [(q3, .inr (10, gs_4))]) (runV hC hK hP hD hl.1 (k_X9_undo l D cyB cyI cyJ cyZ H.size q1 fs_2 ea_2 fea_2 hl_fs_2 h_fs_7_2 hl_fea_2 h_fea_2_2) cV_X9_undo mw_methodLink_RL_50_yX9_undo [0, 1] rfl rfl 0 rfl rfl rfl rfl rfl (Nat.le_of_ble_eq_true rfl) ⟨Nat.le_of_ble_eq_true rfl, Nat.le_of_ble_eq_true rfl⟩ ⟨Nat.le_of_ble_eq_true rfl, Nat.le_of_ble_eq_true rfl⟩ dL_law_423) hP hD hS hA [0, 1] [2] rfl rfl rfl (by decide) (fun r_1 u_1 H locs hw_1 hP hD hS => ?_)
  have hr_1 := hw_1
  refine lv_cst (v := 0) hr_1 ?_
  have hP : va_P D classes [(q3, .inr (10, gs_4))] H := hP
  have hD : va_D A [(q3, .inr (10, gs_4))] := hD
  refine W.widen (k := 104) (n := 213925) (Nat.le_of_ble_eq_true rfl) (Nat.le_of_ble_eq_true rfl) ?_
  refine lv_aload_n hx hb dL_law_426 rfl (lv_at hl 1 rfl) ?_
  refine aftI (wr := []) (runV hC hK hP hD hl.1 (k_X10_undo l D cyB cyI cyJ cyZ H.size q3 gs_4 hl_gs_4 h_gs_51_4) cV_X10_undo mw_methodLink_RL_54_yX10_undo [0] rfl rfl 0 rfl rfl rfl rfl rfl (Nat.le_of_ble_eq_true rfl) ⟨Nat.le_of_ble_eq_true rfl, Nat.le_of_ble_eq_true rfl⟩ ⟨Nat.le_of_ble_eq_true rfl, Nat.le_of_ble_eq_true rfl⟩ dL_law_427) hP hD hS hA [0] [] rfl rfl rfl (by decide) (fun r_2 u_2 H locs hw_2 hP hD hS => ?_)
  have hr_2 := hw_2
  refine lv_cst (v := 0) hr_2 ?_
  have hP : va_P D classes [] H := hP
  have hD : va_D A [] := hD
  refine W.widen (k := 104) (n := 213925) (Nat.le_of_ble_eq_true rfl) (Nat.le_of_ble_eq_true rfl) ?_
  refine lv_icmp_eq (tgt := 989) hx hb dL_law_430 (by decide) (fun c_3 => ?_) (fun c_3 => absurd (rfl) c_3)
  refine lv_iinc (v := 6) (lv' := [(3, .int 6), (2, .ref q3), (1, .ref q1), (0, .ref b)]) hx hb dL_law_989 hl (k := 0) rfl (by decide) (by decide) rfl (fun ls hl => ?_)
  refine lv_goto (tgt := 18) hx hb dL_law_992 (by decide) ?_
  refine lv_iload_n hx hb dL_law_18 rfl (lv_at hl 0 rfl) ?_
  refine lv_aload_n hx hb dL_law_19 rfl (lv_at hl 3 rfl) ?_
  refine va_slen hx hb hX hbl hbA hS dL_law_20 ?_
  refine lv_cst (v := 6) (by rw [hL]; rfl) ?_
  refine lv_bipush (v := 6) hx hb dL_law_21 (by decide) ?_
  refine lv_isub hx hb dL_law_23 ?_
  refine lv_cst (v := 0) (by decide) ?_
  refine lv_icmp_gt (tgt := 995) hx hb dL_law_24 (by decide) (fun c_4 => ?_) (fun c_4 => absurd (by decide) c_4)
  refine lv_iconst (v := 1) hx hb dL_law_995 (by decide) ?_
  refine va_forget (fun q hq => hAf _ (hS.2.2 q hq)) ?_
  refine W.widen (k := 600000) (n := 7302250) (Nat.le_of_ble_eq_true rfl) (Nat.le_of_ble_eq_true rfl) ?_
  exact lw_ret hx hb hr hlk dL_law_996
set_option maxHeartbeats 4000000 in
set_option maxRecDepth 100000 in
theorem law_9 {p : Program} {e : Env} {s : State} {m : MethodId} {below : List Frame} {meth : Method} {c : Code} (l : Launch) {b L : Nat} {xs : Nat → Int32} {A : Nat → Prop} {D : va_G} {cyB cyI cyJ cyZ : ClassId} (hC : Ctx p s m meth c #[Value.ref b] code 4 ret RL meth.name) (hX : va_X b L xs s s.heap) (hbl : b < s.heap.size) (hA : ∀ q, s.heap.size ≤ q → A q) (hAf : ∀ q, A q → s.heap.size ≤ q) (hbA : ¬ A b) (hK : va_K D classes (TYS cyB cyI cyJ cyZ) s) (hL : L = 6) {q1 : Nat} {fs_2 : List Value} {ea_2 : Nat} {fea_2 : List Value} {q3 : Nat} {gs_4 : List Value} (hl_fs_2 : fs_2.length = 17) (h_fs_7_2 : fs_2[7]? = some (.ref ea_2)) (hl_fea_2 : fea_2.length = 4) (h_fea_2_2 : fea_2[2]? = some (.int 0)) (h_fea_3_2 : fea_2[3]? = some (.int 0)) (hl_gs_4 : gs_4.length = 80) (h_gs_52_4 : gs_4[52]? = some (.int 0)) {H : Heap} {locs : List Loc} {ls : Array Slot} (hl : lv_has ls 4 [(3, .int 0), (2, .ref q3), (1, .ref q1), (0, .ref b)]) (hP : va_P D classes [(q1, .inr (9, fs_2)), (ea_2, .inr (3, fea_2)), (q3, .inr (10, gs_4))] H) (hD : va_D A [(q1, .inr (9, fs_2)), (ea_2, .inr (3, fea_2)), (q3, .inr (10, gs_4))]) (hS : va_S A s.heap H locs) : W p l e room_1 s m #[Value.ref b] below meth c H locs 104 213925 (lw_Z below #[Value.ref b] s) (F0 m 435 ls []) := by
  obtain ⟨hx, hb, hr, hml, hown, hts, hlk, -⟩ := id hC
  refine lv_aload_n hx hb dL_law_435 rfl (lv_at hl 2 rfl) ?_
  refine aftI (wr := [(q3, .inr (10, gs_4))]) (runV hC hK hP hD hl.1 (k_X9_redo l D cyB cyI cyJ cyZ H.size q1 fs_2 ea_2 fea_2 hl_fs_2 h_fs_7_2 hl_fea_2 h_fea_2_2 h_fea_3_2) cV_X9_redo mw_methodLink_RL_55_yX9_redo [0, 1] rfl rfl 0 rfl rfl rfl rfl rfl (Nat.le_of_ble_eq_true rfl) ⟨Nat.le_of_ble_eq_true rfl, Nat.le_of_ble_eq_true rfl⟩ ⟨Nat.le_of_ble_eq_true rfl, Nat.le_of_ble_eq_true rfl⟩ dL_law_436) hP hD hS hA [0, 1] [2] rfl rfl rfl (by decide) (fun r_1 u_1 H locs hw_1 hP hD hS => ?_)
  have hr_1 := hw_1
  refine lv_cst (v := 0) hr_1 ?_
  have hP : va_P D classes [(q3, .inr (10, gs_4))] H := hP
  have hD : va_D A [(q3, .inr (10, gs_4))] := hD
  refine W.widen (k := 104) (n := 213925) (Nat.le_of_ble_eq_true rfl) (Nat.le_of_ble_eq_true rfl) ?_
  refine lv_aload_n hx hb dL_law_439 rfl (lv_at hl 1 rfl) ?_
  refine aftI (wr := []) (runV hC hK hP hD hl.1 (k_X10_redo l D cyB cyI cyJ cyZ H.size q3 gs_4 hl_gs_4 h_gs_52_4) cV_X10_redo mw_methodLink_RL_58_yX10_redo [0] rfl rfl 0 rfl rfl rfl rfl rfl (Nat.le_of_ble_eq_true rfl) ⟨Nat.le_of_ble_eq_true rfl, Nat.le_of_ble_eq_true rfl⟩ ⟨Nat.le_of_ble_eq_true rfl, Nat.le_of_ble_eq_true rfl⟩ dL_law_440) hP hD hS hA [0] [] rfl rfl rfl (by decide) (fun r_2 u_2 H locs hw_2 hP hD hS => ?_)
  have hr_2 := hw_2
  refine lv_cst (v := 0) hr_2 ?_
  have hP : va_P D classes [] H := hP
  have hD : va_D A [] := hD
  refine W.widen (k := 104) (n := 213925) (Nat.le_of_ble_eq_true rfl) (Nat.le_of_ble_eq_true rfl) ?_
  refine lv_icmp_eq (tgt := 989) hx hb dL_law_443 (by decide) (fun c_3 => ?_) (fun c_3 => absurd (rfl) c_3)
  refine lv_iinc (v := 6) (lv' := [(3, .int 6), (2, .ref q3), (1, .ref q1), (0, .ref b)]) hx hb dL_law_989 hl (k := 0) rfl (by decide) (by decide) rfl (fun ls hl => ?_)
  refine lv_goto (tgt := 18) hx hb dL_law_992 (by decide) ?_
  refine lv_iload_n hx hb dL_law_18 rfl (lv_at hl 0 rfl) ?_
  refine lv_aload_n hx hb dL_law_19 rfl (lv_at hl 3 rfl) ?_
  refine va_slen hx hb hX hbl hbA hS dL_law_20 ?_
  refine lv_cst (v := 6) (by rw [hL]; rfl) ?_
  refine lv_bipush (v := 6) hx hb dL_law_21 (by decide) ?_
  refine lv_isub hx hb dL_law_23 ?_
  refine lv_cst (v := 0) (by decide) ?_
  refine lv_icmp_gt (tgt := 995) hx hb dL_law_24 (by decide) (fun c_4 => ?_) (fun c_4 => absurd (by decide) c_4)
  refine lv_iconst (v := 1) hx hb dL_law_995 (by decide) ?_
  refine va_forget (fun q hq => hAf _ (hS.2.2 q hq)) ?_
  refine W.widen (k := 600000) (n := 7302250) (Nat.le_of_ble_eq_true rfl) (Nat.le_of_ble_eq_true rfl) ?_
  exact lw_ret hx hb hr hlk dL_law_996
set_option maxHeartbeats 4000000 in
set_option maxRecDepth 100000 in
theorem law_10 {p : Program} {e : Env} {s : State} {m : MethodId} {below : List Frame} {meth : Method} {c : Code} (l : Launch) {b L : Nat} {xs : Nat → Int32} {A : Nat → Prop} {D : va_G} {cyB cyI cyJ cyZ : ClassId} (hC : Ctx p s m meth c #[Value.ref b] code 4 ret RL meth.name) (hX : va_X b L xs s s.heap) (hbl : b < s.heap.size) (hA : ∀ q, s.heap.size ≤ q → A q) (hAf : ∀ q, A q → s.heap.size ≤ q) (hbA : ¬ A b) (hK : va_K D classes (TYS cyB cyI cyJ cyZ) s) (hL : L = 6) {q1 : Nat} {fs_2 : List Value} {dd_2 : Nat} {ea_2 : Nat} {fdd_2 : List Value} {fea_2 : List Value} {er_2 : Nat} {fer_2 : Nat → Int64} {q3 : Nat} {gs_4 : List Value} {mn_4 : Nat} {mmn_4 : Nat → Int32} (hl_fs_2 : fs_2.length = 17) (h_fs_3_2 : fs_2[3]? = some (.ref dd_2)) (h_fs_7_2 : fs_2[7]? = some (.ref ea_2)) (hl_fdd_2 : fdd_2.length = 15) (h_fdd_1_2 : fdd_2[1]? = some (.int 0)) (hl_fea_2 : fea_2.length = 4) (h_fea_0_2 : fea_2[0]? = some (.ref er_2)) (h_fea_2_2 : fea_2[2]? = some (.int 0)) (h_fer_0_2 : fer_2 0 = 0) (hl_gs_4 : gs_4.length = 80) (h_gs_12_4 : gs_4[12]? = some (.ref mn_4)) (h_gs_37_4 : gs_4[37]? = some (.int 0)) (h_mmn_0_4 : mmn_4 0 = 0) {H : Heap} {locs : List Loc} {ls : Array Slot} (hl : lv_has ls 4 [(3, .int 0), (2, .ref q3), (1, .ref q1), (0, .ref b)]) (hP : va_P D classes [(q1, .inr (9, fs_2)), (dd_2, .inr (2, fdd_2)), (ea_2, .inr (3, fea_2)), (er_2, .inl (cyJ, 41, .inr (.inl fer_2))), (q3, .inr (10, gs_4)), (mn_4, .inl (cyI, 2, .inl mmn_4))] H) (hD : va_D A [(q1, .inr (9, fs_2)), (dd_2, .inr (2, fdd_2)), (ea_2, .inr (3, fea_2)), (er_2, .inl (cyJ, 41, .inr (.inl fer_2))), (q3, .inr (10, gs_4)), (mn_4, .inl (cyI, 2, .inl mmn_4))]) (hS : va_S A s.heap H locs) : W p l e room_1 s m #[Value.ref b] below meth c H locs 104 213925 (lw_Z below #[Value.ref b] s) (F0 m 448 ls []) := by
  obtain ⟨hx, hb, hr, hml, hown, hts, hlk, -⟩ := id hC
  refine lv_aload_n hx hb dL_law_448 rfl (lv_at hl 2 rfl) ?_
  refine aftI (wr := [(q3, .inr (10, gs_4)), (mn_4, .inl (cyI, 2, .inl mmn_4))]) (runV hC hK hP hD hl.1 (k_X9_worth l D cyB cyI cyJ cyZ H.size q1 fs_2 dd_2 ea_2 fdd_2 fea_2 er_2 fer_2 hl_fs_2 h_fs_3_2 h_fs_7_2 hl_fdd_2 h_fdd_1_2 hl_fea_2 h_fea_0_2 h_fea_2_2 h_fer_0_2) cV_X9_worth mw_methodLink_RL_59_yX9_worth [0, 1, 2, 3] rfl rfl 0 rfl rfl rfl rfl rfl (Nat.le_of_ble_eq_true rfl) ⟨Nat.le_of_ble_eq_true rfl, Nat.le_of_ble_eq_true rfl⟩ ⟨Nat.le_of_ble_eq_true rfl, Nat.le_of_ble_eq_true rfl⟩ dL_law_449) hP hD hS hA [0, 1, 2, 3] [4, 5] rfl rfl rfl (by decide) (fun r_1 u_1 H locs hw_1 hP hD hS => ?_)
  have hr_1 := hw_1
  refine lv_cst (v := 0) hr_1 ?_
  have hP : va_P D classes [(q3, .inr (10, gs_4)), (mn_4, .inl (cyI, 2, .inl mmn_4))] H := hP
  have hD : va_D A [(q3, .inr (10, gs_4)), (mn_4, .inl (cyI, 2, .inl mmn_4))] := hD
  refine W.widen (k := 104) (n := 213925) (Nat.le_of_ble_eq_true rfl) (Nat.le_of_ble_eq_true rfl) ?_
  refine lv_aload_n hx hb dL_law_452 rfl (lv_at hl 1 rfl) ?_
  refine aftI (wr := []) (runV hC hK hP hD hl.1 (k_X10_worth l D cyB cyI cyJ cyZ H.size q3 gs_4 mn_4 mmn_4 hl_gs_4 h_gs_12_4 h_gs_37_4 h_mmn_0_4) cV_X10_worth mw_methodLink_RL_62_yX10_worth [0, 1] rfl rfl 0 rfl rfl rfl rfl rfl (Nat.le_of_ble_eq_true rfl) ⟨Nat.le_of_ble_eq_true rfl, Nat.le_of_ble_eq_true rfl⟩ ⟨Nat.le_of_ble_eq_true rfl, Nat.le_of_ble_eq_true rfl⟩ dL_law_453) hP hD hS hA [0, 1] [] rfl rfl rfl (by decide) (fun r_2 u_2 H locs hw_2 hP hD hS => ?_)
  have hr_2 := hw_2
  refine lv_cst (v := 0) hr_2 ?_
  have hP : va_P D classes [] H := hP
  have hD : va_D A [] := hD
  refine W.widen (k := 104) (n := 213925) (Nat.le_of_ble_eq_true rfl) (Nat.le_of_ble_eq_true rfl) ?_
  refine lv_icmp_eq (tgt := 989) hx hb dL_law_456 (by decide) (fun c_3 => ?_) (fun c_3 => absurd (rfl) c_3)
  refine lv_iinc (v := 6) (lv' := [(3, .int 6), (2, .ref q3), (1, .ref q1), (0, .ref b)]) hx hb dL_law_989 hl (k := 0) rfl (by decide) (by decide) rfl (fun ls hl => ?_)
  refine lv_goto (tgt := 18) hx hb dL_law_992 (by decide) ?_
  refine lv_iload_n hx hb dL_law_18 rfl (lv_at hl 0 rfl) ?_
  refine lv_aload_n hx hb dL_law_19 rfl (lv_at hl 3 rfl) ?_
  refine va_slen hx hb hX hbl hbA hS dL_law_20 ?_
  refine lv_cst (v := 6) (by rw [hL]; rfl) ?_
  refine lv_bipush (v := 6) hx hb dL_law_21 (by decide) ?_
  refine lv_isub hx hb dL_law_23 ?_
  refine lv_cst (v := 0) (by decide) ?_
  refine lv_icmp_gt (tgt := 995) hx hb dL_law_24 (by decide) (fun c_4 => ?_) (fun c_4 => absurd (by decide) c_4)
  refine lv_iconst (v := 1) hx hb dL_law_995 (by decide) ?_
  refine va_forget (fun q hq => hAf _ (hS.2.2 q hq)) ?_
  refine W.widen (k := 600000) (n := 7302250) (Nat.le_of_ble_eq_true rfl) (Nat.le_of_ble_eq_true rfl) ?_
  exact lw_ret hx hb hr hlk dL_law_996
set_option maxHeartbeats 4000000 in
set_option maxRecDepth 100000 in
theorem law_11 {p : Program} {e : Env} {s : State} {m : MethodId} {below : List Frame} {meth : Method} {c : Code} (l : Launch) {b L : Nat} {xs : Nat → Int32} {A : Nat → Prop} {D : va_G} {cyB cyI cyJ cyZ : ClassId} (hC : Ctx p s m meth c #[Value.ref b] code 4 ret RL meth.name) (hX : va_X b L xs s s.heap) (hbl : b < s.heap.size) (hA : ∀ q, s.heap.size ≤ q → A q) (hAf : ∀ q, A q → s.heap.size ≤ q) (hbA : ¬ A b) (hK : va_K D classes (TYS cyB cyI cyJ cyZ) s) (hL : L = 6) {q1 : Nat} {fs_2 : List Value} {dd_2 : Nat} {ea_2 : Nat} {cs_2 : Nat} {fdd_2 : List Value} {fea_2 : List Value} {er_2 : Nat} {fer_2 : Nat → Int64} {fcs_2 : List Value} {cr_2 : Nat} {fcr_2 : Nat → Int64} {q3 : Nat} {gs_4 : List Value} {mn_4 : Nat} {rw_4 : Nat} {nw_4 : Nat} {sn_4 : Nat} {mmn_4 : Nat → Int32} {mrw_4 : Nat → Int32} {mnw_4 : Nat → Int32} {msn_4 : Nat → Int64} (hl_fs_2 : fs_2.length = 17) (h_fs_3_2 : fs_2[3]? = some (.ref dd_2)) (h_fs_7_2 : fs_2[7]? = some (.ref ea_2)) (h_fs_12_2 : fs_2[12]? = some (.ref cs_2)) (hl_fdd_2 : fdd_2.length = 15) (h_fdd_1_2 : fdd_2[1]? = some (.int 0)) (hl_fea_2 : fea_2.length = 4) (h_fea_0_2 : fea_2[0]? = some (.ref er_2)) (h_fea_2_2 : fea_2[2]? = some (.int 0)) (h_fer_0_2 : fer_2 0 = 0) (hl_fcs_2 : fcs_2.length = 5) (h_fcs_0_2 : fcs_2[0]? = some (.ref cr_2)) (h_fcs_1_2 : fcs_2[1]? = some (.int 0)) (hl_gs_4 : gs_4.length = 80) (h_gs_12_4 : gs_4[12]? = some (.ref mn_4)) (h_gs_43_4 : gs_4[43]? = some (.ref rw_4)) (h_gs_45_4 : gs_4[45]? = some (.ref nw_4)) (h_gs_53_4 : gs_4[53]? = some (.ref sn_4)) (h_gs_37_4 : gs_4[37]? = some (.int 0)) (h_mmn_0_4 : mmn_4 0 = 0) {H : Heap} {locs : List Loc} {ls : Array Slot} (hl : lv_has ls 4 [(3, .int 0), (2, .ref q3), (1, .ref q1), (0, .ref b)]) (hP : va_P D classes [(q1, .inr (9, fs_2)), (dd_2, .inr (2, fdd_2)), (ea_2, .inr (3, fea_2)), (er_2, .inl (cyJ, 41, .inr (.inl fer_2))), (cs_2, .inr (1, fcs_2)), (cr_2, .inl (cyJ, 0, .inr (.inl fcr_2))), (q3, .inr (10, gs_4)), (mn_4, .inl (cyI, 2, .inl mmn_4)), (rw_4, .inl (cyI, 30, .inl mrw_4)), (nw_4, .inl (cyI, 30, .inl mnw_4)), (sn_4, .inl (cyJ, 3001, .inr (.inl msn_4)))] H) (hD : va_D A [(q1, .inr (9, fs_2)), (dd_2, .inr (2, fdd_2)), (ea_2, .inr (3, fea_2)), (er_2, .inl (cyJ, 41, .inr (.inl fer_2))), (cs_2, .inr (1, fcs_2)), (cr_2, .inl (cyJ, 0, .inr (.inl fcr_2))), (q3, .inr (10, gs_4)), (mn_4, .inl (cyI, 2, .inl mmn_4)), (rw_4, .inl (cyI, 30, .inl mrw_4)), (nw_4, .inl (cyI, 30, .inl mnw_4)), (sn_4, .inl (cyJ, 3001, .inr (.inl msn_4)))]) (hS : va_S A s.heap H locs) : W p l e room_1 s m #[Value.ref b] below meth c H locs 104 213925 (lw_Z below #[Value.ref b] s) (F0 m 461 ls []) := by
  obtain ⟨hx, hb, hr, hml, hown, hts, hlk, -⟩ := id hC
  refine lv_aload_n hx hb dL_law_461 rfl (lv_at hl 2 rfl) ?_
  refine lv_aload_n hx hb dL_law_462 rfl (lv_at hl 3 rfl) ?_
  refine lv_iload_n hx hb dL_law_463 rfl (lv_at hl 0 rfl) ?_
  refine lv_iconst (v := 1) hx hb dL_law_464 (by decide) ?_
  refine lv_iadd hx hb dL_law_465 ?_
  refine lv_cst (v := 1) (by decide) ?_
  refine va_sld hx hb hX hbl hbA hS (vinL hL (by decide)) dL_law_466 ?_
  refine lv_cst (v := xs 1) rfl ?_
  refine aftI (wr := [(q3, .inr (10, gs_4)), (mn_4, .inl (cyI, 2, .inl mmn_4)), (rw_4, .inl (cyI, 30, .inl mrw_4)), (nw_4, .inl (cyI, 30, .inl mnw_4)), (sn_4, .inl (cyJ, 3001, .inr (.inl msn_4)))]) (runV hC hK hP hD hl.1 (k_X9_round l D cyB cyI cyJ cyZ H.size q1 (xs 1) fs_2 dd_2 ea_2 cs_2 fdd_2 fea_2 er_2 fer_2 fcs_2 cr_2 fcr_2 hl_fs_2 h_fs_3_2 h_fs_7_2 h_fs_12_2 hl_fdd_2 h_fdd_1_2 hl_fea_2 h_fea_0_2 h_fea_2_2 h_fer_0_2 hl_fcs_2 h_fcs_0_2 h_fcs_1_2) cV_X9_round mw_methodLink_RL_63_yX9_round [0, 1, 2, 3, 4, 5] rfl rfl 0 rfl rfl rfl rfl rfl (Nat.le_of_ble_eq_true rfl) ⟨Nat.le_of_ble_eq_true rfl, Nat.le_of_ble_eq_true rfl⟩ ⟨Nat.le_of_ble_eq_true rfl, Nat.le_of_ble_eq_true rfl⟩ dL_law_467) hP hD hS hA [0, 1, 2, 3, 4, 5] [6, 7, 8, 9, 10] rfl rfl rfl (by decide) (fun r_1 u_1 H locs hw_1 hP hD hS => ?_)
  have hr_1 := hw_1
  refine lv_cst (v := (sp_round (xs 1))) hr_1 ?_
  have hP : va_P D classes [(q3, .inr (10, gs_4)), (mn_4, .inl (cyI, 2, .inl mmn_4)), (rw_4, .inl (cyI, 30, .inl mrw_4)), (nw_4, .inl (cyI, 30, .inl mnw_4)), (sn_4, .inl (cyJ, 3001, .inr (.inl msn_4)))] H := hP
  have hD : va_D A [(q3, .inr (10, gs_4)), (mn_4, .inl (cyI, 2, .inl mmn_4)), (rw_4, .inl (cyI, 30, .inl mrw_4)), (nw_4, .inl (cyI, 30, .inl mnw_4)), (sn_4, .inl (cyJ, 3001, .inr (.inl msn_4)))] := hD
  refine W.widen (k := 105) (n := 216926) (Nat.le_of_ble_eq_true rfl) (Nat.le_of_ble_eq_true rfl) ?_
  refine lv_aload_n hx hb dL_law_470 rfl (lv_at hl 1 rfl) ?_
  refine lv_aload_n hx hb dL_law_471 rfl (lv_at hl 3 rfl) ?_
  refine lv_iload_n hx hb dL_law_472 rfl (lv_at hl 0 rfl) ?_
  refine lv_iconst (v := 1) hx hb dL_law_473 (by decide) ?_
  refine lv_iadd hx hb dL_law_474 ?_
  refine lv_cst (v := 1) (by decide) ?_
  refine va_sld hx hb hX hbl hbA hS (vinL hL (by decide)) dL_law_475 ?_
  refine lv_cst (v := xs 1) rfl ?_
  refine aftI (wr := []) (runV hC hK hP hD hl.1 (k_X10_round l D cyB cyI cyJ cyZ H.size q3 (xs 1) gs_4 rw_4 nw_4 sn_4 mn_4 mrw_4 mnw_4 msn_4 mmn_4 hl_gs_4 h_gs_43_4 h_gs_45_4 h_gs_53_4 h_gs_12_4 h_gs_37_4 h_mmn_0_4) cV_X10_round mw_methodLink_RL_66_yX10_round [0, 2, 3, 4, 1] rfl rfl 0 rfl rfl rfl rfl rfl (Nat.le_of_ble_eq_true rfl) ⟨Nat.le_of_ble_eq_true rfl, Nat.le_of_ble_eq_true rfl⟩ ⟨Nat.le_of_ble_eq_true rfl, Nat.le_of_ble_eq_true rfl⟩ dL_law_476) hP hD hS hA [0, 2, 3, 4, 1] [] rfl rfl rfl (by decide) (fun r_2 u_2 H locs hw_2 hP hD hS => ?_)
  have hr_2 := hw_2
  refine lv_cst (v := (sp_round (xs 1))) hr_2 ?_
  have hP : va_P D classes [] H := hP
  have hD : va_D A [] := hD
  refine W.widen (k := 105) (n := 216926) (Nat.le_of_ble_eq_true rfl) (Nat.le_of_ble_eq_true rfl) ?_
  refine lv_icmp_eq (tgt := 989) hx hb dL_law_479 (by decide) (fun c_3 => ?_) (fun c_3 => absurd (rfl) c_3)
  refine lv_iinc (v := 6) (lv' := [(3, .int 6), (2, .ref q3), (1, .ref q1), (0, .ref b)]) hx hb dL_law_989 hl (k := 0) rfl (by decide) (by decide) rfl (fun ls hl => ?_)
  refine lv_goto (tgt := 18) hx hb dL_law_992 (by decide) ?_
  refine lv_iload_n hx hb dL_law_18 rfl (lv_at hl 0 rfl) ?_
  refine lv_aload_n hx hb dL_law_19 rfl (lv_at hl 3 rfl) ?_
  refine va_slen hx hb hX hbl hbA hS dL_law_20 ?_
  refine lv_cst (v := 6) (by rw [hL]; rfl) ?_
  refine lv_bipush (v := 6) hx hb dL_law_21 (by decide) ?_
  refine lv_isub hx hb dL_law_23 ?_
  refine lv_cst (v := 0) (by decide) ?_
  refine lv_icmp_gt (tgt := 995) hx hb dL_law_24 (by decide) (fun c_4 => ?_) (fun c_4 => absurd (by decide) c_4)
  refine lv_iconst (v := 1) hx hb dL_law_995 (by decide) ?_
  refine va_forget (fun q hq => hAf _ (hS.2.2 q hq)) ?_
  refine W.widen (k := 600000) (n := 7302250) (Nat.le_of_ble_eq_true rfl) (Nat.le_of_ble_eq_true rfl) ?_
  exact lw_ret hx hb hr hlk dL_law_996
set_option maxHeartbeats 4000000 in
set_option maxRecDepth 100000 in
theorem law_12 {p : Program} {e : Env} {s : State} {m : MethodId} {below : List Frame} {meth : Method} {c : Code} (l : Launch) {b L : Nat} {xs : Nat → Int32} {A : Nat → Prop} {D : va_G} {cyB cyI cyJ cyZ : ClassId} (hC : Ctx p s m meth c #[Value.ref b] code 4 ret RL meth.name) (hX : va_X b L xs s s.heap) (hbl : b < s.heap.size) (hA : ∀ q, s.heap.size ≤ q → A q) (hAf : ∀ q, A q → s.heap.size ≤ q) (hbA : ¬ A b) (hK : va_K D classes (TYS cyB cyI cyJ cyZ) s) (hL : L = 6) {q1 : Nat} {fs_2 : List Value} {dd_2 : Nat} {ea_2 : Nat} {pl_2 : Nat} {fo_2 : Nat} {fdd_2 : List Value} {fea_2 : List Value} {er_2 : Nat} {fer_2 : Nat → Int64} {fpl_2 : List Value} {ffo_2 : List Value} {fw_2 : Nat} {ffw_2 : Nat → Int64} {q3 : Nat} {gs_4 : List Value} {mn_4 : Nat} {gv_4 : Nat} {mmn_4 : Nat → Int32} {mgv_4 : Nat → Int32} (hl_fs_2 : fs_2.length = 17) (h_fs_3_2 : fs_2[3]? = some (.ref dd_2)) (h_fs_7_2 : fs_2[7]? = some (.ref ea_2)) (h_fs_10_2 : fs_2[10]? = some (.ref pl_2)) (h_fs_13_2 : fs_2[13]? = some (.ref fo_2)) (hl_fdd_2 : fdd_2.length = 15) (h_fdd_1_2 : fdd_2[1]? = some (.int 0)) (hl_fea_2 : fea_2.length = 4) (h_fea_0_2 : fea_2[0]? = some (.ref er_2)) (h_fea_2_2 : fea_2[2]? = some (.int 0)) (h_fer_0_2 : fer_2 0 = 0) (hl_fpl_2 : fpl_2.length = 2) (hl_ffo_2 : ffo_2.length = 5) (h_ffo_0_2 : ffo_2[0]? = some (.ref fw_2)) (hl_gs_4 : gs_4.length = 80) (h_gs_12_4 : gs_4[12]? = some (.ref mn_4)) (h_gs_56_4 : gs_4[56]? = some (.ref gv_4)) (h_gs_37_4 : gs_4[37]? = some (.int 0)) (h_mmn_0_4 : mmn_4 0 = 0) {H : Heap} {locs : List Loc} {ls : Array Slot} (hl : lv_has ls 4 [(3, .int 0), (2, .ref q3), (1, .ref q1), (0, .ref b)]) (hP : va_P D classes [(q1, .inr (9, fs_2)), (dd_2, .inr (2, fdd_2)), (ea_2, .inr (3, fea_2)), (er_2, .inl (cyJ, 41, .inr (.inl fer_2))), (pl_2, .inr (6, fpl_2)), (fo_2, .inr (5, ffo_2)), (fw_2, .inl (cyJ, 0, .inr (.inl ffw_2))), (q3, .inr (10, gs_4)), (mn_4, .inl (cyI, 2, .inl mmn_4)), (gv_4, .inl (cyI, 30, .inl mgv_4))] H) (hD : va_D A [(q1, .inr (9, fs_2)), (dd_2, .inr (2, fdd_2)), (ea_2, .inr (3, fea_2)), (er_2, .inl (cyJ, 41, .inr (.inl fer_2))), (pl_2, .inr (6, fpl_2)), (fo_2, .inr (5, ffo_2)), (fw_2, .inl (cyJ, 0, .inr (.inl ffw_2))), (q3, .inr (10, gs_4)), (mn_4, .inl (cyI, 2, .inl mmn_4)), (gv_4, .inl (cyI, 30, .inl mgv_4))]) (hS : va_S A s.heap H locs) : W p l e room_1 s m #[Value.ref b] below meth c H locs 104 213925 (lw_Z below #[Value.ref b] s) (F0 m 484 ls []) := by
  obtain ⟨hx, hb, hr, hml, hown, hts, hlk, -⟩ := id hC
  refine lv_aload_n hx hb dL_law_484 rfl (lv_at hl 2 rfl) ?_
  refine aftL (wr := [(q3, .inr (10, gs_4)), (mn_4, .inl (cyI, 2, .inl mmn_4)), (gv_4, .inl (cyI, 30, .inl mgv_4))]) (runV hC hK hP hD hl.1 (k_X9_before l D cyB cyI cyJ cyZ H.size q1 fs_2 dd_2 ea_2 pl_2 fo_2 fdd_2 fea_2 er_2 fer_2 fpl_2 ffo_2 fw_2 ffw_2 hl_fs_2 h_fs_3_2 h_fs_7_2 h_fs_10_2 h_fs_13_2 hl_fdd_2 h_fdd_1_2 hl_fea_2 h_fea_0_2 h_fea_2_2 h_fer_0_2 hl_fpl_2 hl_ffo_2 h_ffo_0_2) cV_X9_before mw_methodLink_RL_67_yX9_before [0, 1, 2, 3, 4, 5, 6] rfl rfl 0 rfl rfl rfl rfl rfl (Nat.le_of_ble_eq_true rfl) ⟨Nat.le_of_ble_eq_true rfl, Nat.le_of_ble_eq_true rfl⟩ ⟨Nat.le_of_ble_eq_true rfl, Nat.le_of_ble_eq_true rfl⟩ dL_law_485) hP hD hS hA [0, 1, 2, 3, 4, 5, 6] [7, 8, 9] rfl rfl rfl (by decide) (fun r_1 u_1 H locs hw_1 hP hD hS => ?_)
  have hr_1 := hw_1
  refine lv_cstL (v := 1) hr_1 ?_
  have hP : va_P D classes [(q3, .inr (10, gs_4)), (mn_4, .inl (cyI, 2, .inl mmn_4)), (gv_4, .inl (cyI, 30, .inl mgv_4))] H := hP
  have hD : va_D A [(q3, .inr (10, gs_4)), (mn_4, .inl (cyI, 2, .inl mmn_4)), (gv_4, .inl (cyI, 30, .inl mgv_4))] := hD
  refine W.widen (k := 105) (n := 214405) (Nat.le_of_ble_eq_true rfl) (Nat.le_of_ble_eq_true rfl) ?_
  refine lv_aload_n hx hb dL_law_488 rfl (lv_at hl 1 rfl) ?_
  refine aftL (wr := []) (runV hC hK hP hD hl.1 (k_X10_before l D cyB cyI cyJ cyZ H.size q3 gs_4 gv_4 mn_4 mgv_4 mmn_4 hl_gs_4 h_gs_56_4 h_gs_12_4 h_gs_37_4 h_mmn_0_4) cV_X10_before mw_methodLink_RL_71_yX10_before [0, 2, 1] rfl rfl 0 rfl rfl rfl rfl rfl (Nat.le_of_ble_eq_true rfl) ⟨Nat.le_of_ble_eq_true rfl, Nat.le_of_ble_eq_true rfl⟩ ⟨Nat.le_of_ble_eq_true rfl, Nat.le_of_ble_eq_true rfl⟩ dL_law_489) hP hD hS hA [0, 2, 1] [] rfl rfl rfl (by decide) (fun r_2 u_2 H locs hw_2 hP hD hS => ?_)
  have hr_2 := hw_2
  refine lv_cstL (v := 1) hr_2 ?_
  have hP : va_P D classes [] H := hP
  have hD : va_D A [] := hD
  refine W.widen (k := 105) (n := 214405) (Nat.le_of_ble_eq_true rfl) (Nat.le_of_ble_eq_true rfl) ?_
  refine W.lcmp hx hb dL_law_492 ?_
  refine lv_cst (v := 0) (by decide) ?_
  refine lv_if_eq (tgt := 989) hx hb dL_law_493 (by decide) (fun c_3 => ?_) (fun c_3 => absurd (by decide) c_3)
  refine lv_iinc (v := 6) (lv' := [(3, .int 6), (2, .ref q3), (1, .ref q1), (0, .ref b)]) hx hb dL_law_989 hl (k := 0) rfl (by decide) (by decide) rfl (fun ls hl => ?_)
  refine lv_goto (tgt := 18) hx hb dL_law_992 (by decide) ?_
  refine lv_iload_n hx hb dL_law_18 rfl (lv_at hl 0 rfl) ?_
  refine lv_aload_n hx hb dL_law_19 rfl (lv_at hl 3 rfl) ?_
  refine va_slen hx hb hX hbl hbA hS dL_law_20 ?_
  refine lv_cst (v := 6) (by rw [hL]; rfl) ?_
  refine lv_bipush (v := 6) hx hb dL_law_21 (by decide) ?_
  refine lv_isub hx hb dL_law_23 ?_
  refine lv_cst (v := 0) (by decide) ?_
  refine lv_icmp_gt (tgt := 995) hx hb dL_law_24 (by decide) (fun c_4 => ?_) (fun c_4 => absurd (by decide) c_4)
  refine lv_iconst (v := 1) hx hb dL_law_995 (by decide) ?_
  refine va_forget (fun q hq => hAf _ (hS.2.2 q hq)) ?_
  refine W.widen (k := 600000) (n := 7302250) (Nat.le_of_ble_eq_true rfl) (Nat.le_of_ble_eq_true rfl) ?_
  exact lw_ret hx hb hr hlk dL_law_996
set_option maxHeartbeats 4000000 in
set_option maxRecDepth 100000 in
theorem law_13 {p : Program} {e : Env} {s : State} {m : MethodId} {below : List Frame} {meth : Method} {c : Code} (l : Launch) {b L : Nat} {xs : Nat → Int32} {A : Nat → Prop} {D : va_G} {cyB cyI cyJ cyZ : ClassId} (hC : Ctx p s m meth c #[Value.ref b] code 4 ret RL meth.name) (hX : va_X b L xs s s.heap) (hbl : b < s.heap.size) (hA : ∀ q, s.heap.size ≤ q → A q) (hAf : ∀ q, A q → s.heap.size ≤ q) (hbA : ¬ A b) (hK : va_K D classes (TYS cyB cyI cyJ cyZ) s) (hL : L = 6) {q1 : Nat} {fs_2 : List Value} {dd_2 : Nat} {pl_2 : Nat} {fdd_2 : List Value} {fpl_2 : List Value} {q3 : Nat} {gs_4 : List Value} {rl_4 : Nat} {mrl_4 : Nat → Int32} (hl_fs_2 : fs_2.length = 17) (h_fs_3_2 : fs_2[3]? = some (.ref dd_2)) (h_fs_10_2 : fs_2[10]? = some (.ref pl_2)) (hl_fdd_2 : fdd_2.length = 15) (h_fdd_2_2 : fdd_2[2]? = some (.int 0)) (hl_fpl_2 : fpl_2.length = 2) (hl_gs_4 : gs_4.length = 80) (h_gs_13_4 : gs_4[13]? = some (.ref rl_4)) (h_gs_37_4 : gs_4[37]? = some (.int 0)) (h_mrl_0_4 : mrl_4 0 = 0) {H : Heap} {locs : List Loc} {ls : Array Slot} (hl : lv_has ls 4 [(3, .int 0), (2, .ref q3), (1, .ref q1), (0, .ref b)]) (hP : va_P D classes [(q1, .inr (9, fs_2)), (dd_2, .inr (2, fdd_2)), (pl_2, .inr (6, fpl_2)), (q3, .inr (10, gs_4)), (rl_4, .inl (cyI, 2, .inl mrl_4))] H) (hD : va_D A [(q1, .inr (9, fs_2)), (dd_2, .inr (2, fdd_2)), (pl_2, .inr (6, fpl_2)), (q3, .inr (10, gs_4)), (rl_4, .inl (cyI, 2, .inl mrl_4))]) (hS : va_S A s.heap H locs) : W p l e room_1 s m #[Value.ref b] below meth c H locs 104 213925 (lw_Z below #[Value.ref b] s) (F0 m 498 ls []) := by
  obtain ⟨hx, hb, hr, hml, hown, hts, hlk, -⟩ := id hC
  refine lv_aload_n hx hb dL_law_498 rfl (lv_at hl 2 rfl) ?_
  refine lv_aload_n hx hb dL_law_499 rfl (lv_at hl 3 rfl) ?_
  refine lv_iload_n hx hb dL_law_500 rfl (lv_at hl 0 rfl) ?_
  refine lv_iconst (v := 1) hx hb dL_law_501 (by decide) ?_
  refine lv_iadd hx hb dL_law_502 ?_
  refine lv_cst (v := 1) (by decide) ?_
  refine va_sld hx hb hX hbl hbA hS (vinL hL (by decide)) dL_law_503 ?_
  refine lv_cst (v := xs 1) rfl ?_
  refine aftI (wr := [(q3, .inr (10, gs_4)), (rl_4, .inl (cyI, 2, .inl mrl_4))]) (runV hC hK hP hD hl.1 (k_X9_orphan l D cyB cyI cyJ cyZ H.size q1 (xs 1) fs_2 dd_2 pl_2 fdd_2 fpl_2 hl_fs_2 h_fs_3_2 h_fs_10_2 hl_fdd_2 h_fdd_2_2 hl_fpl_2) cV_X9_orphan mw_methodLink_RL_72_yX9_orphan [0, 1, 2] rfl rfl 0 rfl rfl rfl rfl rfl (Nat.le_of_ble_eq_true rfl) ⟨Nat.le_of_ble_eq_true rfl, Nat.le_of_ble_eq_true rfl⟩ ⟨Nat.le_of_ble_eq_true rfl, Nat.le_of_ble_eq_true rfl⟩ dL_law_504) hP hD hS hA [0, 1, 2] [3, 4] rfl rfl rfl (by decide) (fun r_1 u_1 H locs hw_1 hP hD hS => ?_)
  have hr_1 := hw_1
  refine lv_cst (v := (-1)) hr_1 ?_
  have hP : va_P D classes [(q3, .inr (10, gs_4)), (rl_4, .inl (cyI, 2, .inl mrl_4))] H := hP
  have hD : va_D A [(q3, .inr (10, gs_4)), (rl_4, .inl (cyI, 2, .inl mrl_4))] := hD
  refine W.widen (k := 104) (n := 213925) (Nat.le_of_ble_eq_true rfl) (Nat.le_of_ble_eq_true rfl) ?_
  refine lv_aload_n hx hb dL_law_507 rfl (lv_at hl 1 rfl) ?_
  refine lv_aload_n hx hb dL_law_508 rfl (lv_at hl 3 rfl) ?_
  refine lv_iload_n hx hb dL_law_509 rfl (lv_at hl 0 rfl) ?_
  refine lv_iconst (v := 1) hx hb dL_law_510 (by decide) ?_
  refine lv_iadd hx hb dL_law_511 ?_
  refine lv_cst (v := 1) (by decide) ?_
  refine va_sld hx hb hX hbl hbA hS (vinL hL (by decide)) dL_law_512 ?_
  refine lv_cst (v := xs 1) rfl ?_
  refine aftI (wr := []) (runV hC hK hP hD hl.1 (k_X10_orphan l D cyB cyI cyJ cyZ H.size q3 (xs 1) gs_4 rl_4 mrl_4 hl_gs_4 h_gs_13_4 h_gs_37_4 h_mrl_0_4) cV_X10_orphan mw_methodLink_RL_75_yX10_orphan [0, 1] rfl rfl 0 rfl rfl rfl rfl rfl (Nat.le_of_ble_eq_true rfl) ⟨Nat.le_of_ble_eq_true rfl, Nat.le_of_ble_eq_true rfl⟩ ⟨Nat.le_of_ble_eq_true rfl, Nat.le_of_ble_eq_true rfl⟩ dL_law_513) hP hD hS hA [0, 1] [] rfl rfl rfl (by decide) (fun r_2 u_2 H locs hw_2 hP hD hS => ?_)
  have hr_2 := hw_2
  refine lv_cst (v := (-1)) hr_2 ?_
  have hP : va_P D classes [] H := hP
  have hD : va_D A [] := hD
  refine W.widen (k := 104) (n := 213925) (Nat.le_of_ble_eq_true rfl) (Nat.le_of_ble_eq_true rfl) ?_
  refine lv_icmp_eq (tgt := 989) hx hb dL_law_516 (by decide) (fun c_3 => ?_) (fun c_3 => absurd (rfl) c_3)
  refine lv_iinc (v := 6) (lv' := [(3, .int 6), (2, .ref q3), (1, .ref q1), (0, .ref b)]) hx hb dL_law_989 hl (k := 0) rfl (by decide) (by decide) rfl (fun ls hl => ?_)
  refine lv_goto (tgt := 18) hx hb dL_law_992 (by decide) ?_
  refine lv_iload_n hx hb dL_law_18 rfl (lv_at hl 0 rfl) ?_
  refine lv_aload_n hx hb dL_law_19 rfl (lv_at hl 3 rfl) ?_
  refine va_slen hx hb hX hbl hbA hS dL_law_20 ?_
  refine lv_cst (v := 6) (by rw [hL]; rfl) ?_
  refine lv_bipush (v := 6) hx hb dL_law_21 (by decide) ?_
  refine lv_isub hx hb dL_law_23 ?_
  refine lv_cst (v := 0) (by decide) ?_
  refine lv_icmp_gt (tgt := 995) hx hb dL_law_24 (by decide) (fun c_4 => ?_) (fun c_4 => absurd (by decide) c_4)
  refine lv_iconst (v := 1) hx hb dL_law_995 (by decide) ?_
  refine va_forget (fun q hq => hAf _ (hS.2.2 q hq)) ?_
  refine W.widen (k := 600000) (n := 7302250) (Nat.le_of_ble_eq_true rfl) (Nat.le_of_ble_eq_true rfl) ?_
  exact lw_ret hx hb hr hlk dL_law_996
set_option maxHeartbeats 4000000 in
set_option maxRecDepth 100000 in
theorem law_14 {p : Program} {e : Env} {s : State} {m : MethodId} {below : List Frame} {meth : Method} {c : Code} (l : Launch) {b L : Nat} {xs : Nat → Int32} {A : Nat → Prop} {D : va_G} {cyB cyI cyJ cyZ : ClassId} (hC : Ctx p s m meth c #[Value.ref b] code 4 ret RL meth.name) (hX : va_X b L xs s s.heap) (hbl : b < s.heap.size) (hA : ∀ q, s.heap.size ≤ q → A q) (hAf : ∀ q, A q → s.heap.size ≤ q) (hbA : ¬ A b) (hK : va_K D classes (TYS cyB cyI cyJ cyZ) s) (hL : L = 6) {q1 : Nat} {fs_2 : List Value} {dd_2 : Nat} {fdd_2 : List Value} {q3 : Nat} {gs_4 : List Value} {rl_4 : Nat} {mrl_4 : Nat → Int32} (hl_fs_2 : fs_2.length = 17) (h_fs_3_2 : fs_2[3]? = some (.ref dd_2)) (hl_fdd_2 : fdd_2.length = 15) (h_fdd_2_2 : fdd_2[2]? = some (.int 0)) (hl_gs_4 : gs_4.length = 80) (h_gs_13_4 : gs_4[13]? = some (.ref rl_4)) (h_gs_37_4 : gs_4[37]? = some (.int 0)) (h_mrl_0_4 : mrl_4 0 = 0) {H : Heap} {locs : List Loc} {ls : Array Slot} (hl : lv_has ls 4 [(3, .int 0), (2, .ref q3), (1, .ref q1), (0, .ref b)]) (hP : va_P D classes [(q1, .inr (9, fs_2)), (dd_2, .inr (2, fdd_2)), (q3, .inr (10, gs_4)), (rl_4, .inl (cyI, 2, .inl mrl_4))] H) (hD : va_D A [(q1, .inr (9, fs_2)), (dd_2, .inr (2, fdd_2)), (q3, .inr (10, gs_4)), (rl_4, .inl (cyI, 2, .inl mrl_4))]) (hS : va_S A s.heap H locs) : W p l e room_1 s m #[Value.ref b] below meth c H locs 104 213925 (lw_Z below #[Value.ref b] s) (F0 m 521 ls []) := by
  obtain ⟨hx, hb, hr, hml, hown, hts, hlk, -⟩ := id hC
  refine lv_aload_n hx hb dL_law_521 rfl (lv_at hl 2 rfl) ?_
  refine lv_aload_n hx hb dL_law_522 rfl (lv_at hl 3 rfl) ?_
  refine lv_iload_n hx hb dL_law_523 rfl (lv_at hl 0 rfl) ?_
  refine lv_iconst (v := 1) hx hb dL_law_524 (by decide) ?_
  refine lv_iadd hx hb dL_law_525 ?_
  refine lv_cst (v := 1) (by decide) ?_
  refine va_sld hx hb hX hbl hbA hS (vinL hL (by decide)) dL_law_526 ?_
  refine lv_cst (v := xs 1) rfl ?_
  refine aftI (wr := [(q3, .inr (10, gs_4)), (rl_4, .inl (cyI, 2, .inl mrl_4))]) (runV hC hK hP hD hl.1 (k_X9_one l D cyB cyI cyJ cyZ H.size q1 (xs 1) fs_2 dd_2 fdd_2 hl_fs_2 h_fs_3_2 hl_fdd_2 h_fdd_2_2) cV_X9_one mw_methodLink_RL_76_yX9_one [0, 1] rfl rfl 0 rfl rfl rfl rfl rfl (Nat.le_of_ble_eq_true rfl) ⟨Nat.le_of_ble_eq_true rfl, Nat.le_of_ble_eq_true rfl⟩ ⟨Nat.le_of_ble_eq_true rfl, Nat.le_of_ble_eq_true rfl⟩ dL_law_527) hP hD hS hA [0, 1] [2, 3] rfl rfl rfl (by decide) (fun r_1 u_1 H locs hw_1 hP hD hS => ?_)
  have hr_1 := hw_1
  refine lv_cst (v := (-1)) hr_1 ?_
  have hP : va_P D classes [(q3, .inr (10, gs_4)), (rl_4, .inl (cyI, 2, .inl mrl_4))] H := hP
  have hD : va_D A [(q3, .inr (10, gs_4)), (rl_4, .inl (cyI, 2, .inl mrl_4))] := hD
  refine W.widen (k := 104) (n := 213925) (Nat.le_of_ble_eq_true rfl) (Nat.le_of_ble_eq_true rfl) ?_
  refine lv_aload_n hx hb dL_law_530 rfl (lv_at hl 1 rfl) ?_
  refine lv_aload_n hx hb dL_law_531 rfl (lv_at hl 3 rfl) ?_
  refine lv_iload_n hx hb dL_law_532 rfl (lv_at hl 0 rfl) ?_
  refine lv_iconst (v := 1) hx hb dL_law_533 (by decide) ?_
  refine lv_iadd hx hb dL_law_534 ?_
  refine lv_cst (v := 1) (by decide) ?_
  refine va_sld hx hb hX hbl hbA hS (vinL hL (by decide)) dL_law_535 ?_
  refine lv_cst (v := xs 1) rfl ?_
  refine aftI (wr := []) (runV hC hK hP hD hl.1 (k_X10_one l D cyB cyI cyJ cyZ H.size q3 (xs 1) gs_4 rl_4 mrl_4 hl_gs_4 h_gs_13_4 h_gs_37_4 h_mrl_0_4) cV_X10_one mw_methodLink_RL_79_yX10_one [0, 1] rfl rfl 0 rfl rfl rfl rfl rfl (Nat.le_of_ble_eq_true rfl) ⟨Nat.le_of_ble_eq_true rfl, Nat.le_of_ble_eq_true rfl⟩ ⟨Nat.le_of_ble_eq_true rfl, Nat.le_of_ble_eq_true rfl⟩ dL_law_536) hP hD hS hA [0, 1] [] rfl rfl rfl (by decide) (fun r_2 u_2 H locs hw_2 hP hD hS => ?_)
  have hr_2 := hw_2
  refine lv_cst (v := (-1)) hr_2 ?_
  have hP : va_P D classes [] H := hP
  have hD : va_D A [] := hD
  refine W.widen (k := 104) (n := 213925) (Nat.le_of_ble_eq_true rfl) (Nat.le_of_ble_eq_true rfl) ?_
  refine lv_icmp_eq (tgt := 989) hx hb dL_law_539 (by decide) (fun c_3 => ?_) (fun c_3 => absurd (rfl) c_3)
  refine lv_iinc (v := 6) (lv' := [(3, .int 6), (2, .ref q3), (1, .ref q1), (0, .ref b)]) hx hb dL_law_989 hl (k := 0) rfl (by decide) (by decide) rfl (fun ls hl => ?_)
  refine lv_goto (tgt := 18) hx hb dL_law_992 (by decide) ?_
  refine lv_iload_n hx hb dL_law_18 rfl (lv_at hl 0 rfl) ?_
  refine lv_aload_n hx hb dL_law_19 rfl (lv_at hl 3 rfl) ?_
  refine va_slen hx hb hX hbl hbA hS dL_law_20 ?_
  refine lv_cst (v := 6) (by rw [hL]; rfl) ?_
  refine lv_bipush (v := 6) hx hb dL_law_21 (by decide) ?_
  refine lv_isub hx hb dL_law_23 ?_
  refine lv_cst (v := 0) (by decide) ?_
  refine lv_icmp_gt (tgt := 995) hx hb dL_law_24 (by decide) (fun c_4 => ?_) (fun c_4 => absurd (by decide) c_4)
  refine lv_iconst (v := 1) hx hb dL_law_995 (by decide) ?_
  refine va_forget (fun q hq => hAf _ (hS.2.2 q hq)) ?_
  refine W.widen (k := 600000) (n := 7302250) (Nat.le_of_ble_eq_true rfl) (Nat.le_of_ble_eq_true rfl) ?_
  exact lw_ret hx hb hr hlk dL_law_996
