/-! my own words: one list of words for all methods, worlds before and behind a method, calls, returns -/
def BIG : List Cond := lw_tbl.filter goodWord
theorem big_hts {args : Array Value} {s : State} (h : ∀ w ∈ lw_tbl, w.before args s = true) : ∀ w ∈ BIG, w.before args s = true := fun w hw => h w (List.mem_filter.mp hw).1
theorem big_tab {w : Cond} (h : w ∈ tables_1) (g : goodWord w = true) : w ∈ BIG := List.mem_filter.mpr ⟨List.mem_append_right _ h, g⟩
theorem big_sel {q : MethodName × Nat} (h : q ∈ lw_privs) : Cond.selects q.1.cls q.1 q.1 ∈ BIG := List.mem_filter.mpr ⟨List.mem_append_left _ (List.mem_map.mpr ⟨q, h, rfl⟩), rfl⟩
theorem big_good : ∀ w ∈ BIG, (w.onTables && w.keeps) = true ∨ ∃ ty, w = .arrayClass ty := fun _ h => good_of_word (List.mem_filter.mp h).2
theorem big_in {ws : List Cond} (h : ∀ w ∈ ws, w ∈ BIG) : GoodIn BIG ws := fun w hw => ⟨h w hw, big_good w (h w hw)⟩
abbrev classes : List vw_C := [(RX0, TX0, 9), (RX1, TX1, 5), (RX2, TX2, 15), (RX3, TX3, 4), (RX4, TX4, 10), (RX5, TX5, 5), (RX6, TX6, 2), (RX7, TX7, 16), (RX8, TX8, 17), (RX9, TX9, 17), (RX10, TX10, 80)]
abbrev TYS (cyB cyI cyJ cyZ : ClassId) : List (ClassId × FieldType) := [(cyB, .byte), (cyI, .int), (cyJ, .long), (cyZ, .boolean)]
def rmK (d mc ms : Nat) : Room := { frames := d, cells := mc, slots := ms, locals := 60 * d }
def Pre (D : va_G) (ty : List (ClassId × FieldType)) (ws : va_W) (sz : Nat) (U : State) : Prop := U.heap.size = sz ∧ va_P D classes ws U.heap ∧ va_K D classes ty U ∧ va_D (fun _ => True) ws
def Aft (D : va_G) (A : Nat → Prop) (ws : va_W) (t : State) : Prop := va_P D classes ws t.heap ∧ va_D A ws
def Ctx (p : Program) (s : State) (m : MethodId) (meth : Method) (c : Code) (args : Array Value) (cc : ByteArray) (nL : Nat) (ret : Option FieldType) (own nm : String) : Prop :=
  p.tables.exec = Jvm.exec ∧ c.code = cc ∧ meth.sig.returnType = ret ∧ c.maxLocals = nL ∧ s.vm.findClass own = some m.cls ∧ (∀ w ∈ BIG, w.before args s = true) ∧ meth.locks = false ∧ meth.name = nm
theorem fmap_of {α : Type} {ws : List α} {is : List Nat} {wc : List α} (h : is.map (fun i => ws[i]?) = wc.map some) : is.filterMap (fun i => ws[i]?) = wc := by
  have h1 : is.filterMap (fun i => ws[i]?) = (is.map (fun i => ws[i]?)).filterMap id := by rw [List.filterMap_map]; rfl
  rw [h1, h, List.filterMap_map]
  induction wc with
  | nil => rfl
  | cons a t ih => simp
abbrev KI (l : Launch) (y : MethodName) (cc : ByteArray) (n : Nat) (ret : FieldType) (d mc ms : Nat) (D : va_G) (ty : List (ClassId × FieldType)) (ws : va_W) (sz : Nat) (av : List Value) {S : Type} (post : Int32 → S → Prop) (w1 : S → va_W) : Prop :=
  Met l y (.code y cc n (some ret) :: BIG) (rmK d mc ms) (va_Pc av (Pre D ty ws sz)) (va_Qi post (fun u => Aft D (va_A ws sz) (w1 u)) (va_A ws sz)) mc ms (va_A ws sz)
abbrev KL (l : Launch) (y : MethodName) (cc : ByteArray) (n : Nat) (d mc ms : Nat) (D : va_G) (ty : List (ClassId × FieldType)) (ws : va_W) (sz : Nat) (av : List Value) {S : Type} (post : Int64 → S → Prop) (w1 : S → va_W) : Prop :=
  Met l y (.code y cc n (some .long) :: BIG) (rmK d mc ms) (va_Pc av (Pre D ty ws sz)) (va_Ql post (fun u => Aft D (va_A ws sz) (w1 u)) (va_A ws sz)) mc ms (va_A ws sz)
abbrev KV (l : Launch) (y : MethodName) (cc : ByteArray) (n : Nat) (d mc ms : Nat) (D : va_G) (ty : List (ClassId × FieldType)) (ws : va_W) (sz : Nat) (av : List Value) {S : Type} (post : S → Prop) (w1 : S → va_W) : Prop :=
  Met l y (.code y cc n none :: BIG) (rmK d mc ms) (va_Pc av (Pre D ty ws sz)) (va_Qv post (fun u => Aft D (va_A ws sz) (w1 u)) (va_A ws sz)) mc ms (va_A ws sz)
theorem ent0 {l : Launch} {y : MethodName} {cc : ByteArray} {n : Nat} {ret : Option FieldType} {d mc ms : Nat} {D : va_G} {ty : List (ClassId × FieldType)} {ws : va_W} {sz : Nat} {av : List Value} {Qc : (Nat → Prop) → Array Value → State → Outcome → State → Prop} (hy : plainName y.cls = true) (hlen : (lg_sl av).length ≤ n)
    (body : ∀ (p : Program) (e : Env) (s : State) (m : MethodId) (below : List Frame) (meth : Method) (c : Code) (ls : Array Slot) (A : Nat → Prop), Ctx p s m meth c av.toArray cc n ret y.cls y.name → lv_has ls n (lv_args 0 av) → va_P D classes ws s.heap → va_K D classes ty s → va_D A ws → (∀ q, s.heap.size ≤ q → A q) →
      W p l e (rmK d mc ms) s m av.toArray below meth c s.heap [] 0 0 (MQ below (Qc A) av.toArray s mc ms A) (F0 m 0 ls [])) :
    Met l y (.code y cc n ret :: BIG) (rmK d mc ms) (va_Pc av (Pre D ty ws sz)) (Qc (va_A ws sz)) mc ms (va_A ws sz) := by
  refine Met.ofW (cc := cc) (maxL := n) (ret := ret) hy rfl ?_
  intro p e s m args below meth c s₁ B hml hv
  obtain ⟨rfl, hsz, hP, hK, hD0⟩ := hv
  have hts := atoms_spec (ws := .code y cc n ret :: BIG) B.pre
  have hl := lv_entry av (n := n) hlen
  rw [lg_entry_eq]
  subst hsz
  exact body p e s m below meth c _ (va_A ws s.heap.size) ⟨B.exec, B.bytes, B.returns, hml, findClass_of_methodNamed B.named, fun w h => hts w (List.mem_cons_of_mem _ h), B.notSynchronized, (name_of_methodNamed B.named B.method).1⟩ hl hP hK hD0.self (fun q h => Or.inr h)
theorem entI {l : Launch} {y : MethodName} {cc : ByteArray} {n : Nat} {ret : FieldType} {d mc ms : Nat} {D : va_G} {ty : List (ClassId × FieldType)} {ws : va_W} {sz : Nat} {av : List Value} {S : Type} {post : Int32 → S → Prop} {w1 : S → va_W} (hy : plainName y.cls = true) (hlen : (lg_sl av).length ≤ n)
    (body : ∀ (p : Program) (e : Env) (s : State) (m : MethodId) (below : List Frame) (meth : Method) (c : Code) (ls : Array Slot) (A : Nat → Prop), Ctx p s m meth c av.toArray cc n (some ret) y.cls y.name → lv_has ls n (lv_args 0 av) → va_P D classes ws s.heap → va_K D classes ty s → va_D A ws → (∀ q, s.heap.size ≤ q → A q) →
      W p l e (rmK d mc ms) s m av.toArray below meth c s.heap [] 0 0 (MQ below (va_Qi post (fun u => Aft D A (w1 u)) A) av.toArray s mc ms A) (F0 m 0 ls [])) : KI l y cc n ret d mc ms D ty ws sz av post w1 :=
  ent0 (Qc := fun A => va_Qi post (fun u => Aft D A (w1 u)) A) hy hlen body
theorem entL {l : Launch} {y : MethodName} {cc : ByteArray} {n : Nat} {d mc ms : Nat} {D : va_G} {ty : List (ClassId × FieldType)} {ws : va_W} {sz : Nat} {av : List Value} {S : Type} {post : Int64 → S → Prop} {w1 : S → va_W} (hy : plainName y.cls = true) (hlen : (lg_sl av).length ≤ n)
    (body : ∀ (p : Program) (e : Env) (s : State) (m : MethodId) (below : List Frame) (meth : Method) (c : Code) (ls : Array Slot) (A : Nat → Prop), Ctx p s m meth c av.toArray cc n (some .long) y.cls y.name → lv_has ls n (lv_args 0 av) → va_P D classes ws s.heap → va_K D classes ty s → va_D A ws → (∀ q, s.heap.size ≤ q → A q) →
      W p l e (rmK d mc ms) s m av.toArray below meth c s.heap [] 0 0 (MQ below (va_Ql post (fun u => Aft D A (w1 u)) A) av.toArray s mc ms A) (F0 m 0 ls [])) : KL l y cc n d mc ms D ty ws sz av post w1 :=
  ent0 (Qc := fun A => va_Ql post (fun u => Aft D A (w1 u)) A) hy hlen body
theorem entV {l : Launch} {y : MethodName} {cc : ByteArray} {n : Nat} {d mc ms : Nat} {D : va_G} {ty : List (ClassId × FieldType)} {ws : va_W} {sz : Nat} {av : List Value} {S : Type} {post : S → Prop} {w1 : S → va_W} (hy : plainName y.cls = true) (hlen : (lg_sl av).length ≤ n)
    (body : ∀ (p : Program) (e : Env) (s : State) (m : MethodId) (below : List Frame) (meth : Method) (c : Code) (ls : Array Slot) (A : Nat → Prop), Ctx p s m meth c av.toArray cc n none y.cls y.name → lv_has ls n (lv_args 0 av) → va_P D classes ws s.heap → va_K D classes ty s → va_D A ws → (∀ q, s.heap.size ≤ q → A q) →
      W p l e (rmK d mc ms) s m av.toArray below meth c s.heap [] 0 0 (MQ below (va_Qv post (fun u => Aft D A (w1 u)) A) av.toArray s mc ms A) (F0 m 0 ls [])) : KV l y cc n d mc ms D ty ws sz av post w1 :=
  ent0 (Qc := fun A => va_Qv post (fun u => Aft D A (w1 u)) A) hy hlen body
def CVw (y : MethodName) (bytes : ByteArray) (maxL : Nat) (ret : Option FieldType) (n : Nat) : Prop := Cond.instanceMethod y ∈ BIG ∧ Cond.selects y.cls y y ∈ BIG ∧ Cond.initialized y.cls ∈ BIG ∧ Cond.code y bytes maxL ret ∈ BIG ∧ (y.cls ≠ "java/lang/invoke/MethodHandle" ∧ y.cls ≠ "java/lang/invoke/VarHandle" ∧ (parseMethodDescriptor y.desc).map (fun d => d.parameters.length) = some n)
def CSw (y : MethodName) (bytes : ByteArray) (maxL : Nat) (ret : Option FieldType) (n : Nat) : Prop := Cond.static y ∈ BIG ∧ Cond.initialized y.cls ∈ BIG ∧ Cond.code y bytes maxL ret ∈ BIG ∧ (y.cls ≠ "java/lang/invoke/MethodHandle" ∧ y.cls ≠ "java/lang/invoke/VarHandle" ∧ (parseMethodDescriptor y.desc).map (fun d => d.parameters.length) = some n)
def CIw (y : MethodName) (bytes : ByteArray) (maxL : Nat) (n : Nat) : Prop := Cond.instanceMethod y ∈ BIG ∧ Cond.initialized y.cls ∈ BIG ∧ Cond.code y bytes maxL none ∈ BIG ∧ y.name = "<init>" ∧ (y.cls ≠ "java/lang/invoke/MethodHandle" ∧ y.cls ≠ "java/lang/invoke/VarHandle" ∧ (parseMethodDescriptor y.desc).map (fun d => d.parameters.length) = some n)
section CALLS
variable {p : Program} {l : Launch} {e : Env} {R : Room} {s : State} {m : MethodId} {args : Array Value} {below : List Frame} {meth : Method} {c : Code} {H H0 : Heap} {locs : List Loc} {cells slots : Nat} {Q : State → Prop} {cc : ByteArray} {nL pc idx : Nat} {own nm : String} {retO : Option FieldType} {ls : Array Slot} {D : va_G} {ty : List (ClassId × FieldType)} {A : Nat → Prop}
theorem pre_fb {wc : va_W} {sz : Nat} {av : List Value} : FrameBlind (va_Pc av (Pre D ty wc sz)) := fun a U g mk q => ⟨q.1, q.2.1, q.2.2.1, va_K.moved (u := U) (U := U.calling g mk a) (Vm.Alike.refl U.vm) q.2.2.2.1, q.2.2.2.2⟩
theorem pre_now {wc : va_W} {av : List Value} (hK : va_K D classes ty s) (hPc : va_P D classes wc H) (hDc : va_D A wc) : ∀ U : State, U.heap = H → s.WarmedH U.vm → va_Pc av (Pre D ty wc H.size) av.toArray U := fun U hU hW => ⟨rfl, by rw [hU], by rw [hU]; exact hPc, va_K.moved hW.alike hK, hDc.weaken (fun _ _ _ _ => trivial)⟩
theorem cb_in {y : MethodName} {bytes : ByteArray} {maxL d mc ms n : Nat} {ret : Option FieldType} (hts : ∀ w ∈ BIG, w.before args s = true) (w1 : Cond.methodLink own idx y ∈ BIG) (w4 : Cond.initialized y.cls ∈ BIG) (w5 : Cond.code y bytes maxL ret ∈ BIG)
    (hd : y.cls ≠ "java/lang/invoke/MethodHandle" ∧ y.cls ≠ "java/lang/invoke/VarHandle" ∧ (parseMethodDescriptor y.desc).map (fun d => d.parameters.length) = some n) (hR : d + 1 ≤ R.frames ∧ 8 + (maxL + 11) + 60 * d ≤ R.locals) :
    CallB R s args own idx y bytes maxL ret (.code y bytes maxL ret :: BIG) (rmK d mc ms) mc ms n :=
  callB_of n hts (big_in (fun w h => by rcases List.mem_cons.mp h with rfl | h; exact w5; exact h)) rfl rfl rfl (hts _ w4) (hts _ w1) hd hR
theorem runV {y : MethodName} {bytes : ByteArray} {maxL d mc ms n : Nat} {ret : Option FieldType} {Qc : Array Value → State → Outcome → State → Prop} {wc ws : va_W} {b : Nat} {As rest st : List Value}
    (hC : Ctx p s m meth c args cc nL retO own nm) (hK : va_K D classes ty s) (hP : va_P D classes ws H) (hD : va_D A ws) (hls : ls.size = nL)
    (hM : Met l y (.code y bytes maxL ret :: BIG) (rmK d mc ms) (va_Pc (.ref b :: As) (Pre D ty wc H.size)) Qc mc ms (va_A wc H.size)) (cv : CVw y bytes maxL ret n) (w1 : Cond.methodLink own idx y ∈ BIG)
    (isC : List Nat) (hCw : isC.map (fun i => ws[i]?) = wc.map some) (hnd : va_nd isC = true) (q0 : Nat) {ci : Nat} {q : vw_C} {fs : List Value} (he : ws[q0]? = some (b, .inr (ci, fs))) (hc : classes[ci]? = some q) (hq : q.1 = y.cls)
    (hn : As.length = n) (hst : st = As.reverse ++ .ref b :: rest) (hW : (rest.map fun v => v.category).sum ≤ 8) (hR : d + 1 ≤ R.frames ∧ 8 + (maxL + 11) + 60 * d ≤ R.locals) (hf : cells + mc ≤ R.cells ∧ slots + ms ≤ R.slots) (hdg : decode cc pc = .ok (.invokevirtual idx, 3)) :
    va_Run p l e R s m args below meth c H locs cells slots mc ms (F0 m pc ls st) rest (Qc (Value.ref b :: As).toArray) (va_A wc H.size) := by
  obtain ⟨hx, hb, -, hml, hown, hts, -, -⟩ := hC
  obtain ⟨v1, v2, v3, v4, v5⟩ := cv
  have hr := va_recv hK hP hc he
  rw [hq] at hr
  exact va_runV (C := y.cls) ⟨hx, hb, hml, hown, hts⟩ hM ⟨cb_in hts w1 v3 v4 v5 hR, hts _ v1, hts _ v2⟩ ⟨pre_fb, hr, pre_now hK (hP.sub isC (fmap_of hCw)) (hD.sub isC hnd hCw)⟩ rfl hn hls hst (lv_room hW) hdg hf
theorem runS {y : MethodName} {bytes : ByteArray} {maxL d mc ms n : Nat} {ret : Option FieldType} {Qc : Array Value → State → Outcome → State → Prop} {wc ws : va_W} {As rest st : List Value}
    (hC : Ctx p s m meth c args cc nL retO own nm) (hK : va_K D classes ty s) (hP : va_P D classes ws H) (hD : va_D A ws) (hls : ls.size = nL)
    (hM : Met l y (.code y bytes maxL ret :: BIG) (rmK d mc ms) (va_Pc As (Pre D ty wc H.size)) Qc mc ms (va_A wc H.size)) (cv : CSw y bytes maxL ret n) (w1 : Cond.methodLink own idx y ∈ BIG)
    (isC : List Nat) (hCw : isC.map (fun i => ws[i]?) = wc.map some) (hnd : va_nd isC = true)
    (hn : As.length = n) (hst : st = As.reverse ++ rest) (hW : (rest.map fun v => v.category).sum ≤ 8) (hR : d + 1 ≤ R.frames ∧ 8 + (maxL + 11) + 60 * d ≤ R.locals) (hf : cells + mc ≤ R.cells ∧ slots + ms ≤ R.slots) (hdg : decode cc pc = .ok (.invokestatic idx, 3)) :
    va_Run p l e R s m args below meth c H locs cells slots mc ms (F0 m pc ls st) rest (Qc As.toArray) (va_A wc H.size) := by
  obtain ⟨hx, hb, -, hml, hown, hts, -, -⟩ := hC
  obtain ⟨v1, v3, v4, v5⟩ := cv
  exact va_runS ⟨hx, hb, hml, hown, hts⟩ hM ⟨cb_in hts w1 v3 v4 v5 hR, hts _ v1⟩ ⟨pre_fb, pre_now hK (hP.sub isC (fmap_of hCw)) (hD.sub isC hnd hCw)⟩ rfl hn hls hst (lv_room hW) hdg hf
theorem runI {y : MethodName} {bytes : ByteArray} {maxL d mc ms n : Nat} {Qc : Array Value → State → Outcome → State → Prop} {wc ws : va_W} {b : Nat} {As rest st : List Value}
    (hC : Ctx p s m meth c args cc nL retO own nm) (hK : va_K D classes ty s) (hP : va_P D classes ws H) (hD : va_D A ws) (hls : ls.size = nL)
    (hM : Met l y (.code y bytes maxL none :: BIG) (rmK d mc ms) (va_Pc (.ref b :: As) (Pre D ty wc H.size)) Qc mc ms (va_A wc H.size)) (cv : CIw y bytes maxL n) (w1 : Cond.methodLink own idx y ∈ BIG)
    (isC : List Nat) (hCw : isC.map (fun i => ws[i]?) = wc.map some) (hnd : va_nd isC = true)
    (hn : As.length = n) (hst : st = As.reverse ++ .ref b :: rest) (hW : (rest.map fun v => v.category).sum ≤ 8) (hR : d + 1 ≤ R.frames ∧ 8 + (maxL + 11) + 60 * d ≤ R.locals) (hf : cells + mc ≤ R.cells ∧ slots + ms ≤ R.slots) (hdg : decode cc pc = .ok (.invokespecial idx, 3)) :
    va_Run p l e R s m args below meth c H locs cells slots mc ms (F0 m pc ls st) rest (Qc (Value.ref b :: As).toArray) (va_A wc H.size) := by
  obtain ⟨hx, hb, -, hml, hown, hts, -, -⟩ := hC
  obtain ⟨v1, v3, v4, v6, v5⟩ := cv
  exact va_runI ⟨hx, hb, hml, hown, hts⟩ hM ⟨cb_in hts w1 v3 v4 v5 hR, v6, hts _ v1⟩ ⟨pre_fb, pre_now hK (hP.sub isC (fmap_of hCw)) (hD.sub isC hnd hCw)⟩ rfl hn hls hst (lv_room hW) hdg hf
theorem aftI {S : Type} {post : Int32 → S → Prop} {w1 : S → va_W} {wc wr ws : va_W} {a : Array Value} {rest st : List Value} {mc ms : Nat}
    (hr : va_Run p l e R s m args below meth c H locs cells slots mc ms (F0 m pc ls st) rest (va_Qi post (fun u => Aft D (va_A wc H.size) (w1 u)) (va_A wc H.size) a) (va_A wc H.size))
    (hP : va_P D classes ws H) (hD : va_D A ws) (hS : va_S A H0 H locs) (hA : ∀ q, H0.size ≤ q → A q) (isC isR : List Nat) (hCw : isC.map (fun i => ws[i]?) = wc.map some) (hRw : isR.map (fun i => ws[i]?) = wr.map some) (hn : va_nd isR = true) (hdis : ∀ i ∈ isR, i ∉ isC)
    (kk : ∀ (r : Int32) (u : S) (H1 : Heap) (locs1 : List Loc), post r u → va_P D classes (wr ++ w1 u) H1 → va_D A (wr ++ w1 u) → va_S A H0 H1 locs1 → W p l e R s m args below meth c H1 locs1 (cells + mc) (slots + ms) Q (F0 m (pc + 3) ls (.int r :: rest))) : W p l e R s m args below meth c H locs cells slots Q (F0 m pc ls st) := by
  have hFc := va_free (wc := wc) hD hS hA isC hCw
  refine va_calli hr hS (fun q _ h => hFc q h) hFc (fun r u t H1 locs ht hvm hw hB hz1 hk1 hS => ?_)
  obtain ⟨hP1, hD1⟩ := hB
  rw [ht] at hP1
  obtain ⟨hP2, hD2⟩ := va_join (wr := wr) (w1 := w1 u) hP hD isC isR hCw hRw hn hdis hk1 hFc hP1 hD1
  exact kk r u H1 locs hw hP2 hD2 hS
theorem aftL {S : Type} {post : Int64 → S → Prop} {w1 : S → va_W} {wc wr ws : va_W} {a : Array Value} {rest st : List Value} {mc ms : Nat}
    (hr : va_Run p l e R s m args below meth c H locs cells slots mc ms (F0 m pc ls st) rest (va_Ql post (fun u => Aft D (va_A wc H.size) (w1 u)) (va_A wc H.size) a) (va_A wc H.size))
    (hP : va_P D classes ws H) (hD : va_D A ws) (hS : va_S A H0 H locs) (hA : ∀ q, H0.size ≤ q → A q) (isC isR : List Nat) (hCw : isC.map (fun i => ws[i]?) = wc.map some) (hRw : isR.map (fun i => ws[i]?) = wr.map some) (hn : va_nd isR = true) (hdis : ∀ i ∈ isR, i ∉ isC)
    (kk : ∀ (r : Int64) (u : S) (H1 : Heap) (locs1 : List Loc), post r u → va_P D classes (wr ++ w1 u) H1 → va_D A (wr ++ w1 u) → va_S A H0 H1 locs1 → W p l e R s m args below meth c H1 locs1 (cells + mc) (slots + ms) Q (F0 m (pc + 3) ls (.long r :: rest))) : W p l e R s m args below meth c H locs cells slots Q (F0 m pc ls st) := by
  have hFc := va_free (wc := wc) hD hS hA isC hCw
  refine va_calll hr hS (fun q _ h => hFc q h) hFc (fun r u t H1 locs ht hvm hw hB hz1 hk1 hS => ?_)
  obtain ⟨hP1, hD1⟩ := hB
  rw [ht] at hP1
  obtain ⟨hP2, hD2⟩ := va_join (wr := wr) (w1 := w1 u) hP hD isC isR hCw hRw hn hdis hk1 hFc hP1 hD1
  exact kk r u H1 locs hw hP2 hD2 hS
theorem aftV {S : Type} {post : S → Prop} {w1 : S → va_W} {wc wr ws : va_W} {a : Array Value} {rest st : List Value} {mc ms : Nat}
    (hr : va_Run p l e R s m args below meth c H locs cells slots mc ms (F0 m pc ls st) rest (va_Qv post (fun u => Aft D (va_A wc H.size) (w1 u)) (va_A wc H.size) a) (va_A wc H.size))
    (hP : va_P D classes ws H) (hD : va_D A ws) (hS : va_S A H0 H locs) (hA : ∀ q, H0.size ≤ q → A q) (isC isR : List Nat) (hCw : isC.map (fun i => ws[i]?) = wc.map some) (hRw : isR.map (fun i => ws[i]?) = wr.map some) (hn : va_nd isR = true) (hdis : ∀ i ∈ isR, i ∉ isC)
    (kk : ∀ (u : S) (H1 : Heap) (locs1 : List Loc), post u → va_P D classes (wr ++ w1 u) H1 → va_D A (wr ++ w1 u) → va_S A H0 H1 locs1 → W p l e R s m args below meth c H1 locs1 (cells + mc) (slots + ms) Q (F0 m (pc + 3) ls rest)) : W p l e R s m args below meth c H locs cells slots Q (F0 m pc ls st) := by
  have hFc := va_free (wc := wc) hD hS hA isC hCw
  refine va_callv hr hS (fun q _ h => hFc q h) hFc (fun u t H1 locs ht hvm hw hB hz1 hk1 hS => ?_)
  obtain ⟨hP1, hD1⟩ := hB
  rw [ht] at hP1
  obtain ⟨hP2, hD2⟩ := va_join (wr := wr) (w1 := w1 u) hP hD isC isR hCw hRw hn hdis hk1 hFc hP1 hD1
  exact kk u H1 locs hw hP2 hD2 hS
theorem retI {S : Type} {post : Int32 → S → Prop} {w1 : S → va_W} {ws : va_W} {v : Int32} {mc ms : Nat} (hC : Ctx p s m meth c args cc nL (some .int) own nm) (hP : va_P D classes ws H) (hD : va_D A ws) (hS : va_S A s.heap H locs) (hc : cells ≤ mc) (hs : slots ≤ ms) (u : S) (is : List Nat) (hi : is.map (fun i => ws[i]?) = (w1 u).map some) (hn : va_nd is = true) (hp : post v u) (hdg : decode cc pc = .ok (.ireturn, 1)) :
    W p l e R s m args below meth c H locs cells slots (MQ below (va_Qi post (fun u => Aft D A (w1 u)) A) args s mc ms A) (F0 m pc ls [.int v]) := by
  obtain ⟨hx, hb, hr, -, -, -, hlk, -⟩ := hC
  exact W.widen hc hs (W.iret (v := v) hx hb hr (fun t ht _ => ⟨⟨v, u, rfl, hp, by rw [ht]; exact hP.sub is (fmap_of hi), hD.sub is hn hi⟩, hS.F ht⟩) hS.2.2 hdg hlk)
theorem retZ {S : Type} {post : Int32 → S → Prop} {w1 : S → va_W} {ws : va_W} {v : Int32} {mc ms : Nat} (hC : Ctx p s m meth c args cc nL (some .boolean) own nm) (hP : va_P D classes ws H) (hD : va_D A ws) (hS : va_S A s.heap H locs) (hc : cells ≤ mc) (hs : slots ≤ ms) (u : S) (is : List Nat) (hi : is.map (fun i => ws[i]?) = (w1 u).map some) (hn : va_nd is = true) (hp : post v u) (hnar : narrow .boolean (.int v) = .int v) (hdg : decode cc pc = .ok (.ireturn, 1)) :
    W p l e R s m args below meth c H locs cells slots (MQ below (va_Qi post (fun u => Aft D A (w1 u)) A) args s mc ms A) (F0 m pc ls [.int v]) := by
  obtain ⟨hx, hb, hr, -, -, -, hlk, -⟩ := hC
  exact W.widen hc hs (W.zret (v := v) hx hb hr hnar (fun t ht _ => ⟨⟨v, u, rfl, hp, by rw [ht]; exact hP.sub is (fmap_of hi), hD.sub is hn hi⟩, hS.F ht⟩) hS.2.2 hdg hlk)
theorem retL {S : Type} {post : Int64 → S → Prop} {w1 : S → va_W} {ws : va_W} {v : Int64} {mc ms : Nat} (hC : Ctx p s m meth c args cc nL (some .long) own nm) (hP : va_P D classes ws H) (hD : va_D A ws) (hS : va_S A s.heap H locs) (hc : cells ≤ mc) (hs : slots ≤ ms) (u : S) (is : List Nat) (hi : is.map (fun i => ws[i]?) = (w1 u).map some) (hn : va_nd is = true) (hp : post v u) (hdg : decode cc pc = .ok (.lreturn, 1)) :
    W p l e R s m args below meth c H locs cells slots (MQ below (va_Ql post (fun u => Aft D A (w1 u)) A) args s mc ms A) (F0 m pc ls [.long v]) := by
  obtain ⟨hx, hb, hr, -, -, -, hlk, -⟩ := hC
  exact W.widen hc hs (W.lret (v := v) hx hb hr (fun t ht _ => ⟨⟨v, u, rfl, hp, by rw [ht]; exact hP.sub is (fmap_of hi), hD.sub is hn hi⟩, hS.F ht⟩) hS.2.2 hdg hlk)
theorem retV {S : Type} {post : S → Prop} {w1 : S → va_W} {ws : va_W} {mc ms : Nat} (hC : Ctx p s m meth c args cc nL none own nm) (hP : va_P D classes ws H) (hD : va_D A ws) (hS : va_S A s.heap H locs) (hc : cells ≤ mc) (hs : slots ≤ ms) (u : S) (is : List Nat) (hi : is.map (fun i => ws[i]?) = (w1 u).map some) (hn : va_nd is = true) (hp : post u) (hdg : decode cc pc = .ok (.return_, 1)) :
    W p l e R s m args below meth c H locs cells slots (MQ below (va_Qv post (fun u => Aft D A (w1 u)) A) args s mc ms A) (F0 m pc ls []) := by
  obtain ⟨hx, hb, hr, -, -, -, hlk, -⟩ := hC
  exact W.widen hc hs (W.vret hx hb hr (fun t ht _ => ⟨⟨u, rfl, hp, by rw [ht]; exact hP.sub is (fmap_of hi), hD.sub is hn hi⟩, hS.F ht⟩) hS.2.2 hdg hlk)
theorem gf {ws : va_W} {a : Nat} {rest : List Value} {C : String} {T : u_T} {N ci : Nat} {fs : List Value} {v : Value} (hC : Ctx p s m meth c args cc nL retO own nm) (hK : va_K D classes ty s) (hP : va_P D classes ws H) (hin : ∀ w ∈ u_ws C T N, w ∈ BIG) (q0 : Nat) (he : ws[q0]? = some (a, .inr (ci, fs))) (hc : classes[ci]? = some (C, T, N)) (k : Nat) (hk : k < N) (hl : Cond.fieldLink own idx (T k).1 (T k).2.1 (T k).2.2.1 ∈ BIG) (hv : fs[k]? = some v) (hdg : decode cc pc = .ok (.getfield idx, 3))
    (kk : W p l e R s m args below meth c H locs cells slots Q (F0 m (pc + 3) ls (v :: rest))) : W p l e R s m args below meth c H locs cells slots Q (F0 m pc ls (.ref a :: rest)) := by
  obtain ⟨hx, hb, -, -, hown, hts, -, -⟩ := hC
  exact va_get hx hb hts hin hown hK hP q0 he hc k hk (hts _ hl) (fun _ h => h) hv hdg kk
theorem pf {ws : va_W} {a : Nat} {rest : List Value} {C : String} {T : u_T} {N ci : Nat} {fs : List Value} {v : Value} (hC : Ctx p s m meth c args cc nL retO own nm) (hK : va_K D classes ty s) (hP : va_P D classes ws H) (hD : va_D A ws) (hS : va_S A H0 H locs) (hin : ∀ w ∈ u_ws C T N, w ∈ BIG) {ty0 : Nat → FieldType} (hty : ∀ k, k < N → parseFieldDescriptor (T k).2.2.1 = some (ty0 k)) (hnm : ∀ a, a < N → ∀ b, b < N → a ≠ b → (T a).2.1 ≠ (T b).2.1) (q0 : Nat) (he : ws[q0]? = some (a, .inr (ci, fs))) (hc : classes[ci]? = some (C, T, N)) (k : Nat) (hk : k < N) (hl : Cond.fieldLink own idx (T k).1 (T k).2.1 (T k).2.2.1 ∈ BIG) (hfin : (T k).2.2.2 = false) (hn : narrow (ty0 k) v = v) (hfit : fits (ty0 k) v = true) (hlen : k < fs.length) (hdg : decode cc pc = .ok (.putfield idx, 3))
    (kk : ∀ (H1 : Heap) (locs1 : List Loc), va_P D classes (ws.set q0 (a, .inr (ci, fs.set k v))) H1 → va_D A (ws.set q0 (a, .inr (ci, fs.set k v))) → va_S A H0 H1 locs1 → W p l e R s m args below meth c H1 locs1 cells slots Q (F0 m (pc + 3) ls rest)) : W p l e R s m args below meth c H locs cells slots Q (F0 m pc ls (v :: .ref a :: rest)) := by
  obtain ⟨hx, hb, -, -, hown, hts, -, -⟩ := hC
  exact va_put hx hb hts hin ty0 hty hnm hown hK hP hD hS q0 he hc k hk (hts _ hl) (fun _ h => h) hfin (hty k hk) hn hfit hlen hdg kk
theorem pfF {ws : va_W} {a : Nat} {rest : List Value} {C : String} {T : u_T} {N ci : Nat} {fs : List Value} {v : Value} (hC : Ctx p s m meth c args cc nL retO own "<init>") (hK : va_K D classes ty s) (hP : va_P D classes ws H) (hD : va_D A ws) (hS : va_S A H0 H locs) (hin : ∀ w ∈ u_ws C T N, w ∈ BIG) {ty0 : Nat → FieldType} (hty : ∀ k, k < N → parseFieldDescriptor (T k).2.2.1 = some (ty0 k)) (hnm : ∀ a, a < N → ∀ b, b < N → a ≠ b → (T a).2.1 ≠ (T b).2.1) (q0 : Nat) (he : ws[q0]? = some (a, .inr (ci, fs))) (hc : classes[ci]? = some (C, T, N)) (k : Nat) (hk : k < N) (hl : Cond.fieldLink own idx (T k).1 (T k).2.1 (T k).2.2.1 ∈ BIG) (hfin : (T k).2.2.2 = true) (hdecl : (T k).1 = own) (hn : narrow (ty0 k) v = v) (hfit : fits (ty0 k) v = true) (hlen : k < fs.length) (hdg : decode cc pc = .ok (.putfield idx, 3))
    (kk : ∀ (H1 : Heap) (locs1 : List Loc), va_P D classes (ws.set q0 (a, .inr (ci, fs.set k v))) H1 → va_D A (ws.set q0 (a, .inr (ci, fs.set k v))) → va_S A H0 H1 locs1 → W p l e R s m args below meth c H1 locs1 cells slots Q (F0 m (pc + 3) ls rest)) : W p l e R s m args below meth c H locs cells slots Q (F0 m pc ls (v :: .ref a :: rest)) := by
  obtain ⟨hx, hb, -, -, hown, hts, -, hnm2⟩ := hC
  exact va_putF hx hb hts hin ty0 hty hnm hown hK hP hD hS q0 he hc k hk (hts _ hl) (fun _ h => h) hfin hnm2 hdecl (hty k hk) hn hfit hlen hdg kk
theorem lv_cst {x v : Int32} {rest : List Value} (h : x = v) (k : W p l e R s m args below meth c H locs cells slots Q (F0 m pc ls (.int v :: rest))) : W p l e R s m args below meth c H locs cells slots Q (F0 m pc ls (.int x :: rest)) := h ▸ k
theorem lv_cstL {x v : Int64} {rest : List Value} (h : x = v) (k : W p l e R s m args below meth c H locs cells slots Q (F0 m pc ls (.long v :: rest))) : W p l e R s m args below meth c H locs cells slots Q (F0 m pc ls (.long x :: rest)) := h ▸ k
end CALLS
theorem gs_eq {fs : List Value} {k : Nat} {v : Value} (h : k < fs.length) : (fs.set k v)[k]? = some v := by rw [List.getElem?_set_self h]
theorem gs_ne {fs : List Value} {j k : Nat} {v : Value} {o : Option Value} (h : k ≠ j) (hj : fs[j]? = o) : (fs.set k v)[j]? = o := by rw [List.getElem?_set_ne h]; exact hj
theorem ln_set {fs : List Value} {k N : Nat} {v : Value} (h : fs.length = N) : (fs.set k v).length = N := by rw [List.length_set]; exact h
theorem ln_lt {fs : List Value} {k N : Nat} (h : fs.length = N) (hk : k < N) : k < fs.length := by rw [h]; exact hk
section NEWS
variable {p : Program} {l : Launch} {e : Env} {R : Room} {s : State} {m : MethodId} {args : Array Value} {below : List Frame} {meth : Method} {c : Code} {H H0 : Heap} {locs : List Loc} {cells slots : Nat} {Q : State → Prop} {cc : ByteArray} {nL pc idx : Nat} {own nm : String} {retO : Option FieldType} {ls : Array Slot} {D : va_G} {A : Nat → Prop} {cyB cyI cyJ cyZ : ClassId} {ws : va_W} {n : Int32} {N : Nat} {rest : List Value}
theorem nwI (hC : Ctx p s m meth c args cc nL retO own nm) (hw : Cond.arrayClass .int ∈ BIG) (hK : va_K D classes (TYS cyB cyI cyJ cyZ) s) (hP : va_P D classes ws H) (hD : va_D A ws) (hS : va_S A H0 H locs) (hA : ∀ q, H0.size ≤ q → A q) (hn : ¬ n < 0) (hN : n.toNatClampNeg = N) (hbytes : N * componentBytes .int ≤ 536870912) (hcells : cells + 1 ≤ R.cells) (hslots : slots + N ≤ R.slots) (hdg : decode cc pc = .ok (.newarray .int, 2)) 
    (kk : ∀ (q : Nat) (H1 : Heap), va_P D classes (ws ++ [(q, .inl (cyI, N, .inl (fun _ => 0)))]) H1 → va_D A (ws ++ [(q, .inl (cyI, N, .inl (fun _ => 0)))]) → va_S A H0 H1 locs → W p l e R s m args below meth c H1 locs (cells + 1) (slots + N) Q (F0 m (pc + 2) ls (.ref q :: rest))) : W p l e R s m args below meth c H locs cells slots Q (F0 m pc ls (.int n :: rest)) := by
  obtain ⟨hx, hb, -, -, hown, hts, -, -⟩ := hC
  refine va_newa (atype := .int) hx hb (hts _ hw) rfl hK hP hD hS hA (a0 := (N, .inl (fun _ => 0))) (fun _ => rfl) hn hN hbytes hcells hslots hdg (fun q cA H1 hK1 hP1 hD1 hS1 => ?_)
  have h1 := (hK1.2 4 (cA, .int) rfl).2
  have h2 := (hK1.2 1 (cyI, .int) rfl).2
  have h3 : cA = cyI := Option.some.inj (h1.symm.trans h2)
  subst h3
  exact kk q H1 hP1 hD1 hS1
theorem nwB (hC : Ctx p s m meth c args cc nL retO own nm) (hw : Cond.arrayClass .byte ∈ BIG) (hK : va_K D classes (TYS cyB cyI cyJ cyZ) s) (hP : va_P D classes ws H) (hD : va_D A ws) (hS : va_S A H0 H locs) (hA : ∀ q, H0.size ≤ q → A q) (hn : ¬ n < 0) (hN : n.toNatClampNeg = N) (hbytes : N * componentBytes .byte ≤ 536870912) (hcells : cells + 1 ≤ R.cells) (hslots : slots + N ≤ R.slots) (hdg : decode cc pc = .ok (.newarray .byte, 2)) 
    (kk : ∀ (q : Nat) (H1 : Heap), va_P D classes (ws ++ [(q, .inl (cyB, N, .inl (fun _ => 0)))]) H1 → va_D A (ws ++ [(q, .inl (cyB, N, .inl (fun _ => 0)))]) → va_S A H0 H1 locs → W p l e R s m args below meth c H1 locs (cells + 1) (slots + N) Q (F0 m (pc + 2) ls (.ref q :: rest))) : W p l e R s m args below meth c H locs cells slots Q (F0 m pc ls (.int n :: rest)) := by
  obtain ⟨hx, hb, -, -, hown, hts, -, -⟩ := hC
  refine va_newa (atype := .byte) hx hb (hts _ hw) rfl hK hP hD hS hA (a0 := (N, .inl (fun _ => 0))) (fun _ => rfl) hn hN hbytes hcells hslots hdg (fun q cA H1 hK1 hP1 hD1 hS1 => ?_)
  have h1 := (hK1.2 4 (cA, .byte) rfl).2
  have h2 := (hK1.2 0 (cyB, .byte) rfl).2
  have h3 : cA = cyB := Option.some.inj (h1.symm.trans h2)
  subst h3
  exact kk q H1 hP1 hD1 hS1
theorem nwZ (hC : Ctx p s m meth c args cc nL retO own nm) (hw : Cond.arrayClass .boolean ∈ BIG) (hK : va_K D classes (TYS cyB cyI cyJ cyZ) s) (hP : va_P D classes ws H) (hD : va_D A ws) (hS : va_S A H0 H locs) (hA : ∀ q, H0.size ≤ q → A q) (hn : ¬ n < 0) (hN : n.toNatClampNeg = N) (hbytes : N * componentBytes .boolean ≤ 536870912) (hcells : cells + 1 ≤ R.cells) (hslots : slots + N ≤ R.slots) (hdg : decode cc pc = .ok (.newarray .boolean, 2)) 
    (kk : ∀ (q : Nat) (H1 : Heap), va_P D classes (ws ++ [(q, .inl (cyZ, N, .inl (fun _ => 0)))]) H1 → va_D A (ws ++ [(q, .inl (cyZ, N, .inl (fun _ => 0)))]) → va_S A H0 H1 locs → W p l e R s m args below meth c H1 locs (cells + 1) (slots + N) Q (F0 m (pc + 2) ls (.ref q :: rest))) : W p l e R s m args below meth c H locs cells slots Q (F0 m pc ls (.int n :: rest)) := by
  obtain ⟨hx, hb, -, -, hown, hts, -, -⟩ := hC
  refine va_newa (atype := .boolean) hx hb (hts _ hw) rfl hK hP hD hS hA (a0 := (N, .inl (fun _ => 0))) (fun _ => rfl) hn hN hbytes hcells hslots hdg (fun q cA H1 hK1 hP1 hD1 hS1 => ?_)
  have h1 := (hK1.2 4 (cA, .boolean) rfl).2
  have h2 := (hK1.2 3 (cyZ, .boolean) rfl).2
  have h3 : cA = cyZ := Option.some.inj (h1.symm.trans h2)
  subst h3
  exact kk q H1 hP1 hD1 hS1
theorem nwJ (hC : Ctx p s m meth c args cc nL retO own nm) (hw : Cond.arrayClass .long ∈ BIG) (hK : va_K D classes (TYS cyB cyI cyJ cyZ) s) (hP : va_P D classes ws H) (hD : va_D A ws) (hS : va_S A H0 H locs) (hA : ∀ q, H0.size ≤ q → A q) (hn : ¬ n < 0) (hN : n.toNatClampNeg = N) (hbytes : N * componentBytes .long ≤ 536870912) (hcells : cells + 1 ≤ R.cells) (hslots : slots + N ≤ R.slots) (hdg : decode cc pc = .ok (.newarray .long, 2)) 
    (kk : ∀ (q : Nat) (H1 : Heap), va_P D classes (ws ++ [(q, .inl (cyJ, N, .inr (.inl (fun _ => 0))))]) H1 → va_D A (ws ++ [(q, .inl (cyJ, N, .inr (.inl (fun _ => 0))))]) → va_S A H0 H1 locs → W p l e R s m args below meth c H1 locs (cells + 1) (slots + N) Q (F0 m (pc + 2) ls (.ref q :: rest))) : W p l e R s m args below meth c H locs cells slots Q (F0 m pc ls (.int n :: rest)) := by
  obtain ⟨hx, hb, -, -, hown, hts, -, -⟩ := hC
  refine va_newa (atype := .long) hx hb (hts _ hw) rfl hK hP hD hS hA (a0 := (N, .inr (.inl (fun _ => 0)))) (fun _ => rfl) hn hN hbytes hcells hslots hdg (fun q cA H1 hK1 hP1 hD1 hS1 => ?_)
  have h1 := (hK1.2 4 (cA, .long) rfl).2
  have h2 := (hK1.2 2 (cyJ, .long) rfl).2
  have h3 : cA = cyJ := Option.some.inj (h1.symm.trans h2)
  subst h3
  exact kk q H1 hP1 hD1 hS1
end NEWS
