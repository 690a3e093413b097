-- own kit: memories, worlds' heads, calls, stores, returns
abbrev Mem : Type := Nat → Nat → Int32
abbrev MemL : Type := Nat → Nat → Int64
def up2 (m : Mem) (c i : Nat) (x : Int32) : Mem := fun a => if a = c then upd (m c) i x else m a
def up2L (m : MemL) (c i : Nat) (x : Int64) : MemL := fun a => if a = c then vp_updL (m c) i x else m a
def up3 (C : Nat → Mem) (g : Nat) (m : Mem) : Nat → Mem := fun a => if a = g then m else C a
def cpy2 (m : Mem) (c sp dp n : Nat) : Mem := fun a => if a = c then va_cpy (m c) (m c) sp dp n else m a
def ushr (x y : Int32) : Int32 := (x.toUInt32 >>> (y.toUInt32 &&& Int32.toUInt32 31)).toInt32
def i2bv (x : Int32) : Int32 := x.toInt8.toInt32
def i2sv (x : Int32) : Int32 := x.toInt16.toInt32
abbrev TY (cI cJ : ClassId) : List (ClassId × FieldType) := [(cI, .int), (cJ, .long)]
def PRE (D : va_G) (ty : List (ClassId × FieldType)) (ws : va_W) (sz : Nat) : State → Prop := fun U => U.heap.size = sz ∧ va_P D vwCl ws U.heap ∧ va_K D vwCl ty U ∧ va_D (fun _ => True) ws
def AT (D : va_G) (ty : List (ClassId × FieldType)) (A : Nat → Prop) (ws : va_W) (t : State) : Prop := va_P D vwCl ws t.heap ∧ va_K D vwCl ty t ∧ va_D A ws
def CX (own : String) (cc : ByteArray) (rt : Option FieldType) (nL : Nat) (p : Program) (s : State) (m : MethodId) (args : Array Value) (meth : Method) (c : Code) (D : va_G) (ty : List (ClassId × FieldType)) : Prop :=
  p.tables.exec = Jvm.exec ∧ c.code = cc ∧ meth.sig.returnType = rt ∧ c.maxLocals = nL ∧ s.vm.findClass own = some m.cls ∧ (∀ w ∈ gt, w.before args s = true) ∧ meth.locks = false ∧ va_K D vwCl ty s
def MK (y : MethodName) (bytes : ByteArray) (maxL : Nat) (ret : Option FieldType) (n : Nat) : Prop := Cond.code y bytes maxL ret ∈ gt ∧ Cond.initialized y.cls ∈ gt ∧ (y.cls ≠ "java/lang/invoke/MethodHandle" ∧ y.cls ≠ "java/lang/invoke/VarHandle" ∧ (parseMethodDescriptor y.desc).map (fun d => d.parameters.length) = some n)
def MV (y : MethodName) (bytes : ByteArray) (maxL : Nat) (ret : Option FieldType) (n : Nat) : Prop := MK y bytes maxL ret n ∧ Cond.instanceMethod y ∈ gt ∧ Cond.selects y.cls y y ∈ gt
def MS (y : MethodName) (bytes : ByteArray) (maxL : Nat) (ret : Option FieldType) (n : Nat) : Prop := MK y bytes maxL ret n ∧ Cond.static y ∈ gt
theorem good_gt {y : MethodName} {bytes : ByteArray} {maxL : Nat} {ret : Option FieldType} (h : Cond.code y bytes maxL ret ∈ gt) : GoodIn gt (Cond.code y bytes maxL ret :: gt) := fun w hw => (List.mem_cons.mp hw).elim (fun e => by subst e; exact ⟨h, gt_good h⟩) (fun h => ⟨h, gt_good h⟩)
theorem fm_of_map {α β : Type} {f : α → Option β} : ∀ {is : List α} {w : List β}, is.map f = w.map some → is.filterMap f = w
  | [], w, h => by cases w with | nil => rfl | cons a b => simp at h
  | i :: is, w, h => by
    cases w with
    | nil => simp at h
    | cons a b =>
      simp only [List.map_cons, List.cons.injEq] at h
      rw [List.filterMap_cons, h.1]
      simp only [fm_of_map h.2]
section OWN
variable {p : Program} {l : Launch} {e : Env} {R : Room} {s : State} {m : MethodId} {args a : Array Value} {below : List Frame} {meth : Method} {c : Code} {H H0 : Heap} {locs : List Loc} {cells slots mc ms : Nat} {Q : State → Prop}
variable {cc : ByteArray} {pc nL : Nat} {ls : Array Slot} {rest st0 : List Value} {D : va_G} {ty : List (ClassId × FieldType)} {A : Nat → Prop} {ws wc : va_W} {own : String} {y : MethodName} {bytes : ByteArray} {maxL n index : Nat} {ret : Option FieldType} {rm : Room}
theorem met_of {Qf : (Nat → Prop) → Array Value → State → Outcome → State → Prop} {av : List Value} {lv : List (Nat × Value)} {sz : Nat} (hy : plainName y.cls = true) (ho : y.cls = own) (hn : (lg_sl av).length ≤ maxL) (hlv : lv_args 0 av = lv)
    (body : ∀ (p : Program) (e : Env) (s : State) (m : MethodId) (below : List Frame) (meth : Method) (c : Code) (A : Nat → Prop), CX own bytes ret maxL p s m av.toArray meth c D ty → (∀ q, s.heap.size ≤ q → A q) → ∀ ls : Array Slot, va_P D vwCl ws s.heap → va_D A ws → va_S A s.heap s.heap [] → lv_has ls maxL lv → W p l e rm s m av.toArray below meth c s.heap [] 0 0 (MQ below (Qf A) av.toArray s mc ms A) (F0 m 0 ls [])) :
    Met l y (Cond.code y bytes maxL ret :: gt) rm (va_Pc av (PRE D ty ws sz)) (Qf (va_A ws sz)) mc ms (va_A ws sz) := by
  refine Met.ofW (cc := bytes) (maxL := maxL) (ret := ret) hy rfl ?_
  intro p e s m args below meth c s₁ B hml hv
  obtain ⟨rfl, hsz, hP, hK, hD0⟩ := hv
  have cx : CX own bytes ret maxL p s m av.toArray meth c D ty := ⟨B.exec, B.bytes, B.returns, hml, ho ▸ findClass_of_methodNamed B.named, fun w hw => atoms_spec (ws := Cond.code y bytes maxL ret :: gt) B.pre w (List.mem_cons_of_mem _ hw), B.notSynchronized, hK⟩
  subst hsz
  have hD := hD0.self (sz := s.heap.size)
  have hA : ∀ q : Nat, s.heap.size ≤ q → va_A ws s.heap.size q := fun q h => Or.inr h
  have hl := lv_entry av (n := maxL) hn
  rw [hlv] at hl
  rw [lg_entry_eq]
  exact body p e s m below meth c _ cx hA _ hP hD va_S.rf hl
theorem own_cb (hts : ∀ w ∈ gt, w.before args s = true) (hk : MK y bytes maxL ret n) (hl : Cond.methodLink own index y ∈ gt) (hrc : rm.cells = mc) (hrs : rm.slots = ms) (hR : rm.frames + 1 ≤ R.frames ∧ 8 + (maxL + 11) + rm.locals ≤ R.locals) : CallB R s args own index y bytes maxL ret (Cond.code y bytes maxL ret :: gt) rm mc ms n :=
  callB_of n hts (good_gt hk.1) rfl hrc hrs (hts _ hk.2.1) (hts _ hl) hk.2.2 hR
theorem pre_blind {av : List Value} {sz : Nat} : FrameBlind (va_Pc av (PRE D ty ws sz)) := fun a U g mk q => by
  obtain ⟨q0, q1, qP, qK, qD⟩ := q
  exact ⟨q0, q1, qP, va_K.moved (u := U) (U := U.calling g mk a) (Vm.Alike.refl U.vm) qK, qD⟩
theorem pre_at (hP : va_P D vwCl ws H) (hK : va_K D vwCl ty s) (hD : va_D A ws) (av : List Value) : ∀ U : State, U.heap = H → s.WarmedH U.vm → va_Pc av (PRE D ty ws H.size) av.toArray U :=
  fun U hU hW => ⟨rfl, by rw [hU], by rw [hU]; exact hP, va_K.moved hW.alike hK, hD.weaken (fun _ _ _ _ => trivial)⟩
theorem run_V {b ci N : Nat} {T : u_T} {fs As : List Value} {Qc : Array Value → State → Outcome → State → Prop} {free : Addr → Prop} (cx : CX own cc (meth.sig.returnType) nL p s m args meth c D ty) (hM : Met l y (Cond.code y bytes maxL ret :: gt) rm (va_Pc (.ref b :: As) (PRE D ty wc H.size)) Qc mc ms free) (hk : MV y bytes maxL ret n) (hl : Cond.methodLink own index y ∈ gt) (hrc : rm.cells = mc) (hrs : rm.slots = ms) (hR : rm.frames + 1 ≤ R.frames ∧ 8 + (maxL + 11) + rm.locals ≤ R.locals)
    (hP : va_P D vwCl wc H) (hD : va_D A wc) (he : wc[0]? = some (b, .inr (ci, fs))) (hc : vwCl[ci]? = some (y.cls, T, N))
    (hn : As.length = n) (hsize : ls.size = nL) (hstack : st0 = As.reverse ++ .ref b :: rest) (hW : (rest.map fun v => v.category).sum ≤ 8) (hdg : decode cc pc = .ok (.invokevirtual index, 3)) (hf : cells + mc ≤ R.cells ∧ slots + ms ≤ R.slots) :
    va_Run p l e R s m args below meth c H locs cells slots mc ms (F0 m pc ls st0) rest (Qc (Value.ref b :: As).toArray) free := by
  obtain ⟨hx, hb, -, hml, hown, hts, -, hK⟩ := cx
  exact va_runV (As := As) (rest := rest) ⟨hx, hb, hml, hown, hts⟩ hM ⟨own_cb hts hk.1 hl hrc hrs hR, hts _ hk.2.1, hts _ hk.2.2⟩ ⟨pre_blind, va_recv hK hP hc he, pre_at hP hK hD _⟩ rfl hn hsize hstack (lv_room hW) hdg hf
theorem run_S {As : List Value} {Qc : Array Value → State → Outcome → State → Prop} {free : Addr → Prop} (cx : CX own cc (meth.sig.returnType) nL p s m args meth c D ty) (hM : Met l y (Cond.code y bytes maxL ret :: gt) rm (va_Pc As (PRE D ty wc H.size)) Qc mc ms free) (hk : MS y bytes maxL ret n) (hl : Cond.methodLink own index y ∈ gt) (hrc : rm.cells = mc) (hrs : rm.slots = ms) (hR : rm.frames + 1 ≤ R.frames ∧ 8 + (maxL + 11) + rm.locals ≤ R.locals)
    (hP : va_P D vwCl wc H) (hD : va_D A wc)
    (hn : As.length = n) (hsize : ls.size = nL) (hstack : st0 = As.reverse ++ rest) (hW : (rest.map fun v => v.category).sum ≤ 8) (hdg : decode cc pc = .ok (.invokestatic index, 3)) (hf : cells + mc ≤ R.cells ∧ slots + ms ≤ R.slots) :
    va_Run p l e R s m args below meth c H locs cells slots mc ms (F0 m pc ls st0) rest (Qc As.toArray) free := by
  obtain ⟨hx, hb, -, hml, hown, hts, -, hK⟩ := cx
  exact va_runS (As := As) (rest := rest) ⟨hx, hb, hml, hown, hts⟩ hM ⟨own_cb hts hk.1 hl hrc hrs hR, hts _ hk.2⟩ ⟨pre_blind, pre_at hP hK hD _⟩ rfl hn hsize hstack (lv_room hW) hdg hf
theorem fr_self (hD : va_D A ws) (hS : va_S A H0 H locs) (hA : ∀ q, H0.size ≤ q → A q) : ∀ q, va_A ws H.size q → A q := fun q h => by
  rcases h with ⟨k, e, hk⟩ | h
  · exact hD.2 k _ hk
  · exact hA q (Nat.le_trans hS.1 h)
theorem fr_nil (hS : va_S A H0 H locs) (hA : ∀ q, H0.size ≤ q → A q) : ∀ q, va_A [] H.size q → A q := fun q h => by
  rcases h with ⟨k, e, hk⟩ | h
  · simp at hk
  · exact hA q (Nat.le_trans hS.1 h)
theorem nil_kept {H1 : Heap} (hP : va_P D vwCl ws H) (hk : ∀ q : Nat, q < H.size → ¬ va_A [] H.size q → H1[q]? = H[q]?) : va_P D vwCl ws H1 := hP.kept fun k q hq => hk q.1 (hP k q hq).lt (fun h => by
  have hl := (hP k q hq).lt
  rcases h with ⟨k, e, hk⟩ | h
  · simp at hk
  · omega)
-- a callee over the caller's whole world
theorem call_i {S : Type} {post : Int32 → S → Prop} {wf : S → va_W} (hr : va_Run p l e R s m args below meth c H locs cells slots 0 0 (F0 m pc ls st0) rest (va_Qi post (fun u t => AT D ty (va_A ws H.size) (wf u) t) (va_A ws H.size) a) (va_A ws H.size)) (hD : va_D A ws) (hS : va_S A H0 H locs) (hA : ∀ q, H0.size ≤ q → A q)
    (kk : ∀ (r : Int32) (u : S) (H1 : Heap) (locs1 : List Loc), va_P D vwCl (wf u) H1 → va_D A (wf u) → va_S A H0 H1 locs1 → post r u → W p l e R s m args below meth c H1 locs1 cells slots Q (F0 m (pc + 3) ls (.int r :: rest))) : W p l e R s m args below meth c H locs cells slots Q (F0 m pc ls st0) := by
  have hF := fr_self hD hS hA
  refine va_calli hr hS (fun q _ h => hF q h) hF (fun r u t H1 locs ht hvm hw hB hz hk hS => ?_)
  obtain ⟨hP1, hK1, hD1⟩ := hB
  rw [ht] at hP1
  exact kk r u H1 locs hP1 (hD1.weaken (fun _ _ _ h => hF _ h)) hS hw
theorem call_l {S : Type} {post : Int64 → S → Prop} {wf : S → va_W} (hr : va_Run p l e R s m args below meth c H locs cells slots 0 0 (F0 m pc ls st0) rest (va_Ql post (fun u t => AT D ty (va_A ws H.size) (wf u) t) (va_A ws H.size) a) (va_A ws H.size)) (hD : va_D A ws) (hS : va_S A H0 H locs) (hA : ∀ q, H0.size ≤ q → A q)
    (kk : ∀ (r : Int64) (u : S) (H1 : Heap) (locs1 : List Loc), va_P D vwCl (wf u) H1 → va_D A (wf u) → va_S A H0 H1 locs1 → post r u → W p l e R s m args below meth c H1 locs1 cells slots Q (F0 m (pc + 3) ls (.long r :: rest))) : W p l e R s m args below meth c H locs cells slots Q (F0 m pc ls st0) := by
  have hF := fr_self hD hS hA
  refine va_calll hr hS (fun q _ h => hF q h) hF (fun r u t H1 locs ht hvm hw hB hz hk hS => ?_)
  obtain ⟨hP1, hK1, hD1⟩ := hB
  rw [ht] at hP1
  exact kk r u H1 locs hP1 (hD1.weaken (fun _ _ _ h => hF _ h)) hS hw
theorem call_v {S : Type} {post : S → Prop} {wf : S → va_W} (hr : va_Run p l e R s m args below meth c H locs cells slots 0 0 (F0 m pc ls st0) rest (va_Qv post (fun u t => AT D ty (va_A ws H.size) (wf u) t) (va_A ws H.size) a) (va_A ws H.size)) (hD : va_D A ws) (hS : va_S A H0 H locs) (hA : ∀ q, H0.size ≤ q → A q)
    (kk : ∀ (u : S) (H1 : Heap) (locs1 : List Loc), va_P D vwCl (wf u) H1 → va_D A (wf u) → va_S A H0 H1 locs1 → post u → W p l e R s m args below meth c H1 locs1 cells slots Q (F0 m (pc + 3) ls rest)) : W p l e R s m args below meth c H locs cells slots Q (F0 m pc ls st0) := by
  have hF := fr_self hD hS hA
  refine va_callv hr hS (fun q _ h => hF q h) hF (fun u t H1 locs ht hvm hw hB hz hk hS => ?_)
  obtain ⟨hP1, hK1, hD1⟩ := hB
  rw [ht] at hP1
  exact kk u H1 locs hP1 (hD1.weaken (fun _ _ _ h => hF _ h)) hS hw
theorem call_r {S : Type} {post : S → Prop} {ad : S → Nat} (hr : va_Run p l e R s m args below meth c H locs cells slots 0 0 (F0 m pc ls st0) rest (va_Qr post (fun u x t => x = ad u ∧ AT D ty (va_A ws H.size) ws t) (va_A ws H.size) a) (va_A ws H.size)) (hD : va_D A ws) (hS : va_S A H0 H locs) (hA : ∀ q, H0.size ≤ q → A q)
    (kk : ∀ (u : S) (H1 : Heap) (locs1 : List Loc), va_P D vwCl ws H1 → va_D A ws → va_S A H0 H1 locs1 → post u → W p l e R s m args below meth c H1 locs1 cells slots Q (F0 m (pc + 3) ls (.ref (ad u) :: rest))) : W p l e R s m args below meth c H locs cells slots Q (F0 m pc ls st0) := by
  have hF := fr_self hD hS hA
  refine va_callr hr hS (fun q _ h => hF q h) hF (fun u ra t H1 locs ht hvm hw hB hz hk hS => ?_)
  obtain ⟨rfl, hP1, hK1, hD1⟩ := hB
  rw [ht] at hP1
  exact kk u H1 locs hP1 (hD1.weaken (fun _ _ _ h => hF _ h)) hS hw
-- a callee without a world
theorem callN_i {post : Int32 → Unit → Prop} (hr : va_Run p l e R s m args below meth c H locs cells slots 0 0 (F0 m pc ls st0) rest (va_Qi post (fun _ t => AT D ty (va_A [] H.size) [] t) (va_A [] H.size) a) (va_A [] H.size)) (hP : va_P D vwCl ws H) (hS : va_S A H0 H locs) (hA : ∀ q, H0.size ≤ q → A q)
    (kk : ∀ (r : Int32) (H1 : Heap) (locs1 : List Loc), va_P D vwCl ws H1 → va_S A H0 H1 locs1 → post r () → W p l e R s m args below meth c H1 locs1 cells slots Q (F0 m (pc + 3) ls (.int r :: rest))) : W p l e R s m args below meth c H locs cells slots Q (F0 m pc ls st0) := by
  have hF := fr_nil hS hA
  exact va_calli hr hS (fun q _ h => hF q h) hF (fun r u t H1 locs ht hvm hw hB hz hk hS => kk r H1 locs (nil_kept hP hk) hS hw)
theorem callN_l {post : Int64 → Unit → Prop} (hr : va_Run p l e R s m args below meth c H locs cells slots 0 0 (F0 m pc ls st0) rest (va_Ql post (fun _ t => AT D ty (va_A [] H.size) [] t) (va_A [] H.size) a) (va_A [] H.size)) (hP : va_P D vwCl ws H) (hS : va_S A H0 H locs) (hA : ∀ q, H0.size ≤ q → A q)
    (kk : ∀ (r : Int64) (H1 : Heap) (locs1 : List Loc), va_P D vwCl ws H1 → va_S A H0 H1 locs1 → post r () → W p l e R s m args below meth c H1 locs1 cells slots Q (F0 m (pc + 3) ls (.long r :: rest))) : W p l e R s m args below meth c H locs cells slots Q (F0 m pc ls st0) := by
  have hF := fr_nil hS hA
  exact va_calll hr hS (fun q _ h => hF q h) hF (fun r u t H1 locs ht hvm hw hB hz hk hS => kk r H1 locs (nil_kept hP hk) hS hw)
-- a callee over a part of the caller's world
theorem subw {S : Type} {wf wn : S → va_W} {wr : va_W} {isC isR pm : List Nat} {H1 : Heap} (hP : va_P D vwCl ws H) (hD : va_D A ws) (hF : ∀ q, va_A wc H.size q → A q) (hC : isC.map (fun i => ws[i]?) = wc.map some) (hR : isR.map (fun i => ws[i]?) = wr.map some) (hn : va_nd isR = true) (hdis : ∀ i ∈ isR, i ∉ isC) (hpm : ∀ u, pm.map (fun i => (wr ++ wf u)[i]?) = (wn u).map some) (hnp : va_nd pm = true) (u : S)
    (hk : ∀ q : Nat, q < H.size → ¬ va_A wc H.size q → H1[q]? = H[q]?) (hP1 : va_P D vwCl (wf u) H1) (hD1 : va_D (va_A wc H.size) (wf u)) : va_P D vwCl (wn u) H1 ∧ va_D A (wn u) := by
  obtain ⟨h1, h2⟩ := va_join hP hD isC isR hC hR hn hdis hk hF hP1 hD1
  exact ⟨h1.sub pm (fm_of_map (hpm u)), h2.sub pm hnp (hpm u)⟩
theorem callP_i {S : Type} {post : Int32 → S → Prop} {wf : S → va_W} (wr : va_W) (wn : S → va_W) (isC isR pm : List Nat) (hC : isC.map (fun i => ws[i]?) = wc.map some) (hR : isR.map (fun i => ws[i]?) = wr.map some) (hn : va_nd isR = true) (hdis : ∀ i ∈ isR, i ∉ isC) (hpm : ∀ u, pm.map (fun i => (wr ++ wf u)[i]?) = (wn u).map some) (hnp : va_nd pm = true)
    (hP : va_P D vwCl ws H) (hD : va_D A ws) (hS : va_S A H0 H locs) (hA : ∀ q, H0.size ≤ q → A q)
    (hr : va_P D vwCl wc H → va_D A wc → va_Run p l e R s m args below meth c H locs cells slots 0 0 (F0 m pc ls st0) rest (va_Qi post (fun u t => AT D ty (va_A wc H.size) (wf u) t) (va_A wc H.size) a) (va_A wc H.size)) (hnc : va_nd isC = true)
    (kk : ∀ (r : Int32) (u : S) (H1 : Heap) (locs1 : List Loc), va_P D vwCl (wn u) H1 → va_D A (wn u) → va_S A H0 H1 locs1 → post r u → W p l e R s m args below meth c H1 locs1 cells slots Q (F0 m (pc + 3) ls (.int r :: rest))) : W p l e R s m args below meth c H locs cells slots Q (F0 m pc ls st0) := by
  have hF := va_free hD hS hA isC hC
  refine va_calli (hr (hP.sub isC (fm_of_map hC)) (hD.sub isC hnc hC)) hS (fun q _ h => hF q h) hF (fun r u t H1 locs ht hvm hw hB hz hk hS => ?_)
  obtain ⟨hP1, hK1, hD1⟩ := hB
  rw [ht] at hP1
  obtain ⟨h1, h2⟩ := subw hP hD hF hC hR hn hdis hpm hnp u hk hP1 hD1
  exact kk r u H1 locs h1 h2 hS hw
theorem callP_v {S : Type} {post : S → Prop} {wf : S → va_W} (wr : va_W) (wn : S → va_W) (isC isR pm : List Nat) (hC : isC.map (fun i => ws[i]?) = wc.map some) (hR : isR.map (fun i => ws[i]?) = wr.map some) (hn : va_nd isR = true) (hdis : ∀ i ∈ isR, i ∉ isC) (hpm : ∀ u, pm.map (fun i => (wr ++ wf u)[i]?) = (wn u).map some) (hnp : va_nd pm = true)
    (hP : va_P D vwCl ws H) (hD : va_D A ws) (hS : va_S A H0 H locs) (hA : ∀ q, H0.size ≤ q → A q)
    (hr : va_P D vwCl wc H → va_D A wc → va_Run p l e R s m args below meth c H locs cells slots 0 0 (F0 m pc ls st0) rest (va_Qv post (fun u t => AT D ty (va_A wc H.size) (wf u) t) (va_A wc H.size) a) (va_A wc H.size)) (hnc : va_nd isC = true)
    (kk : ∀ (u : S) (H1 : Heap) (locs1 : List Loc), va_P D vwCl (wn u) H1 → va_D A (wn u) → va_S A H0 H1 locs1 → post u → W p l e R s m args below meth c H1 locs1 cells slots Q (F0 m (pc + 3) ls rest)) : W p l e R s m args below meth c H locs cells slots Q (F0 m pc ls st0) := by
  have hF := va_free hD hS hA isC hC
  refine va_callv (hr (hP.sub isC (fm_of_map hC)) (hD.sub isC hnc hC)) hS (fun q _ h => hF q h) hF (fun u t H1 locs ht hvm hw hB hz hk hS => ?_)
  obtain ⟨hP1, hK1, hD1⟩ := hB
  rw [ht] at hP1
  obtain ⟨h1, h2⟩ := subw hP hD hF hC hR hn hdis hpm hnp u hk hP1 hD1
  exact kk u H1 locs h1 h2 hS hw
theorem callP_l {S : Type} {post : Int64 → S → Prop} {wf : S → va_W} (wr : va_W) (wn : S → va_W) (isC isR pm : List Nat) (hC : isC.map (fun i => ws[i]?) = wc.map some) (hR : isR.map (fun i => ws[i]?) = wr.map some) (hn : va_nd isR = true) (hdis : ∀ i ∈ isR, i ∉ isC) (hpm : ∀ u, pm.map (fun i => (wr ++ wf u)[i]?) = (wn u).map some) (hnp : va_nd pm = true)
    (hP : va_P D vwCl ws H) (hD : va_D A ws) (hS : va_S A H0 H locs) (hA : ∀ q, H0.size ≤ q → A q)
    (hr : va_P D vwCl wc H → va_D A wc → va_Run p l e R s m args below meth c H locs cells slots 0 0 (F0 m pc ls st0) rest (va_Ql post (fun u t => AT D ty (va_A wc H.size) (wf u) t) (va_A wc H.size) a) (va_A wc H.size)) (hnc : va_nd isC = true)
    (kk : ∀ (r : Int64) (u : S) (H1 : Heap) (locs1 : List Loc), va_P D vwCl (wn u) H1 → va_D A (wn u) → va_S A H0 H1 locs1 → post r u → W p l e R s m args below meth c H1 locs1 cells slots Q (F0 m (pc + 3) ls (.long r :: rest))) : W p l e R s m args below meth c H locs cells slots Q (F0 m pc ls st0) := by
  have hF := va_free hD hS hA isC hC
  refine va_calll (hr (hP.sub isC (fm_of_map hC)) (hD.sub isC hnc hC)) hS (fun q _ h => hF q h) hF (fun r u t H1 locs ht hvm hw hB hz hk hS => ?_)
  obtain ⟨hP1, hK1, hD1⟩ := hB
  rw [ht] at hP1
  obtain ⟨h1, h2⟩ := subw hP hD hF hC hR hn hdis hpm hnp u hk hP1 hD1
  exact kk r u H1 locs h1 h2 hS hw
-- returns
theorem rt_i {S : Type} {post : Int32 → S → Prop} {wf : S → va_W} {v : Int32} {u : S} (cx : CX own cc (some .int) nL p s m args meth c D ty) (hP : va_P D vwCl (wf u) H) (hD : va_D A (wf u)) (hS : va_S A s.heap H locs) (h : post v u) (hdg : decode cc pc = .ok (.ireturn, 1)) : W p l e R s m args below meth c H locs cells slots (MQ below (va_Qi post (fun u t => AT D ty A (wf u) t) A) args s cells slots A) (F0 m pc ls [.int v]) := by
  obtain ⟨hx, hb, hr, -, -, -, hlocks, hK⟩ := cx
  exact W.iret (v := v) hx hb hr (fun t ht hW => ⟨⟨v, u, rfl, h, by rw [ht]; exact hP, va_K.moved hW.alike hK, hD⟩, hS.F ht⟩) hS.2.2 hdg
theorem rt_z {S : Type} {post : Int32 → S → Prop} {wf : S → va_W} {v : Int32} {u : S} (cx : CX own cc (some .boolean) nL p s m args meth c D ty) (hz : v = 0 ∨ v = 1) (hP : va_P D vwCl (wf u) H) (hD : va_D A (wf u)) (hS : va_S A s.heap H locs) (h : post v u) (hdg : decode cc pc = .ok (.ireturn, 1)) : W p l e R s m args below meth c H locs cells slots (MQ below (va_Qi post (fun u t => AT D ty A (wf u) t) A) args s cells slots A) (F0 m pc ls [.int v]) := by
  obtain ⟨hx, hb, hr, -, -, -, hlocks, hK⟩ := cx
  exact W.zret (v := v) hx hb hr (by rcases hz with rfl | rfl <;> rfl) (fun t ht hW => ⟨⟨v, u, rfl, h, by rw [ht]; exact hP, va_K.moved hW.alike hK, hD⟩, hS.F ht⟩) hS.2.2 hdg
theorem rt_l {S : Type} {post : Int64 → S → Prop} {wf : S → va_W} {v : Int64} {u : S} (cx : CX own cc (some .long) nL p s m args meth c D ty) (hP : va_P D vwCl (wf u) H) (hD : va_D A (wf u)) (hS : va_S A s.heap H locs) (h : post v u) (hdg : decode cc pc = .ok (.lreturn, 1)) : W p l e R s m args below meth c H locs cells slots (MQ below (va_Ql post (fun u t => AT D ty A (wf u) t) A) args s cells slots A) (F0 m pc ls [.long v]) := by
  obtain ⟨hx, hb, hr, -, -, -, hlocks, hK⟩ := cx
  exact W.lret (v := v) hx hb hr (fun t ht hW => ⟨⟨v, u, rfl, h, by rw [ht]; exact hP, va_K.moved hW.alike hK, hD⟩, hS.F ht⟩) hS.2.2 hdg
theorem rt_v {S : Type} {post : S → Prop} {wf : S → va_W} {u : S} (cx : CX own cc none nL p s m args meth c D ty) (hP : va_P D vwCl (wf u) H) (hD : va_D A (wf u)) (hS : va_S A s.heap H locs) (h : post u) (hdg : decode cc pc = .ok (.return_, 1)) : W p l e R s m args below meth c H locs cells slots (MQ below (va_Qv post (fun u t => AT D ty A (wf u) t) A) args s cells slots A) (F0 m pc ls []) := by
  obtain ⟨hx, hb, hr, -, -, -, hlocks, hK⟩ := cx
  exact W.vret hx hb hr (fun t ht hW => ⟨⟨u, rfl, h, by rw [ht]; exact hP, va_K.moved hW.alike hK, hD⟩, hS.F ht⟩) hS.2.2 hdg
theorem rt_r {S : Type} {post : S → Prop} {ad : S → Nat} {u : S} {C : String} (cx : CX own cc (some (.object C)) nL p s m args meth c D ty) (hP : va_P D vwCl ws H) (hD : va_D A ws) (hS : va_S A s.heap H locs) (h : post u) (hdg : decode cc pc = .ok (.areturn, 1)) : W p l e R s m args below meth c H locs cells slots (MQ below (va_Qr post (fun u x t => x = ad u ∧ AT D ty A ws t) A) args s cells slots A) (F0 m pc ls [.ref (ad u)]) := by
  obtain ⟨hx, hb, hr, -, -, -, hlocks, hK⟩ := cx
  exact W.aret hx hb hr (Or.inl ⟨_, rfl⟩) (Or.inr ⟨_, rfl⟩) (fun t ht hW => ⟨⟨u, ad u, rfl, h, rfl, by rw [ht]; exact hP, va_K.moved hW.alike hK, hD⟩, hS.F ht⟩) hS.2.2 hdg
-- stores
theorem st_i (hexec : p.tables.exec = Jvm.exec) (hb : c.code = cc) (hK : va_K D vwCl ty s) (hP : va_P D vwCl ws H) (hD : va_D A ws) (hS : va_S A H0 H locs) (q0 t0 : Nat) {b : Nat} {cA : ClassId} {n : Nat} {f : Nat → Int32} {i x : Int32} (ws' : va_W) (ha : ws[q0]? = some (b, .inl (cA, n, .inl f))) (ht : ty[t0]? = some (cA, .int)) (hin : vp_in i n) (hdg : decode cc pc = .ok (.iastore, 1)) (hw : ws.set q0 (b, .inl (cA, n, .inl (upd f i.toNatClampNeg x))) = ws')
    (kk : ∀ (H1 : Heap) (locs1 : List Loc), va_P D vwCl ws' H1 → va_D A ws' → va_S A H0 H1 locs1 → W p l e R s m args below meth c H1 locs1 cells slots Q (F0 m (pc + 1) ls rest)) : W p l e R s m args below meth c H locs cells slots Q (F0 m pc ls (.int x :: .int i :: .ref b :: rest)) :=
  va_iast hexec hb hK hP hD hS q0 t0 ha ht hin hdg (fun H1 l1 h1 h2 h3 => kk H1 l1 (hw ▸ h1) (hw ▸ h2) h3)
theorem st_l (hexec : p.tables.exec = Jvm.exec) (hb : c.code = cc) (hK : va_K D vwCl ty s) (hP : va_P D vwCl ws H) (hD : va_D A ws) (hS : va_S A H0 H locs) (q0 t0 : Nat) {b : Nat} {cA : ClassId} {n : Nat} {f : Nat → Int64} {i : Int32} {x : Int64} (ws' : va_W) (ha : ws[q0]? = some (b, .inl (cA, n, .inr (.inl f)))) (ht : ty[t0]? = some (cA, .long)) (hin : vp_in i n) (hdg : decode cc pc = .ok (.lastore, 1)) (hw : ws.set q0 (b, .inl (cA, n, .inr (.inl (vp_updL f i.toNatClampNeg x)))) = ws')
    (kk : ∀ (H1 : Heap) (locs1 : List Loc), va_P D vwCl ws' H1 → va_D A ws' → va_S A H0 H1 locs1 → W p l e R s m args below meth c H1 locs1 cells slots Q (F0 m (pc + 1) ls rest)) : W p l e R s m args below meth c H locs cells slots Q (F0 m pc ls (.long x :: .int i :: .ref b :: rest)) :=
  va_last hexec hb hK hP hD hS q0 t0 ha ht hin hdg (fun H1 l1 h1 h2 h3 => kk H1 l1 (hw ▸ h1) (hw ▸ h2) h3)
theorem pf_v {b N ci k : Nat} {own ref C : String} {T : u_T} {fs : List Value} {tf : FieldType} {v : Value} (cx : CX own cc (meth.sig.returnType) nL p s m args meth c D ty) (hP : va_P D vwCl ws H) (hD : va_D A ws) (hS : va_S A H0 H locs) (q0 : Nat) (ws' : va_W) (hin : ∀ w ∈ u_ws C T N, w ∈ gt) (ty0 : Nat → FieldType) (hty : ∀ k, k < N → parseFieldDescriptor (T k).2.2.1 = some (ty0 k)) (hnm : ∀ a, a < N → ∀ b, b < N → a ≠ b → (T a).2.1 ≠ (T b).2.1)
    (he : ws[q0]? = some (b, .inr (ci, fs))) (hc : vwCl[ci]? = some (C, T, N)) (hk : k < N) (hlink : Cond.fieldLink own index ref (T k).2.1 (T k).2.2.1 ∈ gt) (href : (T k).1 = ref) (hfin : (T k).2.2.2 = false) (hd : ty0 k = tf) (hn : narrow tf v = v) (hfit : fits tf v = true) (hl : k < fs.length) (hdg : decode cc pc = .ok (.putfield index, 3)) (hw : ws.set q0 (b, .inr (ci, fs.set k v)) = ws')
    (kk : ∀ (H1 : Heap) (locs1 : List Loc), va_P D vwCl ws' H1 → va_D A ws' → va_S A H0 H1 locs1 → W p l e R s m args below meth c H1 locs1 cells slots Q (F0 m (pc + 3) ls rest)) : W p l e R s m args below meth c H locs cells slots Q (F0 m pc ls (v :: .ref b :: rest)) := by
  obtain ⟨hx, hb, -, hml, hown, hts, -, hK⟩ := cx
  subst hw href
  exact va_put hx hb hts hin ty0 hty hnm hown hK hP hD hS q0 he hc k hk (hts _ hlink) (fun _ h9 => h9) hfin ((hty k hk).trans (congrArg some hd)) hn hfit hl hdg kk
theorem gf_v {b N ci k : Nat} {own ref C : String} {T : u_T} {fs : List Value} {v : Value} (cx : CX own cc (meth.sig.returnType) nL p s m args meth c D ty) (hP : va_P D vwCl ws H) (q0 : Nat) (hin : ∀ w ∈ u_ws C T N, w ∈ gt)
    (he : ws[q0]? = some (b, .inr (ci, fs))) (hc : vwCl[ci]? = some (C, T, N)) (hk : k < N) (hlink : Cond.fieldLink own index ref (T k).2.1 (T k).2.2.1 ∈ gt) (href : (T k).1 = ref) (hv : fs[k]? = some v) (hdg : decode cc pc = .ok (.getfield index, 3))
    (kk : W p l e R s m args below meth c H locs cells slots Q (F0 m (pc + 3) ls (v :: rest))) : W p l e R s m args below meth c H locs cells slots Q (F0 m pc ls (.ref b :: rest)) := by
  obtain ⟨hx, hb, -, hml, hown, hts, -, hK⟩ := cx
  subst href
  exact va_get hx hb hts hin hown hK hP q0 he hc k hk (hts _ hlink) (fun _ h9 => h9) hv hdg kk
theorem fit_z {v : Int32} (h : v = 0 ∨ v = 1) : narrow .boolean (.int v) = .int v ∧ fits .boolean (.int v) = true := by rcases h with rfl | rfl <;> exact ⟨rfl, rfl⟩
theorem nilP : va_P D vwCl [] H := fun k q h => by simp at h
theorem nilD : va_D A [] := ⟨fun i j p q h => by simp at h, fun k q h => by simp at h⟩
theorem tsw_def {dflt lo hi : Int} {offs : Array Int} {len tgt : Nat} {x : Int32} (hexec : p.tables.exec = Jvm.exec) (hb : c.code = cc) (hdg : decode cc pc = .ok (.tableswitch dflt lo hi offs, len)) (ho : ∀ j : Nat, x.toInt = lo + j → lo + j ≤ hi → offs[j]? = some dflt) (ht : (pc : Int) + dflt = (tgt : Int))
    (k : W p l e R s m args below meth c H locs cells slots Q (F0 m tgt ls rest)) : W p l e R s m args below meth c H locs cells slots Q (F0 m pc ls (.int x :: rest)) := by
  by_cases hr : x.toInt < lo ∨ hi < x.toInt
  · exact lv_tableOut hexec hb hdg hr ht k
  · exact lv_tableIn hexec hb hdg (fun h => hr (Or.inl h)) (fun h => hr (Or.inr h)) (ho _ (by omega) (by omega)) ht k
theorem dia_i {c0 : Prop} [Decidable c0] {a b : Int32} {J : Nat} {g : JFrame} (br : (∀ v : Int32, (c0 ∧ v = a ∨ ¬ c0 ∧ v = b) → W p l e R s m args below meth c H locs cells slots Q (F0 m J ls (.int v :: rest))) → W p l e R s m args below meth c H locs cells slots Q g) (K : ∀ v : Int32, v = (if c0 then a else b) → W p l e R s m args below meth c H locs cells slots Q (F0 m J ls (.int v :: rest))) : W p l e R s m args below meth c H locs cells slots Q g :=
  br (fun v hv => K v (hv.elim (fun h => h.2.trans (if_pos h.1).symm) (fun h => h.2.trans (if_neg h.1).symm)))
theorem dia_l {c0 : Prop} [Decidable c0] {a b : Int64} {J : Nat} {g : JFrame} (br : (∀ v : Int64, (c0 ∧ v = a ∨ ¬ c0 ∧ v = b) → W p l e R s m args below meth c H locs cells slots Q (F0 m J ls (.long v :: rest))) → W p l e R s m args below meth c H locs cells slots Q g) (K : ∀ v : Int64, v = (if c0 then a else b) → W p l e R s m args below meth c H locs cells slots Q (F0 m J ls (.long v :: rest))) : W p l e R s m args below meth c H locs cells slots Q g :=
  br (fun v hv => K v (hv.elim (fun h => h.2.trans (if_pos h.1).symm) (fun h => h.2.trans (if_neg h.1).symm)))
theorem cp_i (cx : CX own cc (meth.sig.returnType) nL p s m args meth c D ty) (hsz : ls.size = nL) (hP : va_P D vwCl ws H) (hD : va_D A ws) (hS : va_S A H0 H locs) (q0 t0 : Nat) {b : Nat} {cA : ClassId} {n : Nat} {f : Nat → Int32} {sp dp w : Int32} (ws' : va_W) (ha : ws[q0]? = some (b, .inl (cA, n, .inl f))) (ht : ty[t0]? = some (cA, .int)) (hl : Cond.methodLink own index arraycopyName ∈ gt) (hnat : Cond.native arraycopyName ∈ gt) (hst : Cond.static arraycopyName ∈ gt) (hini : Cond.initialized "java/lang/System" ∈ gt)
    (hc : ¬ sp < 0 ∧ ¬ dp < 0 ∧ ¬ w < 0 ∧ sp.toNatClampNeg + w.toNatClampNeg ≤ n ∧ dp.toNatClampNeg + w.toNatClampNeg ≤ n) (hframes : 1 ≤ R.frames) (hlocals : (rest.map fun v => v.category).sum + (nativeFrameWords "java/lang/System" "arraycopy" 5 + 11) ≤ R.locals) (hdg : decode cc pc = .ok (.invokestatic index, 3)) (hw : ws.set q0 (b, .inl (cA, n, .inl (va_cpy f f sp.toNatClampNeg dp.toNatClampNeg w.toNatClampNeg))) = ws')
    (kk : ∀ (H1 : Heap) (locs1 : List Loc), va_P D vwCl ws' H1 → va_D A ws' → va_S A H0 H1 locs1 → W p l e R s m args below meth c H1 locs1 cells slots Q (F0 m (pc + 3) ls rest)) : W p l e R s m args below meth c H locs cells slots Q (F0 m pc ls (.int w :: .int dp :: .ref b :: .int sp :: .ref b :: rest)) := by
  obtain ⟨hx, hb, -, hml, hown, hts, -, hK⟩ := cx
  subst hw
  exact va_copyi hx hb (hml.trans hsz.symm) hown (hts _ hl) (hts _ hnat) (hts _ hst) (hts _ hini) hK hP hD hS q0 q0 t0 t0 ha ha ht ht rfl hc.1 hc.2.1 hc.2.2.1 hc.2.2.2.1 hc.2.2.2.2 (fun _ _ => rfl) hframes hlocals hdg kk
end OWN
