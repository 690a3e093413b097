-- constructors: first memories, kit
def iX0 : MemL := fun c i => match c, i with | 0, 2 => 1 | _, _ => 0
def iX1 : Mem := fun _ _ => 0
def iX3 : Mem := fun c i => match c, i with | 0, 0 => (-1) | _, _ => 0
def iX5 : Mem := fun c => match c with | 3 => upd (upd (upd (upd (fun _ => 0) 0 (-1)) 1 (-1)) 2 (-1)) 3 (-1) | _ => fun _ => 0
def iX7h : Mem := fun c i => match c, i with | 0, 0 => 1 | 0, 1 => 4 | _, _ => 0
def iX7g : Mem := fun c i => match c, i with | 0, 1 => 6 | _, _ => 0
def iX8 : Mem := fun c i => match c, i with | 0, 1 => (-1) | _, _ => 0
def iX10 : Mem := fun c => match c with | 1 => upd (upd (upd (upd (fun _ => 0) 0 (-1)) 1 (-1)) 2 (-1)) 3 (-1) | _ => fun _ => 0
def ww_X2 (cI cJ : ClassId) (q0 : Nat → Nat) (m0 : Mem) : va_W := [(q0 0, .inr (2, [.ref (q0 1), .ref (q0 2), .ref (q0 3), .ref (q0 4), .int (m0 0 4)])), (q0 1, .inl (cI, 8, .inl (m0 1))), (q0 2, .inl (cI, 8, .inl (m0 2))), (q0 3, .inl (cI, 8, .inl (m0 3))), (q0 4, .inl (cI, 8, .inl (m0 4)))]
section INI
variable {p : Program} {l : Launch} {e : Env} {R : Room} {s : State} {m : MethodId} {args a : Array Value} {below : List Frame} {meth : Method} {c : Code} {H H0 : Heap} {locs : List Loc} {cells slots mc ms : Nat} {Q : State → Prop}
variable {cc : ByteArray} {pc nL : Nat} {ls : Array Slot} {rest st0 : List Value} {D : va_G} {ty : List (ClassId × FieldType)} {A : Nat → Prop} {ws wc : va_W} {own : String} {y : MethodName} {bytes : ByteArray} {maxL n index : Nat} {ret rt : Option FieldType} {rm : Room} {cI cJ : ClassId}
theorem CX.self (cx : CX own cc rt nL p s m args meth c D ty) : CX own cc (meth.sig.returnType) nL p s m args meth c D ty := by
  obtain ⟨h1, h2, h3, h4, h5, h6, h7, h8⟩ := cx
  exact ⟨h1, h2, rfl, h4, h5, h6, h7, h8⟩
theorem met_ini {Qf : (Nat → Prop) → Array Value → State → Outcome → State → Prop} {av : List Value} {lv : List (Nat × Value)} {sz : Nat} (hy : plainName y.cls = true) (ho : y.cls = own) (hi : y.name = "<init>") (hn : (lg_sl av).length ≤ maxL) (hlv : lv_args 0 av = lv)
    (body : ∀ (p : Program) (e : Env) (s : State) (m : MethodId) (below : List Frame) (meth : Method) (c : Code) (A : Nat → Prop), CX own bytes none maxL p s m av.toArray meth c D ty → meth.name = "<init>" → (∀ q, s.heap.size ≤ q → A q) → ∀ ls : Array Slot, va_P D vwCl ws s.heap → va_D A ws → va_S A s.heap s.heap [] → lv_has ls maxL lv → W p l e rm s m av.toArray below meth c s.heap [] 0 0 (MQ below (Qf A) av.toArray s mc ms A) (F0 m 0 ls [])) :
    Met l y (Cond.code y bytes maxL none :: gt) rm (va_Pc av (PRE D ty ws sz)) (Qf (va_A ws sz)) mc ms (va_A ws sz) := by
  refine Met.ofW (cc := bytes) (maxL := maxL) (ret := none) hy rfl ?_
  intro p e s m args below meth c s₁ B hml hv
  obtain ⟨rfl, hsz, hP, hK, hD0⟩ := hv
  have cx : CX own bytes none maxL p s m av.toArray meth c D ty := ⟨B.exec, B.bytes, B.returns, hml, ho ▸ findClass_of_methodNamed B.named, fun w hw => atoms_spec (ws := Cond.code y bytes maxL none :: gt) B.pre w (List.mem_cons_of_mem _ hw), B.notSynchronized, hK⟩
  have hnm : meth.name = "<init>" := (name_of_methodNamed B.named B.method).1.trans hi
  subst hsz
  have hD := hD0.self (sz := s.heap.size)
  have hA : ∀ q : Nat, s.heap.size ≤ q → va_A ws s.heap.size q := fun q h => Or.inr h
  have hl := lv_entry av (n := maxL) hn
  rw [hlv] at hl
  rw [lg_entry_eq]
  exact body p e s m below meth c _ cx hnm hA _ hP hD va_S.rf hl
theorem ob_i {b : Nat} (cx : CX own cc rt nL p s m args meth c D ty) (hl : Cond.methodLink own index objectInit ∈ gt) (hsz : ls.size = nL) (hfr : 1 ≤ R.frames) (hlo : (rest.map fun v => v.category).sum + 12 ≤ R.locals) (hdg : decode cc pc = .ok (.invokespecial index, 3))
    (kk : W p l e R s m args below meth c H locs cells slots Q (F0 m (pc + 3) ls rest)) : W p l e R s m args below meth c H locs cells slots Q (F0 m pc ls (.ref b :: rest)) := by
  obtain ⟨hx, hb, -, hml, hown, hts, -, hK⟩ := cx
  refine W.objInit hx hb hown (hts _ hl) (hts _ kw_21) (hts _ kw_22) rfl (by rw [hml]; exact hsz) rfl hdg hfr ?_ ?_
  · simpa [F0] using hlo
  · exact W.eq (g2 := F0 m (pc + 3) ls rest) rfl kk
theorem nw_i (cx : CX own cc rt nL p s m args meth c D (TY cI cJ)) (hP : va_P D vwCl ws H) (hD : va_D A ws) (hS : va_S A H0 H locs) (hA : ∀ q, H0.size ≤ q → A q) {n : Int32} {N' : Nat} (hn : ¬ n < 0) (hN : n.toNatClampNeg = N') (hbytes : N' * 4 ≤ 536870912) (hcells : cells + 1 ≤ R.cells) (hslots : slots + N' ≤ R.slots) (hdg : decode cc pc = .ok (.newarray .int, 2))
    (kk : ∀ (q : Nat) (H1 : Heap), va_P D vwCl (ws ++ [(q, .inl (cI, N', .inl (fun _ => 0)))]) H1 → va_D A (ws ++ [(q, .inl (cI, N', .inl (fun _ => 0)))]) → va_S A H0 H1 locs → W p l e R s m args below meth c H1 locs (cells + 1) (slots + N') Q (F0 m (pc + 2) ls (.ref q :: rest))) : W p l e R s m args below meth c H locs cells slots Q (F0 m pc ls (.int n :: rest)) := by
  obtain ⟨hx, hb, -, hml, hown, hts, -, hK⟩ := cx
  refine va_newa (atype := .int) (a0 := (N', .inl (fun _ => 0))) hx hb (hts _ kw_44) rfl hK hP hD hS hA (fun _ => rfl) hn hN hbytes hcells hslots hdg (fun q cA H1 hK1 hP1 hD1 hS1 => ?_)
  have h1 : s.vm.findClass ("[" ++ FieldType.int.toString) = some cA := (hK1.2 2 (cA, .int) rfl).2
  have h2 : s.vm.findClass ("[" ++ FieldType.int.toString) = some cI := (hK.2 0 (cI, .int) rfl).2
  have e : cA = cI := Option.some.inj (h1.symm.trans h2)
  subst e
  exact kk q H1 hP1 hD1 hS1
theorem nw_l (cx : CX own cc rt nL p s m args meth c D (TY cI cJ)) (hP : va_P D vwCl ws H) (hD : va_D A ws) (hS : va_S A H0 H locs) (hA : ∀ q, H0.size ≤ q → A q) {n : Int32} {N' : Nat} (hn : ¬ n < 0) (hN : n.toNatClampNeg = N') (hbytes : N' * 8 ≤ 536870912) (hcells : cells + 1 ≤ R.cells) (hslots : slots + N' ≤ R.slots) (hdg : decode cc pc = .ok (.newarray .long, 2))
    (kk : ∀ (q : Nat) (H1 : Heap), va_P D vwCl (ws ++ [(q, .inl (cJ, N', .inr (.inl (fun _ => 0))))]) H1 → va_D A (ws ++ [(q, .inl (cJ, N', .inr (.inl (fun _ => 0))))]) → va_S A H0 H1 locs → W p l e R s m args below meth c H1 locs (cells + 1) (slots + N') Q (F0 m (pc + 2) ls (.ref q :: rest))) : W p l e R s m args below meth c H locs cells slots Q (F0 m pc ls (.int n :: rest)) := by
  obtain ⟨hx, hb, -, hml, hown, hts, -, hK⟩ := cx
  refine va_newa (atype := .long) (a0 := (N', .inr (.inl (fun _ => 0)))) hx hb (hts _ kw_209) rfl hK hP hD hS hA (fun _ => rfl) hn hN hbytes hcells hslots hdg (fun q cA H1 hK1 hP1 hD1 hS1 => ?_)
  have h1 : s.vm.findClass ("[" ++ FieldType.long.toString) = some cA := (hK1.2 2 (cA, .long) rfl).2
  have h2 : s.vm.findClass ("[" ++ FieldType.long.toString) = some cJ := (hK.2 1 (cJ, .long) rfl).2
  have e : cA = cJ := Option.some.inj (h1.symm.trans h2)
  subst e
  exact kk q H1 hP1 hD1 hS1
theorem pF_v {b N ci k : Nat} {own ref C : String} {T : u_T} {fs : List Value} {tf : FieldType} {v : Value} (cx : CX own cc rt nL p s m args meth c D ty) (hnm1 : meth.name = "<init>") (hP : va_P D vwCl ws H) (hD : va_D A ws) (hS : va_S A H0 H locs) (q0 : Nat) (ws' : va_W) (hin : ∀ w ∈ u_ws C T N, w ∈ gt) (ty0 : Nat → FieldType) (hty : ∀ k, k < N → parseFieldDescriptor (T k).2.2.1 = some (ty0 k)) (hnm : ∀ a, a < N → ∀ b, b < N → a ≠ b → (T a).2.1 ≠ (T b).2.1)
    (he : ws[q0]? = some (b, .inr (ci, fs))) (hc : vwCl[ci]? = some (C, T, N)) (hk : k < N) (hlink : Cond.fieldLink own index ref (T k).2.1 (T k).2.2.1 ∈ gt) (href : (T k).1 = ref) (hdecl : (T k).1 = own) (hfin : (T k).2.2.2 = true) (hd : ty0 k = tf) (hn : narrow tf v = v) (hfit : fits tf v = true) (hl : k < fs.length) (hdg : decode cc pc = .ok (.putfield index, 3)) (hw : ws.set q0 (b, .inr (ci, fs.set k v)) = ws')
    (kk : ∀ (H1 : Heap) (locs1 : List Loc), va_P D vwCl ws' H1 → va_D A ws' → va_S A H0 H1 locs1 → W p l e R s m args below meth c H1 locs1 cells slots Q (F0 m (pc + 3) ls rest)) : W p l e R s m args below meth c H locs cells slots Q (F0 m pc ls (v :: .ref b :: rest)) := by
  obtain ⟨hx, hb, -, hml, hown, hts, -, hK⟩ := cx
  subst hw href
  exact va_putF hx hb hts hin ty0 hty hnm hown hK hP hD hS q0 he hc k hk (hts _ hlink) (fun _ h9 => h9) hfin hnm1 hdecl ((hty k hk).trans (congrArg some hd)) hn hfit hl hdg kk
theorem nw_o {N ci : Nat} {C : String} {T : u_T} {fs : List Value} (cx : CX own cc rt nL p s m args meth c D ty) (hP : va_P D vwCl ws H) (hD : va_D A ws) (hS : va_S A H0 H locs) (hA : ∀ q, H0.size ≤ q → A q) (hin : ∀ w ∈ u_ws C T N, w ∈ gt) (ty0 : Nat → FieldType) (hty : ∀ k, k < N → parseFieldDescriptor (T k).2.2.1 = some (ty0 k)) (hcl : Cond.classLink own index C ∈ gt) (hinst : Cond.instantiable C N ∈ gt) (hini : Cond.initialized C ∈ gt) (hc : vwCl[ci]? = some (C, T, N)) (hfs : ∀ j, j < N → defaultValue (ty0 j) = vp_V fs j) (hcells : cells + 1 ≤ R.cells) (hslots : slots + N ≤ R.slots) (hdg : decode cc pc = .ok (.new index, 3))
    (kk : ∀ (q : Nat) (H1 : Heap), va_P D vwCl (ws ++ [(q, .inr (ci, fs))]) H1 → va_D A (ws ++ [(q, .inr (ci, fs))]) → va_S A H0 H1 locs → W p l e R s m args below meth c H1 locs (cells + 1) (slots + N) Q (F0 m (pc + 3) ls (.ref q :: rest))) : W p l e R s m args below meth c H locs cells slots Q (F0 m pc ls rest) := by
  obtain ⟨hx, hb, -, hml, hown, hts, -, hK⟩ := cx
  exact va_new hx hb hts hin ty0 hty hown (hts _ hcl) (hts _ hinst) (hts _ hini) hK hP hD hS hA hc hfs hcells hslots hdg kk
/-- a constructor of a new object: the object's cells come to stand behind the rest -/
theorem callI_v {S : Type} {post : S → Prop} {wf : S → va_W} {k : Nat} (wr : va_W) (is : List Nat) (hw : ws = wr ++ wc) (hk : wc.length = 1) (hr9 : wr.length = k) (his : is = List.range k) (hn : va_nd is = true)
    (hP : va_P D vwCl ws H) (hD : va_D A ws) (hS : va_S A H0 H locs) (hA : ∀ q, H0.size ≤ q → A q)
    (hr : va_P D vwCl wc H → va_D A wc → va_Run p l e R s m args below meth c H locs cells slots mc ms (F0 m pc ls st0) rest (va_Qv post (fun u t => AT D ty (va_A wc H.size) (wf u) t) (va_A wc H.size) a) (va_A wc H.size))
    (kk : ∀ (u : S) (H1 : Heap) (locs1 : List Loc), va_P D vwCl (wr ++ wf u) H1 → va_D A (wr ++ wf u) → va_S A H0 H1 locs1 → post u → W p l e R s m args below meth c H1 locs1 (cells + mc) (slots + ms) Q (F0 m (pc + 3) ls rest)) : W p l e R s m args below meth c H locs cells slots Q (F0 m pc ls st0) := by
  obtain ⟨x, rfl⟩ : ∃ x, wc = [x] := List.length_eq_one_iff.mp hk
  have hC : [k].map (fun i => ws[i]?) = [x].map some := by
    rw [hw]
    simp [← hr9]
  have hR : is.map (fun i => ws[i]?) = wr.map some := by
    rw [hw, his]
    apply List.ext_getElem?
    intro i
    by_cases h : i < k
    · simp [h, List.getElem?_append_left (show i < wr.length by omega)]
      rw [List.getElem?_eq_getElem (show i < wr.length by omega)]
      rfl
    · simp [h]
      rw [List.getElem?_eq_none (show wr.length ≤ i by omega)]
      rfl
  have hdis : ∀ i ∈ is, i ∉ [k] := by
    intro i hi
    rw [his] at hi
    simp at hi ⊢
    omega
  have hF := va_free hD hS hA [k] hC
  refine va_callv (hr (hP.sub [k] (fm_of_map hC)) (hD.sub [k] (by rfl) hC)) hS (fun q _ h => hF q h) hF (fun u t H1 locs ht hvm hw9 hB hz hk1 hS => ?_)
  obtain ⟨hP1, hK1, hD1⟩ := hB
  rw [ht] at hP1
  obtain ⟨h1, h2⟩ := va_join hP hD [k] is hC hR hn hdis hk1 hF hP1 hD1
  exact kk u H1 locs h1 h2 hS hw9
end INI
