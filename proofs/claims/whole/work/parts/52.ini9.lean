def NWS : List Cond := [Cond.methodLinkNest RX9 23 yX4_init "TurnFeast", Cond.methodLinkNest RX9 30 yX2_init "TurnFeast", Cond.methodLinkNest RX9 37 yX1_init "TurnFeast", Cond.methodLinkNest RX9 44 yX6_init "TurnFeast", Cond.methodLinkNest RX9 51 yX5_init "TurnFeast", Cond.methodLinkNest RX9 58 yX0_init "TurnFeast", Cond.methodLinkNest RX9 68 yX8_init "TurnFeast", Cond.methodLinkNest RX9 75 yX3_init "TurnFeast"]
theorem NWS_in : ∀ w ∈ NWS, w ∈ lw_tbl := by
  intro w hw
  simp only [NWS, List.mem_cons, List.not_mem_nil, or_false] at hw
  rcases hw with rfl | rfl | rfl | rfl | rfl | rfl | rfl | rfl
  · exact kw_47
  · exact kw_86
  · exact kw_118
  · exact kw_156
  · exact kw_175
  · exact kw_193
  · exact kw_212
  · exact kw_248
theorem NWS_t : ∀ w ∈ NWS, w.onTables = true := by decide
theorem NWS_m : ∀ w ∈ NWS, ∃ i x, w = .methodLinkNest RX9 i x "TurnFeast" := by
  intro w hw
  simp only [NWS, List.mem_cons, List.not_mem_nil, or_false] at hw
  rcases hw with rfl | rfl | rfl | rfl | rfl | rfl | rfl | rfl <;> exact ⟨_, _, rfl⟩
def iC : Nat → Mem := fun g => match g with | 1 => iX7h | 2 => iX7g | 7 => iX5 | 10 => iX8 | 11 => iX3 | _ => iX1
section INI9
variable {p : Program} {l : Launch} {e : Env} {R : Room} {s : State} {m : MethodId} {args a : Array Value} {below : List Frame} {meth : Method} {c : Code} {H H0 : Heap} {locs : List Loc} {cells slots mc ms : Nat} {Q : State → Prop}
variable {cc : ByteArray} {pc nL : Nat} {ls : Array Slot} {rest st0 : List Value} {D : va_G} {ty : List (ClassId × FieldType)} {A : Nat → Prop} {ws wc : va_W} {own : String} {y : MethodName} {bytes : ByteArray} {maxL n index : Nat} {ret rt : Option FieldType} {rm : Room} {cI cJ : ClassId}
def PREN (D : va_G) (ty : List (ClassId × FieldType)) (ws : va_W) (sz : Nat) : State → Prop := fun U => PRE D ty ws sz U ∧ ∀ w ∈ NWS, va_Nw w U
theorem met_iniN {Qf : (Nat → Prop) → Array Value → State → Outcome → State → Prop} {av : List Value} {lv : List (Nat × Value)} {sz : Nat} (hy : plainName y.cls = true) (ho : y.cls = own) (hi : y.name = "<init>") (hn : (lg_sl av).length ≤ maxL) (hlv : lv_args 0 av = lv)
    (body : ∀ (p : Program) (e : Env) (s : State) (m : MethodId) (below : List Frame) (meth : Method) (c : Code) (A : Nat → Prop), CX own bytes none maxL p s m av.toArray meth c D ty → meth.name = "<init>" → (∀ w ∈ NWS, va_Nw w s) → (∀ q, s.heap.size ≤ q → A q) → ∀ ls : Array Slot, va_P D vwCl ws s.heap → va_D A ws → va_S A s.heap s.heap [] → lv_has ls maxL lv → W p l e rm s m av.toArray below meth c s.heap [] 0 0 (MQ below (Qf A) av.toArray s mc ms A) (F0 m 0 ls [])) :
    Met l y (Cond.code y bytes maxL none :: gt) rm (va_Pc av (PREN D ty ws sz)) (Qf (va_A ws sz)) mc ms (va_A ws sz) := by
  refine Met.ofW (cc := bytes) (maxL := maxL) (ret := none) hy rfl ?_
  intro p e s m args below meth c s₁ B hml hv
  obtain ⟨rfl, ⟨hsz, hP, hK, hD0⟩, hN⟩ := hv
  have cx : CX own bytes none maxL p s m av.toArray meth c D ty := ⟨B.exec, B.bytes, B.returns, hml, ho ▸ findClass_of_methodNamed B.named, fun w hw => atoms_spec (ws := Cond.code y bytes maxL none :: gt) B.pre w (List.mem_cons_of_mem _ hw), B.notSynchronized, hK⟩
  have hnm : meth.name = "<init>" := (name_of_methodNamed B.named B.method).1.trans hi
  subst hsz
  have hD := hD0.self (sz := s.heap.size)
  have hA : ∀ q : Nat, s.heap.size ≤ q → va_A ws s.heap.size q := fun q h => Or.inr h
  have hl := lv_entry av (n := maxL) hn
  rw [hlv] at hl
  rw [lg_entry_eq]
  exact body p e s m below meth c _ cx hnm hN hA _ hP hD va_S.rf hl
theorem preN_blind {av : List Value} {sz : Nat} : FrameBlind (va_Pc av (PREN D ty ws sz)) := fun a U g mk q => by
  obtain ⟨q0, ⟨q1, qP, qK, qD⟩, qN⟩ := q
  exact ⟨q0, ⟨q1, qP, va_K.moved (u := U) (U := U.calling g mk a) (Vm.Alike.refl U.vm) qK, qD⟩, fun w hw => va_Nw.same (NWS_t w hw) (u := U) (U := U.calling g mk a) rfl (qN w hw)⟩
theorem preN_at (hP : va_P D vwCl ws H) (hK : va_K D vwCl ty s) (hD : va_D A ws) (hN : ∀ w ∈ NWS, va_Nw w s) (av : List Value) : ∀ U : State, U.heap = H → s.WarmedH U.vm → va_Pc av (PREN D ty ws H.size) av.toArray U :=
  fun U hU hW => ⟨rfl, ⟨by rw [hU], by rw [hU]; exact hP, va_K.moved hW.alike hK, hD.weaken (fun _ _ _ _ => trivial)⟩, fun w hw => by
    obtain ⟨i, x, rfl⟩ := NWS_m w hw
    exact va_Nw.warmM hW (hN _ hw)⟩
theorem run_I {b : Nat} {As : List Value} {Qc : Array Value → State → Outcome → State → Prop} {free : Addr → Prop} (cx : CX own cc rt nL p s m args meth c D ty) (hM : Met l y (Cond.code y bytes maxL none :: gt) rm (va_Pc (.ref b :: As) (PRE D ty wc H.size)) Qc mc ms free) (hk : MK y bytes maxL none n) (hi : y.name = "<init>") (hin : Cond.instanceMethod y ∈ gt) (hl : Cond.methodLink own index y ∈ gt) (hrc : rm.cells = mc) (hrs : rm.slots = ms) (hR : rm.frames + 1 ≤ R.frames ∧ 8 + (maxL + 11) + rm.locals ≤ R.locals)
    (hP : va_P D vwCl wc H) (hD : va_D A wc) (hn : As.length = n) (hsize : ls.size = nL) (hstack : st0 = As.reverse ++ .ref b :: rest) (hW : (rest.map fun v => v.category).sum ≤ 8) (hdg : decode cc pc = .ok (.invokespecial index, 3)) (hf : cells + mc ≤ R.cells ∧ slots + ms ≤ R.slots) :
    va_Run p l e R s m args below meth c H locs cells slots mc ms (F0 m pc ls st0) rest (Qc (Value.ref b :: As).toArray) free := by
  obtain ⟨hx, hb, -, hml, hown, hts, -, hK⟩ := cx
  exact va_runI (As := As) (rest := rest) ⟨hx, hb, hml, hown, hts⟩ hM ⟨own_cb hts hk hl hrc hrs hR, hi, hts _ hin⟩ ⟨pre_blind, pre_at hP hK hD _⟩ rfl hn hsize hstack (lv_room hW) hdg hf
theorem run_IN {b : Nat} {As : List Value} {host : String} {Qc : Array Value → State → Outcome → State → Prop} {free : Addr → Prop} (cx : CX own cc rt nL p s m args meth c D ty) (hM : Met l y (Cond.code y bytes maxL none :: gt) rm (va_Pc (.ref b :: As) (PRE D ty wc H.size)) Qc mc ms free) (hk : MK y bytes maxL none n) (hi : y.name = "<init>") (hin : Cond.instanceMethod y ∈ gt) (hl : va_Nw (.methodLinkNest own index y host) s) (hrc : rm.cells = mc) (hrs : rm.slots = ms) (hR : rm.frames + 1 ≤ R.frames ∧ 8 + (maxL + 11) + rm.locals ≤ R.locals)
    (hP : va_P D vwCl wc H) (hD : va_D A wc) (hn : As.length = n) (hsize : ls.size = nL) (hstack : st0 = As.reverse ++ .ref b :: rest) (hW : (rest.map fun v => v.category).sum ≤ 8) (hdg : decode cc pc = .ok (.invokespecial index, 3)) (hf : cells + mc ≤ R.cells ∧ slots + ms ≤ R.slots) :
    va_Run p l e R s m args below meth c H locs cells slots mc ms (F0 m pc ls st0) rest (Qc (Value.ref b :: As).toArray) free := by
  obtain ⟨hx, hb, -, hml, hown, hts, -, hK⟩ := cx
  exact va_runIN (As := As) (rest := rest) ⟨hx, hb, hml, hown, hts⟩ hM ⟨va_cnB n hts (good_gt hk.1) rfl hrc hrs hl (hts _ hk.2.1) hk.2.2 hR, hi, hts _ hin⟩ ⟨pre_blind, pre_at hP hK hD _⟩ rfl hn hsize hstack (lv_room hW) hdg hf
theorem run_I9 {b : Nat} {As : List Value} {Qc : Array Value → State → Outcome → State → Prop} {free : Addr → Prop} (cx : CX own cc rt nL p s m args meth c D ty) (hN : ∀ w ∈ NWS, va_Nw w s) (hM : Met l y (Cond.code y bytes maxL none :: gt) rm (va_Pc (.ref b :: As) (PREN D ty wc H.size)) Qc mc ms free) (hk : MK y bytes maxL none n) (hi : y.name = "<init>") (hin : Cond.instanceMethod y ∈ gt) (hl : Cond.methodLink own index y ∈ gt) (hrc : rm.cells = mc) (hrs : rm.slots = ms) (hR : rm.frames + 1 ≤ R.frames ∧ 8 + (maxL + 11) + rm.locals ≤ R.locals)
    (hP : va_P D vwCl wc H) (hD : va_D A wc) (hn : As.length = n) (hsize : ls.size = nL) (hstack : st0 = As.reverse ++ .ref b :: rest) (hW : (rest.map fun v => v.category).sum ≤ 8) (hdg : decode cc pc = .ok (.invokespecial index, 3)) (hf : cells + mc ≤ R.cells ∧ slots + ms ≤ R.slots) :
    va_Run p l e R s m args below meth c H locs cells slots mc ms (F0 m pc ls st0) rest (Qc (Value.ref b :: As).toArray) free := by
  obtain ⟨hx, hb, -, hml, hown, hts, -, hK⟩ := cx
  exact va_runI (As := As) (rest := rest) ⟨hx, hb, hml, hown, hts⟩ hM ⟨own_cb hts hk hl hrc hrs hR, hi, hts _ hin⟩ ⟨preN_blind, preN_at hP hK hD hN _⟩ rfl hn hsize hstack (lv_room hW) hdg hf
end INI9
theorem mk_X0_init : MK yX0_init cX0_init 1 none 0 := ⟨kw_195, kw_8, by decide +kernel⟩
theorem mi_X0_init : Cond.instanceMethod yX0_init ∈ gt := kw_194
theorem fs_X0 : ∀ j, j < 3 → defaultValue (tyX0 j) = vp_V [.null, .long 0, .long 0] j := by
  intro j hj
  rcases (show j = 0 ∨ j = 1 ∨ j = 2 by omega) with rfl | rfl | rfl <;> rfl
theorem mk_X1_init : MK yX1_init cX1_init 1 none 0 := ⟨kw_120, kw_5, by decide +kernel⟩
theorem mi_X1_init : Cond.instanceMethod yX1_init ∈ gt := kw_119
theorem fs_X1 : ∀ j, j < 8 → defaultValue (tyX1 j) = vp_V [.null, .null, .null, .null, .null, .null, .null, .int 0] j := by
  intro j hj
  rcases (show j = 0 ∨ j = 1 ∨ j = 2 ∨ j = 3 ∨ j = 4 ∨ j = 5 ∨ j = 6 ∨ j = 7 by omega) with rfl | rfl | rfl | rfl | rfl | rfl | rfl | rfl <;> rfl
theorem mk_X2_init : MK yX2_init cX2_init 1 none 0 := ⟨kw_88, kw_4, by decide +kernel⟩
theorem mi_X2_init : Cond.instanceMethod yX2_init ∈ gt := kw_87
theorem fs_X2 : ∀ j, j < 5 → defaultValue (tyX2 j) = vp_V [.null, .null, .null, .null, .int 0] j := by
  intro j hj
  rcases (show j = 0 ∨ j = 1 ∨ j = 2 ∨ j = 3 ∨ j = 4 by omega) with rfl | rfl | rfl | rfl | rfl <;> rfl
theorem mk_X3_init : MK yX3_init cX3_init 1 none 0 := ⟨kw_250, kw_10, by decide +kernel⟩
theorem mi_X3_init : Cond.instanceMethod yX3_init ∈ gt := kw_249
theorem fs_X3 : ∀ j, j < 3 → defaultValue (tyX3 j) = vp_V [.int 0, .int 0, .int 0] j := by
  intro j hj
  rcases (show j = 0 ∨ j = 1 ∨ j = 2 by omega) with rfl | rfl | rfl <;> rfl
theorem mk_X4_init : MK yX4_init cX4_init 1 none 0 := ⟨kw_49, kw_3, by decide +kernel⟩
theorem mi_X4_init : Cond.instanceMethod yX4_init ∈ gt := kw_48
theorem fs_X4 : ∀ j, j < 7 → defaultValue (tyX4 j) = vp_V [.null, .null, .null, .null, .int 0, .int 0, .int 0] j := by
  intro j hj
  rcases (show j = 0 ∨ j = 1 ∨ j = 2 ∨ j = 3 ∨ j = 4 ∨ j = 5 ∨ j = 6 by omega) with rfl | rfl | rfl | rfl | rfl | rfl | rfl <;> rfl
theorem mk_X5_init : MK yX5_init cX5_init 1 none 0 := ⟨kw_177, kw_7, by decide +kernel⟩
theorem mi_X5_init : Cond.instanceMethod yX5_init ∈ gt := kw_176
theorem fs_X5 : ∀ j, j < 3 → defaultValue (tyX5 j) = vp_V [.null, .null, .null] j := by
  intro j hj
  rcases (show j = 0 ∨ j = 1 ∨ j = 2 by omega) with rfl | rfl | rfl <;> rfl
theorem mk_X6_init : MK yX6_init cX6_init 1 none 0 := ⟨kw_158, kw_6, by decide +kernel⟩
theorem mi_X6_init : Cond.instanceMethod yX6_init ∈ gt := kw_157
theorem fs_X6 : ∀ j, j < 3 → defaultValue (tyX6 j) = vp_V [.null, .null, .int 0] j := by
  intro j hj
  rcases (show j = 0 ∨ j = 1 ∨ j = 2 by omega) with rfl | rfl | rfl <;> rfl
theorem mk_X7_init : MK yX7_init cX7_init 2 none 1 := ⟨kw_27, kw_2, by decide +kernel⟩
theorem mi_X7_init : Cond.instanceMethod yX7_init ∈ gt := kw_26
theorem fs_X7 : ∀ j, j < 4 → defaultValue (tyX7 j) = vp_V [.int 0, .int 0, .null, .int 0] j := by
  intro j hj
  rcases (show j = 0 ∨ j = 1 ∨ j = 2 ∨ j = 3 by omega) with rfl | rfl | rfl | rfl <;> rfl
theorem mk_X8_init : MK yX8_init cX8_init 1 none 0 := ⟨kw_214, kw_9, by decide +kernel⟩
theorem mi_X8_init : Cond.instanceMethod yX8_init ∈ gt := kw_213
theorem fs_X8 : ∀ j, j < 7 → defaultValue (tyX8 j) = vp_V [.null, .int 0, .int 0, .int 0, .int 0, .int 0, .int 0] j := by
  intro j hj
  rcases (show j = 0 ∨ j = 1 ∨ j = 2 ∨ j = 3 ∨ j = 4 ∨ j = 5 ∨ j = 6 by omega) with rfl | rfl | rfl | rfl | rfl | rfl | rfl <;> rfl
theorem mk_X9_init : MK yX9_init cX9_init 1 none 0 := ⟨kw_19, kw_1, by decide +kernel⟩
theorem mi_X9_init : Cond.instanceMethod yX9_init ∈ gt := kw_18
theorem fs_X9 : ∀ j, j < 12 → defaultValue (tyX9 j) = vp_V [.null, .null, .null, .null, .null, .null, .null, .null, .null, .null, .null, .int 0] j := by
  intro j hj
  rcases (show j = 0 ∨ j = 1 ∨ j = 2 ∨ j = 3 ∨ j = 4 ∨ j = 5 ∨ j = 6 ∨ j = 7 ∨ j = 8 ∨ j = 9 ∨ j = 10 ∨ j = 11 by omega) with rfl | rfl | rfl | rfl | rfl | rfl | rfl | rfl | rfl | rfl | rfl | rfl <;> rfl
theorem mk_X10_init : MK yX10_init cX10_init 2 none 0 := ⟨kw_713, kw_11, by decide +kernel⟩
theorem mi_X10_init : Cond.instanceMethod yX10_init ∈ gt := kw_712
theorem fs_X10 : ∀ j, j < 24 → defaultValue (tyX10 j) = vp_V [.null, .null, .null, .null, .int 0, .null, .null, .int 0, .null, .int 0, .null, .null, .null, .null, .null, .null, .null, .null, .int 0, .int 0, .int 0, .int 0, .null, .int 0] j := by
  intro j hj
  rcases (show j = 0 ∨ j = 1 ∨ j = 2 ∨ j = 3 ∨ j = 4 ∨ j = 5 ∨ j = 6 ∨ j = 7 ∨ j = 8 ∨ j = 9 ∨ j = 10 ∨ j = 11 ∨ j = 12 ∨ j = 13 ∨ j = 14 ∨ j = 15 ∨ j = 16 ∨ j = 17 ∨ j = 18 ∨ j = 19 ∨ j = 20 ∨ j = 21 ∨ j = 22 ∨ j = 23 by omega) with rfl | rfl | rfl | rfl | rfl | rfl | rfl | rfl | rfl | rfl | rfl | rfl | rfl | rfl | rfl | rfl | rfl | rfl | rfl | rfl | rfl | rfl | rfl | rfl <;> rfl
set_option maxRecDepth 20000 in
set_option maxHeartbeats 2000000 in
theorem c_X9_init (l : Launch) {dC : Nat → ClassId} {dI : Nat → Nat → Nat} {cI cJ : ClassId} (sz h0 : Nat) : Met l yX9_init (Cond.code yX9_init cX9_init 1 none :: gt) ({ frames := 2, cells := 39, slots := 701, locals := 33 }) (va_Pc [.ref h0] (PREN (dC, dI) (TY cI cJ) [(h0, .inr (9, [.null, .null, .null, .null, .null, .null, .null, .null, .null, .null, .null, .int 0]))] sz)) (va_Qv (S := Nat → Nat → Nat) (fun u => u 0 0 = h0) (fun u t => AT (dC, dI) (TY cI cJ) (va_A [(h0, .inr (9, [.null, .null, .null, .null, .null, .null, .null, .null, .null, .null, .null, .int 0]))] sz) (wC cI cJ u iC iX0) t) (va_A [(h0, .inr (9, [.null, .null, .null, .null, .null, .null, .null, .null, .null, .null, .null, .int 0]))] sz)) 39 701 (va_A [(h0, .inr (9, [.null, .null, .null, .null, .null, .null, .null, .null, .null, .null, .null, .int 0]))] sz) := by
  refine met_iniN (own := RX9) (ws := [(h0, .inr (9, [.null, .null, .null, .null, .null, .null, .null, .null, .null, .null, .null, .int 0]))]) (Qf := fun A => va_Qv (S := Nat → Nat → Nat) (fun u => u 0 0 = h0) (fun u t => AT (dC, dI) (TY cI cJ) A (wC cI cJ u iC iX0) t) A) (by decide) rfl rfl (Nat.le_of_ble_eq_true rfl) (lv := [(0, .ref h0)]) rfl (fun p e s m below meth c A cx hnm hN hA ls hP hD hS hl => ?_)
  have cx' := cx.self
  obtain ⟨hx, hb, hr, hml, hown, hts, hlocks, hK⟩ := id cx
  refine lv_aload_n hx hb dX9_init_0 rfl (lv_at hl 0 rfl) ?_
  refine ob_i cx' kw_20 hl.1 (by decide) (by decide) dX9_init_1 ?_
  refine lv_aload_n hx hb dX9_init_4 rfl (lv_at hl 0 rfl) ?_
  refine nw_o (ci := 7) (fs := [.int 0, .int 0, .null, .int 0]) cx' hP hD hS hA i_X7 tyX7 tyX7_ok kw_23 kw_24 kw_2 rfl fs_X7 (by decide) (by decide) dX9_init_5 (fun q1 H hPn hDn hS => ?_)
  refine lv_dup hx hb dX9_init_8 rfl ?_
  refine lv_iconst (v := 1) hx hb dX9_init_9 (by decide) ?_
  refine callI_v (wc := [(q1, .inr (7, [.int 0, .int 0, .null, .int 0]))]) (wf := fun u => ww_X7 cI cJ 31 u iX7h) (k := 1) ([(h0, .inr (9, [.null, .null, .null, .null, .null, .null, .null, .null, .null, .null, .null, .int 0]))]) [0] rfl rfl rfl rfl rfl hPn hDn hS hA (fun hPc hDc => run_I (As := [.int 1]) (rest := [.ref q1, .ref h0]) cx' (c_X7_init_1 l H.size q1) mk_X7_init rfl mi_X7_init kw_25 rfl rfl ⟨by decide, by decide⟩ hPc hDc rfl hl.1 rfl (Nat.le_of_ble_eq_true rfl) dX9_init_10 ⟨by decide, by decide⟩) (fun u1 H locs hP hD hS hu => ?_)
  subst hu
  clear hPn hDn
  refine pF_v (k := 0) (tf := .object "TurnFeast$Text") cx' hnm hP hD hS 0 ([(h0, .inr (9, [.ref (u1 0), .null, .null, .null, .null, .null, .null, .null, .null, .null, .null, .int 0]))] ++ ww_X7 cI cJ 31 u1 iX7h) i_X9 tyX9 tyX9_ok nmX9 rfl rfl (by decide) kw_264 rfl rfl rfl rfl rfl rfl (Nat.le_of_ble_eq_true rfl) dX9_init_13 rfl (fun H locs hP hD hS => ?_)
  refine lv_aload_n hx hb dX9_init_16 rfl (lv_at hl 0 rfl) ?_
  refine nw_o (ci := 7) (fs := [.int 0, .int 0, .null, .int 0]) cx' hP hD hS hA i_X7 tyX7 tyX7_ok kw_23 kw_24 kw_2 rfl fs_X7 (by decide) (by decide) dX9_init_17 (fun q2 H hPn hDn hS => ?_)
  refine lv_dup hx hb dX9_init_20 rfl ?_
  refine lv_iconst (v := 0) hx hb dX9_init_21 (by decide) ?_
  refine callI_v (wc := [(q2, .inr (7, [.int 0, .int 0, .null, .int 0]))]) (wf := fun u => ww_X7 cI cJ 47 u iX7g) (k := 3) ([(h0, .inr (9, [.ref (u1 0), .null, .null, .null, .null, .null, .null, .null, .null, .null, .null, .int 0]))] ++ ww_X7 cI cJ 31 u1 iX7h) [0, 1, 2] rfl rfl rfl rfl rfl hPn hDn hS hA (fun hPc hDc => run_I (As := [.int 0]) (rest := [.ref q2, .ref h0]) cx' (c_X7_init_0 l H.size q2) mk_X7_init rfl mi_X7_init kw_25 rfl rfl ⟨by decide, by decide⟩ hPc hDc rfl hl.1 rfl (Nat.le_of_ble_eq_true rfl) dX9_init_22 ⟨by decide, by decide⟩) (fun u2 H locs hP hD hS hu => ?_)
  subst hu
  clear hPn hDn
  refine pF_v (k := 1) (tf := .object "TurnFeast$Text") cx' hnm hP hD hS 0 ([(h0, .inr (9, [.ref (u1 0), .ref (u2 0), .null, .null, .null, .null, .null, .null, .null, .null, .null, .int 0]))] ++ ww_X7 cI cJ 31 u1 iX7h ++ ww_X7 cI cJ 47 u2 iX7g) i_X9 tyX9 tyX9_ok nmX9 rfl rfl (by decide) kw_265 rfl rfl rfl rfl rfl rfl (Nat.le_of_ble_eq_true rfl) dX9_init_25 rfl (fun H locs hP hD hS => ?_)
  refine lv_aload_n hx hb dX9_init_28 rfl (lv_at hl 0 rfl) ?_
  refine nw_o (ci := 4) (fs := [.null, .null, .null, .null, .int 0, .int 0, .int 0]) cx' hP hD hS hA i_X4 tyX4 tyX4_ok kw_45 kw_46 kw_3 rfl fs_X4 (by decide) (by decide) dX9_init_29 (fun q3 H hPn hDn hS => ?_)
  refine lv_dup hx hb dX9_init_32 rfl ?_
  refine callI_v (wc := [(q3, .inr (4, [.null, .null, .null, .null, .int 0, .int 0, .int 0]))]) (wf := fun u => ww_X4 cI cJ u iX1) (k := 5) ([(h0, .inr (9, [.ref (u1 0), .ref (u2 0), .null, .null, .null, .null, .null, .null, .null, .null, .null, .int 0]))] ++ ww_X7 cI cJ 31 u1 iX7h ++ ww_X7 cI cJ 47 u2 iX7g) [0, 1, 2, 3, 4] rfl rfl rfl rfl rfl hPn hDn hS hA (fun hPc hDc => run_IN (As := []) (rest := [.ref q3, .ref h0]) cx' (c_X4_init l H.size q3) mk_X4_init rfl mi_X4_init (hN _ (List.mem_of_getElem? (i := 0) rfl)) rfl rfl ⟨by decide, by decide⟩ hPc hDc rfl hl.1 rfl (Nat.le_of_ble_eq_true rfl) dX9_init_33 ⟨by decide, by decide⟩) (fun u3 H locs hP hD hS hu => ?_)
  subst hu
  clear hPn hDn
  refine pF_v (k := 2) (tf := .object "TurnFeast$Row") cx' hnm hP hD hS 0 ([(h0, .inr (9, [.ref (u1 0), .ref (u2 0), .ref (u3 0), .null, .null, .null, .null, .null, .null, .null, .null, .int 0]))] ++ ww_X7 cI cJ 31 u1 iX7h ++ ww_X7 cI cJ 47 u2 iX7g ++ ww_X4 cI cJ u3 iX1) i_X9 tyX9 tyX9_ok nmX9 rfl rfl (by decide) kw_266 rfl rfl rfl rfl rfl rfl (Nat.le_of_ble_eq_true rfl) dX9_init_36 rfl (fun H locs hP hD hS => ?_)
  refine lv_aload_n hx hb dX9_init_39 rfl (lv_at hl 0 rfl) ?_
  refine nw_o (ci := 2) (fs := [.null, .null, .null, .null, .int 0]) cx' hP hD hS hA i_X2 tyX2 tyX2_ok kw_84 kw_85 kw_4 rfl fs_X2 (by decide) (by decide) dX9_init_40 (fun q4 H hPn hDn hS => ?_)
  refine lv_dup hx hb dX9_init_43 rfl ?_
  refine callI_v (wc := [(q4, .inr (2, [.null, .null, .null, .null, .int 0]))]) (wf := fun u => ww_X2 cI cJ u iX1) (k := 10) ([(h0, .inr (9, [.ref (u1 0), .ref (u2 0), .ref (u3 0), .null, .null, .null, .null, .null, .null, .null, .null, .int 0]))] ++ ww_X7 cI cJ 31 u1 iX7h ++ ww_X7 cI cJ 47 u2 iX7g ++ ww_X4 cI cJ u3 iX1) [0, 1, 2, 3, 4, 5, 6, 7, 8, 9] rfl rfl rfl rfl rfl hPn hDn hS hA (fun hPc hDc => run_IN (As := []) (rest := [.ref q4, .ref h0]) cx' (c_X2_init l H.size q4) mk_X2_init rfl mi_X2_init (hN _ (List.mem_of_getElem? (i := 1) rfl)) rfl rfl ⟨by decide, by decide⟩ hPc hDc rfl hl.1 rfl (Nat.le_of_ble_eq_true rfl) dX9_init_44 ⟨by decide, by decide⟩) (fun u4 H locs hP hD hS hu => ?_)
  subst hu
  clear hPn hDn
  refine pF_v (k := 3) (tf := .object "TurnFeast$Guests") cx' hnm hP hD hS 0 ([(h0, .inr (9, [.ref (u1 0), .ref (u2 0), .ref (u3 0), .ref (u4 0), .null, .null, .null, .null, .null, .null, .null, .int 0]))] ++ ww_X7 cI cJ 31 u1 iX7h ++ ww_X7 cI cJ 47 u2 iX7g ++ ww_X4 cI cJ u3 iX1 ++ ww_X2 cI cJ u4 iX1) i_X9 tyX9 tyX9_ok nmX9 rfl rfl (by decide) kw_267 rfl rfl rfl rfl rfl rfl (Nat.le_of_ble_eq_true rfl) dX9_init_47 rfl (fun H locs hP hD hS => ?_)
  refine lv_aload_n hx hb dX9_init_50 rfl (lv_at hl 0 rfl) ?_
  refine nw_o (ci := 1) (fs := [.null, .null, .null, .null, .null, .null, .null, .int 0]) cx' hP hD hS hA i_X1 tyX1 tyX1_ok kw_116 kw_117 kw_5 rfl fs_X1 (by decide) (by decide) dX9_init_51 (fun q5 H hPn hDn hS => ?_)
  refine lv_dup hx hb dX9_init_54 rfl ?_
  refine callI_v (wc := [(q5, .inr (1, [.null, .null, .null, .null, .null, .null, .null, .int 0]))]) (wf := fun u => ww_X1 cI cJ u iX1) (k := 15) ([(h0, .inr (9, [.ref (u1 0), .ref (u2 0), .ref (u3 0), .ref (u4 0), .null, .null, .null, .null, .null, .null, .null, .int 0]))] ++ ww_X7 cI cJ 31 u1 iX7h ++ ww_X7 cI cJ 47 u2 iX7g ++ ww_X4 cI cJ u3 iX1 ++ ww_X2 cI cJ u4 iX1) [0, 1, 2, 3, 4, 5, 6, 7, 8, 9, 10, 11, 12, 13, 14] rfl rfl rfl rfl rfl hPn hDn hS hA (fun hPc hDc => run_IN (As := []) (rest := [.ref q5, .ref h0]) cx' (c_X1_init l H.size q5) mk_X1_init rfl mi_X1_init (hN _ (List.mem_of_getElem? (i := 2) rfl)) rfl rfl ⟨by decide, by decide⟩ hPc hDc rfl hl.1 rfl (Nat.le_of_ble_eq_true rfl) dX9_init_55 ⟨by decide, by decide⟩) (fun u5 H locs hP hD hS hu => ?_)
  subst hu
  clear hPn hDn
  refine pF_v (k := 4) (tf := .object "TurnFeast$Feast") cx' hnm hP hD hS 0 ([(h0, .inr (9, [.ref (u1 0), .ref (u2 0), .ref (u3 0), .ref (u4 0), .ref (u5 0), .null, .null, .null, .null, .null, .null, .int 0]))] ++ ww_X7 cI cJ 31 u1 iX7h ++ ww_X7 cI cJ 47 u2 iX7g ++ ww_X4 cI cJ u3 iX1 ++ ww_X2 cI cJ u4 iX1 ++ ww_X1 cI cJ u5 iX1) i_X9 tyX9 tyX9_ok nmX9 rfl rfl (by decide) kw_268 rfl rfl rfl rfl rfl rfl (Nat.le_of_ble_eq_true rfl) dX9_init_58 rfl (fun H locs hP hD hS => ?_)
  refine lv_aload_n hx hb dX9_init_61 rfl (lv_at hl 0 rfl) ?_
  refine nw_o (ci := 6) (fs := [.null, .null, .int 0]) cx' hP hD hS hA i_X6 tyX6 tyX6_ok kw_154 kw_155 kw_6 rfl fs_X6 (by decide) (by decide) dX9_init_62 (fun q6 H hPn hDn hS => ?_)
  refine lv_dup hx hb dX9_init_65 rfl ?_
  refine callI_v (wc := [(q6, .inr (6, [.null, .null, .int 0]))]) (wf := fun u => ww_X6 cI cJ u iX1) (k := 23) ([(h0, .inr (9, [.ref (u1 0), .ref (u2 0), .ref (u3 0), .ref (u4 0), .ref (u5 0), .null, .null, .null, .null, .null, .null, .int 0]))] ++ ww_X7 cI cJ 31 u1 iX7h ++ ww_X7 cI cJ 47 u2 iX7g ++ ww_X4 cI cJ u3 iX1 ++ ww_X2 cI cJ u4 iX1 ++ ww_X1 cI cJ u5 iX1) [0, 1, 2, 3, 4, 5, 6, 7, 8, 9, 10, 11, 12, 13, 14, 15, 16, 17, 18, 19, 20, 21, 22] rfl rfl rfl rfl rfl hPn hDn hS hA (fun hPc hDc => run_IN (As := []) (rest := [.ref q6, .ref h0]) cx' (c_X6_init l H.size q6) mk_X6_init rfl mi_X6_init (hN _ (List.mem_of_getElem? (i := 3) rfl)) rfl rfl ⟨by decide, by decide⟩ hPc hDc rfl hl.1 rfl (Nat.le_of_ble_eq_true rfl) dX9_init_66 ⟨by decide, by decide⟩) (fun u6 H locs hP hD hS hu => ?_)
  subst hu
  clear hPn hDn
  refine pF_v (k := 5) (tf := .object "TurnFeast$Sights") cx' hnm hP hD hS 0 ([(h0, .inr (9, [.ref (u1 0), .ref (u2 0), .ref (u3 0), .ref (u4 0), .ref (u5 0), .ref (u6 0), .null, .null, .null, .null, .null, .int 0]))] ++ ww_X7 cI cJ 31 u1 iX7h ++ ww_X7 cI cJ 47 u2 iX7g ++ ww_X4 cI cJ u3 iX1 ++ ww_X2 cI cJ u4 iX1 ++ ww_X1 cI cJ u5 iX1 ++ ww_X6 cI cJ u6 iX1) i_X9 tyX9 tyX9_ok nmX9 rfl rfl (by decide) kw_269 rfl rfl rfl rfl rfl rfl (Nat.le_of_ble_eq_true rfl) dX9_init_69 rfl (fun H locs hP hD hS => ?_)
  refine lv_aload_n hx hb dX9_init_72 rfl (lv_at hl 0 rfl) ?_
  refine nw_o (ci := 5) (fs := [.null, .null, .null]) cx' hP hD hS hA i_X5 tyX5 tyX5_ok kw_173 kw_174 kw_7 rfl fs_X5 (by decide) (by decide) dX9_init_73 (fun q7 H hPn hDn hS => ?_)
  refine lv_dup hx hb dX9_init_76 rfl ?_
  refine callI_v (wc := [(q7, .inr (5, [.null, .null, .null]))]) (wf := fun u => ww_X5 cI cJ u iX5) (k := 26) ([(h0, .inr (9, [.ref (u1 0), .ref (u2 0), .ref (u3 0), .ref (u4 0), .ref (u5 0), .ref (u6 0), .null, .null, .null, .null, .null, .int 0]))] ++ ww_X7 cI cJ 31 u1 iX7h ++ ww_X7 cI cJ 47 u2 iX7g ++ ww_X4 cI cJ u3 iX1 ++ ww_X2 cI cJ u4 iX1 ++ ww_X1 cI cJ u5 iX1 ++ ww_X6 cI cJ u6 iX1) [0, 1, 2, 3, 4, 5, 6, 7, 8, 9, 10, 11, 12, 13, 14, 15, 16, 17, 18, 19, 20, 21, 22, 23, 24, 25] rfl rfl rfl rfl rfl hPn hDn hS hA (fun hPc hDc => run_IN (As := []) (rest := [.ref q7, .ref h0]) cx' (c_X5_init l H.size q7) mk_X5_init rfl mi_X5_init (hN _ (List.mem_of_getElem? (i := 4) rfl)) rfl rfl ⟨by decide, by decide⟩ hPc hDc rfl hl.1 rfl (Nat.le_of_ble_eq_true rfl) dX9_init_77 ⟨by decide, by decide⟩) (fun u7 H locs hP hD hS hu => ?_)
  subst hu
  clear hPn hDn
  refine pF_v (k := 6) (tf := .object "TurnFeast$Sheets") cx' hnm hP hD hS 0 ([(h0, .inr (9, [.ref (u1 0), .ref (u2 0), .ref (u3 0), .ref (u4 0), .ref (u5 0), .ref (u6 0), .ref (u7 0), .null, .null, .null, .null, .int 0]))] ++ ww_X7 cI cJ 31 u1 iX7h ++ ww_X7 cI cJ 47 u2 iX7g ++ ww_X4 cI cJ u3 iX1 ++ ww_X2 cI cJ u4 iX1 ++ ww_X1 cI cJ u5 iX1 ++ ww_X6 cI cJ u6 iX1 ++ ww_X5 cI cJ u7 iX5) i_X9 tyX9 tyX9_ok nmX9 rfl rfl (by decide) kw_270 rfl rfl rfl rfl rfl rfl (Nat.le_of_ble_eq_true rfl) dX9_init_80 rfl (fun H locs hP hD hS => ?_)
  refine lv_aload_n hx hb dX9_init_83 rfl (lv_at hl 0 rfl) ?_
  refine nw_o (ci := 0) (fs := [.null, .long 0, .long 0]) cx' hP hD hS hA i_X0 tyX0 tyX0_ok kw_191 kw_192 kw_8 rfl fs_X0 (by decide) (by decide) dX9_init_84 (fun q8 H hPn hDn hS => ?_)
  refine lv_dup hx hb dX9_init_87 rfl ?_
  refine callI_v (wc := [(q8, .inr (0, [.null, .long 0, .long 0]))]) (wf := fun u => ww_X0 cI cJ u iX0) (k := 30) ([(h0, .inr (9, [.ref (u1 0), .ref (u2 0), .ref (u3 0), .ref (u4 0), .ref (u5 0), .ref (u6 0), .ref (u7 0), .null, .null, .null, .null, .int 0]))] ++ ww_X7 cI cJ 31 u1 iX7h ++ ww_X7 cI cJ 47 u2 iX7g ++ ww_X4 cI cJ u3 iX1 ++ ww_X2 cI cJ u4 iX1 ++ ww_X1 cI cJ u5 iX1 ++ ww_X6 cI cJ u6 iX1 ++ ww_X5 cI cJ u7 iX5) [0, 1, 2, 3, 4, 5, 6, 7, 8, 9, 10, 11, 12, 13, 14, 15, 16, 17, 18, 19, 20, 21, 22, 23, 24, 25, 26, 27, 28, 29] rfl rfl rfl rfl rfl hPn hDn hS hA (fun hPc hDc => run_IN (As := []) (rest := [.ref q8, .ref h0]) cx' (c_X0_init l H.size q8) mk_X0_init rfl mi_X0_init (hN _ (List.mem_of_getElem? (i := 5) rfl)) rfl rfl ⟨by decide, by decide⟩ hPc hDc rfl hl.1 rfl (Nat.le_of_ble_eq_true rfl) dX9_init_88 ⟨by decide, by decide⟩) (fun u8 H locs hP hD hS hu => ?_)
  subst hu
  clear hPn hDn
  refine pF_v (k := 7) (tf := .object "TurnFeast$Chances") cx' hnm hP hD hS 0 ([(h0, .inr (9, [.ref (u1 0), .ref (u2 0), .ref (u3 0), .ref (u4 0), .ref (u5 0), .ref (u6 0), .ref (u7 0), .ref (u8 0), .null, .null, .null, .int 0]))] ++ ww_X7 cI cJ 31 u1 iX7h ++ ww_X7 cI cJ 47 u2 iX7g ++ ww_X4 cI cJ u3 iX1 ++ ww_X2 cI cJ u4 iX1 ++ ww_X1 cI cJ u5 iX1 ++ ww_X6 cI cJ u6 iX1 ++ ww_X5 cI cJ u7 iX5 ++ ww_X0 cI cJ u8 iX0) i_X9 tyX9 tyX9_ok nmX9 rfl rfl (by decide) kw_271 rfl rfl rfl rfl rfl rfl (Nat.le_of_ble_eq_true rfl) dX9_init_91 rfl (fun H locs hP hD hS => ?_)
  refine lv_aload_n hx hb dX9_init_94 rfl (lv_at hl 0 rfl) ?_
  refine nw_o (ci := 4) (fs := [.null, .null, .null, .null, .int 0, .int 0, .int 0]) cx' hP hD hS hA i_X4 tyX4 tyX4_ok kw_45 kw_46 kw_3 rfl fs_X4 (by decide) (by decide) dX9_init_95 (fun q9 H hPn hDn hS => ?_)
  refine lv_dup hx hb dX9_init_98 rfl ?_
  refine callI_v (wc := [(q9, .inr (4, [.null, .null, .null, .null, .int 0, .int 0, .int 0]))]) (wf := fun u => ww_X4 cI cJ u iX1) (k := 32) ([(h0, .inr (9, [.ref (u1 0), .ref (u2 0), .ref (u3 0), .ref (u4 0), .ref (u5 0), .ref (u6 0), .ref (u7 0), .ref (u8 0), .null, .null, .null, .int 0]))] ++ ww_X7 cI cJ 31 u1 iX7h ++ ww_X7 cI cJ 47 u2 iX7g ++ ww_X4 cI cJ u3 iX1 ++ ww_X2 cI cJ u4 iX1 ++ ww_X1 cI cJ u5 iX1 ++ ww_X6 cI cJ u6 iX1 ++ ww_X5 cI cJ u7 iX5 ++ ww_X0 cI cJ u8 iX0) [0, 1, 2, 3, 4, 5, 6, 7, 8, 9, 10, 11, 12, 13, 14, 15, 16, 17, 18, 19, 20, 21, 22, 23, 24, 25, 26, 27, 28, 29, 30, 31] rfl rfl rfl rfl rfl hPn hDn hS hA (fun hPc hDc => run_IN (As := []) (rest := [.ref q9, .ref h0]) cx' (c_X4_init l H.size q9) mk_X4_init rfl mi_X4_init (hN _ (List.mem_of_getElem? (i := 0) rfl)) rfl rfl ⟨by decide, by decide⟩ hPc hDc rfl hl.1 rfl (Nat.le_of_ble_eq_true rfl) dX9_init_99 ⟨by decide, by decide⟩) (fun u9 H locs hP hD hS hu => ?_)
  subst hu
  clear hPn hDn
  refine pF_v (k := 8) (tf := .object "TurnFeast$Row") cx' hnm hP hD hS 0 ([(h0, .inr (9, [.ref (u1 0), .ref (u2 0), .ref (u3 0), .ref (u4 0), .ref (u5 0), .ref (u6 0), .ref (u7 0), .ref (u8 0), .ref (u9 0), .null, .null, .int 0]))] ++ ww_X7 cI cJ 31 u1 iX7h ++ ww_X7 cI cJ 47 u2 iX7g ++ ww_X4 cI cJ u3 iX1 ++ ww_X2 cI cJ u4 iX1 ++ ww_X1 cI cJ u5 iX1 ++ ww_X6 cI cJ u6 iX1 ++ ww_X5 cI cJ u7 iX5 ++ ww_X0 cI cJ u8 iX0 ++ ww_X4 cI cJ u9 iX1) i_X9 tyX9 tyX9_ok nmX9 rfl rfl (by decide) kw_272 rfl rfl rfl rfl rfl rfl (Nat.le_of_ble_eq_true rfl) dX9_init_102 rfl (fun H locs hP hD hS => ?_)
  refine lv_aload_n hx hb dX9_init_105 rfl (lv_at hl 0 rfl) ?_
  refine nw_o (ci := 8) (fs := [.null, .int 0, .int 0, .int 0, .int 0, .int 0, .int 0]) cx' hP hD hS hA i_X8 tyX8 tyX8_ok kw_210 kw_211 kw_9 rfl fs_X8 (by decide) (by decide) dX9_init_106 (fun q10 H hPn hDn hS => ?_)
  refine lv_dup hx hb dX9_init_109 rfl ?_
  refine callI_v (wc := [(q10, .inr (8, [.null, .int 0, .int 0, .int 0, .int 0, .int 0, .int 0]))]) (wf := fun u => ww_X8 cI cJ u iX8) (k := 37) ([(h0, .inr (9, [.ref (u1 0), .ref (u2 0), .ref (u3 0), .ref (u4 0), .ref (u5 0), .ref (u6 0), .ref (u7 0), .ref (u8 0), .ref (u9 0), .null, .null, .int 0]))] ++ ww_X7 cI cJ 31 u1 iX7h ++ ww_X7 cI cJ 47 u2 iX7g ++ ww_X4 cI cJ u3 iX1 ++ ww_X2 cI cJ u4 iX1 ++ ww_X1 cI cJ u5 iX1 ++ ww_X6 cI cJ u6 iX1 ++ ww_X5 cI cJ u7 iX5 ++ ww_X0 cI cJ u8 iX0 ++ ww_X4 cI cJ u9 iX1) [0, 1, 2, 3, 4, 5, 6, 7, 8, 9, 10, 11, 12, 13, 14, 15, 16, 17, 18, 19, 20, 21, 22, 23, 24, 25, 26, 27, 28, 29, 30, 31, 32, 33, 34, 35, 36] rfl rfl rfl rfl rfl hPn hDn hS hA (fun hPc hDc => run_IN (As := []) (rest := [.ref q10, .ref h0]) cx' (c_X8_init l H.size q10) mk_X8_init rfl mi_X8_init (hN _ (List.mem_of_getElem? (i := 6) rfl)) rfl rfl ⟨by decide, by decide⟩ hPc hDc rfl hl.1 rfl (Nat.le_of_ble_eq_true rfl) dX9_init_110 ⟨by decide, by decide⟩) (fun u10 H locs hP hD hS hu => ?_)
  subst hu
  clear hPn hDn
  refine pF_v (k := 9) (tf := .object "TurnFeast$Walk") cx' hnm hP hD hS 0 ([(h0, .inr (9, [.ref (u1 0), .ref (u2 0), .ref (u3 0), .ref (u4 0), .ref (u5 0), .ref (u6 0), .ref (u7 0), .ref (u8 0), .ref (u9 0), .ref (u10 0), .null, .int 0]))] ++ ww_X7 cI cJ 31 u1 iX7h ++ ww_X7 cI cJ 47 u2 iX7g ++ ww_X4 cI cJ u3 iX1 ++ ww_X2 cI cJ u4 iX1 ++ ww_X1 cI cJ u5 iX1 ++ ww_X6 cI cJ u6 iX1 ++ ww_X5 cI cJ u7 iX5 ++ ww_X0 cI cJ u8 iX0 ++ ww_X4 cI cJ u9 iX1 ++ ww_X8 cI cJ u10 iX8) i_X9 tyX9 tyX9_ok nmX9 rfl rfl (by decide) kw_273 rfl rfl rfl rfl rfl rfl (Nat.le_of_ble_eq_true rfl) dX9_init_113 rfl (fun H locs hP hD hS => ?_)
  refine lv_aload_n hx hb dX9_init_116 rfl (lv_at hl 0 rfl) ?_
  refine nw_o (ci := 3) (fs := [.int 0, .int 0, .int 0]) cx' hP hD hS hA i_X3 tyX3 tyX3_ok kw_246 kw_247 kw_10 rfl fs_X3 (by decide) (by decide) dX9_init_117 (fun q11 H hPn hDn hS => ?_)
  refine lv_dup hx hb dX9_init_120 rfl ?_
  refine callI_v (wc := [(q11, .inr (3, [.int 0, .int 0, .int 0]))]) (wf := fun u => ww_X3 cI cJ u iX3) (k := 39) ([(h0, .inr (9, [.ref (u1 0), .ref (u2 0), .ref (u3 0), .ref (u4 0), .ref (u5 0), .ref (u6 0), .ref (u7 0), .ref (u8 0), .ref (u9 0), .ref (u10 0), .null, .int 0]))] ++ ww_X7 cI cJ 31 u1 iX7h ++ ww_X7 cI cJ 47 u2 iX7g ++ ww_X4 cI cJ u3 iX1 ++ ww_X2 cI cJ u4 iX1 ++ ww_X1 cI cJ u5 iX1 ++ ww_X6 cI cJ u6 iX1 ++ ww_X5 cI cJ u7 iX5 ++ ww_X0 cI cJ u8 iX0 ++ ww_X4 cI cJ u9 iX1 ++ ww_X8 cI cJ u10 iX8) [0, 1, 2, 3, 4, 5, 6, 7, 8, 9, 10, 11, 12, 13, 14, 15, 16, 17, 18, 19, 20, 21, 22, 23, 24, 25, 26, 27, 28, 29, 30, 31, 32, 33, 34, 35, 36, 37, 38] rfl rfl rfl rfl rfl hPn hDn hS hA (fun hPc hDc => run_IN (As := []) (rest := [.ref q11, .ref h0]) cx' (c_X3_init l H.size q11) mk_X3_init rfl mi_X3_init (hN _ (List.mem_of_getElem? (i := 7) rfl)) rfl rfl ⟨by decide, by decide⟩ hPc hDc rfl hl.1 rfl (Nat.le_of_ble_eq_true rfl) dX9_init_121 ⟨by decide, by decide⟩) (fun u11 H locs hP hD hS hu => ?_)
  subst hu
  clear hPn hDn
  refine pF_v (k := 10) (tf := .object "TurnFeast$Plan") cx' hnm hP hD hS 0 ([(h0, .inr (9, [.ref (u1 0), .ref (u2 0), .ref (u3 0), .ref (u4 0), .ref (u5 0), .ref (u6 0), .ref (u7 0), .ref (u8 0), .ref (u9 0), .ref (u10 0), .ref (u11 0), .int 0]))] ++ ww_X7 cI cJ 31 u1 iX7h ++ ww_X7 cI cJ 47 u2 iX7g ++ ww_X4 cI cJ u3 iX1 ++ ww_X2 cI cJ u4 iX1 ++ ww_X1 cI cJ u5 iX1 ++ ww_X6 cI cJ u6 iX1 ++ ww_X5 cI cJ u7 iX5 ++ ww_X0 cI cJ u8 iX0 ++ ww_X4 cI cJ u9 iX1 ++ ww_X8 cI cJ u10 iX8 ++ ww_X3 cI cJ u11 iX3) i_X9 tyX9 tyX9_ok nmX9 rfl rfl (by decide) kw_274 rfl rfl rfl rfl rfl rfl (Nat.le_of_ble_eq_true rfl) dX9_init_124 rfl (fun H locs hP hD hS => ?_)
  refine lv_aload_n hx hb dX9_init_127 rfl (lv_at hl 0 rfl) ?_
  refine lv_iconst (v := 0) hx hb dX9_init_128 (by decide) ?_
  refine pf_v (k := 11) (tf := .int) cx' hP hD hS 0 ([(h0, .inr (9, [.ref (u1 0), .ref (u2 0), .ref (u3 0), .ref (u4 0), .ref (u5 0), .ref (u6 0), .ref (u7 0), .ref (u8 0), .ref (u9 0), .ref (u10 0), .ref (u11 0), .int 0]))] ++ ww_X7 cI cJ 31 u1 iX7h ++ ww_X7 cI cJ 47 u2 iX7g ++ ww_X4 cI cJ u3 iX1 ++ ww_X2 cI cJ u4 iX1 ++ ww_X1 cI cJ u5 iX1 ++ ww_X6 cI cJ u6 iX1 ++ ww_X5 cI cJ u7 iX5 ++ ww_X0 cI cJ u8 iX0 ++ ww_X4 cI cJ u9 iX1 ++ ww_X8 cI cJ u10 iX8 ++ ww_X3 cI cJ u11 iX3) i_X9 tyX9 tyX9_ok nmX9 rfl rfl (by decide) kw_275 rfl rfl rfl rfl rfl (Nat.le_of_ble_eq_true rfl) dX9_init_129 rfl (fun H locs hP hD hS => ?_)
  refine W.widen (k := 39) (n := 701) (by decide) (by decide) ?_
  exact rt_v (u := (fun g => match g with | 1 => u1 | 2 => u2 | 3 => u3 | 4 => u4 | 5 => u5 | 6 => u6 | 7 => u7 | 8 => u8 | 9 => u9 | 10 => u10 | 11 => u11 | _ => fun _ => h0)) (wf := fun u => wC cI cJ u iC iX0) cx hP hD hS rfl dX9_init_132
