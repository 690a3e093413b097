set_option maxHeartbeats 4000000 in
set_option maxRecDepth 100000 in
theorem w_X0_join_31 {p : Program} {l : Launch} {e : Env} {s : State} {m : MethodId} {args : Array Value} {below : List Frame} {meth : Method} {c : Code} {dC : Nat → ClassId} {dI : Nat → Nat → Nat} {cI cJ : ClassId} {A : Nat → Prop} (cx : CX RX0 cX0_join none 6 p s m args meth c (dC, dI) (TY cI cJ)) (hA : ∀ q, s.heap.size ≤ q → A q) {q0 : Nat → Nat} {post : MemL → Prop} {k3 : Int32 → Int32 → Int32 → MemL → Prop} (hk3 : ∀ (x1 : Int32) (x2 : Int32) (x3 : Int32) (m0 : MemL) (H : Heap) (locs : List Loc) (ls : Array Slot), va_P (dC, dI) vwCl (ww_X0 cI cJ q0 m0) H → va_D A (ww_X0 cI cJ q0 m0) → va_S A s.heap H locs → lv_has ls 6 [(0, .ref (q0 0)), (1, .int x1), (2, .int x2), (3, .int x3)] → k3 x1 x2 x3 m0 → W p l e ({ frames := 0, cells := 0, slots := 0, locals := 0 }) s m args below meth c H locs 0 0 (MQ below (va_Qv (S := MemL) (fun (u : MemL) => post u) (fun u t => AT (dC, dI) (TY cI cJ) A (ww_X0 cI cJ q0 u) t) A) args s 0 0 A) (F0 m 3 ls [])) : ∀ (x1 : Int32) (x2 : Int32) (x3 : Int32) (z0 : Int64) (m0 : MemL) (H : Heap) (locs : List Loc) (ls : Array Slot), va_P (dC, dI) vwCl (ww_X0 cI cJ q0 m0) H → va_D A (ww_X0 cI cJ q0 m0) → va_S A s.heap H locs → lv_has ls 6 [(0, .ref (q0 0)), (1, .int x1), (2, .int x2), (3, .int x3)] → b_X0_join_31 post k3 x1 x2 x3 z0 m0 → W p l e ({ frames := 0, cells := 0, slots := 0, locals := 0 }) s m args below meth c H locs 0 0 (MQ below (va_Qv (S := MemL) (fun (u : MemL) => post u) (fun u t => AT (dC, dI) (TY cI cJ) A (ww_X0 cI cJ q0 u) t) A) args s 0 0 A) (F0 m 31 ls [.long z0]) := by
  obtain ⟨hx, hb, hr, hml, hown, hts, hlocks, hK⟩ := id cx
  have cx' : CX RX0 cX0_join (meth.sig.returnType) 6 p s m args meth c (dC, dI) (TY cI cJ) := ⟨hx, hb, rfl, hml, hown, hts, hlocks, hK⟩
  intro x1 x2 x3 z0 m0 H locs ls hP hD hS hl h
  unfold b_X0_join_31 at h
  refine lv_lstore (lv' := [(4, .long z0), (0, .ref (q0 0)), (1, .int x1), (2, .int x2), (3, .int x3)]) hx hb dX0_join_31 hl (by decide) rfl (fun ls hl => ?_)
  refine lv_aload_n hx hb dX0_join_33 rfl (lv_at hl 1 rfl) ?_
  refine gf_v (k := 0) (v := .ref (q0 1)) cx' hP 0 i_X0 rfl rfl (by decide) kw_197 rfl rfl dX0_join_34 ?_
  refine lv_iload_n hx hb dX0_join_37 rfl (lv_at hl 4 rfl) ?_
  refine lv_aload_n hx hb dX0_join_38 rfl (lv_at hl 1 rfl) ?_
  refine gf_v (k := 0) (v := .ref (q0 1)) cx' hP 0 i_X0 rfl rfl (by decide) kw_197 rfl rfl dX0_join_39 ?_
  refine lv_iload_n hx hb dX0_join_42 rfl (lv_at hl 4 rfl) ?_
  refine va_lald hx hb hK hP 1 1 rfl rfl h.1 dX0_join_43 ?_
  have h := h.2
  refine lv_bipush (v := 16) hx hb dX0_join_44 (by decide) ?_
  refine lv_iload_n hx hb dX0_join_46 rfl (lv_at hl 2 rfl) ?_
  refine lv_isub hx hb dX0_join_47 ?_
  refine lv_i2l (v := Int32.toInt64 (16 - x1)) hx hb dX0_join_48 rfl ?_
  refine lv_lmul hx hb dX0_join_49 ?_
  refine lv_lload hx hb dX0_join_50 (lv_at hl 0 rfl) ?_
  refine lv_ladd hx hb dX0_join_52 ?_
  obtain ⟨m0_1, em0_1⟩ : ∃ z : MemL, z = up2L m0 1 (Int32.toNatClampNeg x3) (((m0 1 (Int32.toNatClampNeg x3)) * (Int32.toInt64 (16 - x1))) + z0) := ⟨_, rfl⟩
  have h1 := h.1
  have h := h.2 m0_1 em0_1
  refine st_l hx hb hK hP hD hS 1 1 (ww_X0 cI cJ q0 m0_1) rfl rfl h1 dX0_join_53 (by subst em0_1; rfl) (fun H locs hP hD hS => ?_)
  obtain ⟨x3_2, ex3_2⟩ : ∃ z : Int32, z = x3 + (-1) := ⟨_, rfl⟩
  have h := h x3_2 ex3_2
  refine lv_iinc (v := x3_2) (lv' := [(3, .int x3_2), (4, .long z0), (0, .ref (q0 0)), (1, .int x1), (2, .int x2)]) hx hb dX0_join_54 hl (k := 4) rfl (by rw [ex3_2]; rfl) (by decide) rfl (fun ls hl => ?_)
  refine lv_goto (tgt := 3) hx hb dX0_join_57 (by decide) ?_
  exact hk3 x1 x2 x3_2 m0_1 H locs ls hP hD hS (lv_sub hl [2, 3, 4, 0] rfl) h
set_option maxHeartbeats 4000000 in
set_option maxRecDepth 100000 in
theorem w_X0_join_30 {p : Program} {l : Launch} {e : Env} {s : State} {m : MethodId} {args : Array Value} {below : List Frame} {meth : Method} {c : Code} {dC : Nat → ClassId} {dI : Nat → Nat → Nat} {cI cJ : ClassId} {A : Nat → Prop} (cx : CX RX0 cX0_join none 6 p s m args meth c (dC, dI) (TY cI cJ)) (hA : ∀ q, s.heap.size ≤ q → A q) {q0 : Nat → Nat} {post : MemL → Prop} {k3 : Int32 → Int32 → Int32 → MemL → Prop} (hk3 : ∀ (x1 : Int32) (x2 : Int32) (x3 : Int32) (m0 : MemL) (H : Heap) (locs : List Loc) (ls : Array Slot), va_P (dC, dI) vwCl (ww_X0 cI cJ q0 m0) H → va_D A (ww_X0 cI cJ q0 m0) → va_S A s.heap H locs → lv_has ls 6 [(0, .ref (q0 0)), (1, .int x1), (2, .int x2), (3, .int x3)] → k3 x1 x2 x3 m0 → W p l e ({ frames := 0, cells := 0, slots := 0, locals := 0 }) s m args below meth c H locs 0 0 (MQ below (va_Qv (S := MemL) (fun (u : MemL) => post u) (fun u t => AT (dC, dI) (TY cI cJ) A (ww_X0 cI cJ q0 u) t) A) args s 0 0 A) (F0 m 3 ls [])) : ∀ (x1 : Int32) (x2 : Int32) (x3 : Int32) (m0 : MemL) (H : Heap) (locs : List Loc) (ls : Array Slot), va_P (dC, dI) vwCl (ww_X0 cI cJ q0 m0) H → va_D A (ww_X0 cI cJ q0 m0) → va_S A s.heap H locs → lv_has ls 6 [(0, .ref (q0 0)), (1, .int x1), (2, .int x2), (3, .int x3)] → b_X0_join_30 post k3 x1 x2 x3 m0 → W p l e ({ frames := 0, cells := 0, slots := 0, locals := 0 }) s m args below meth c H locs 0 0 (MQ below (va_Qv (S := MemL) (fun (u : MemL) => post u) (fun u t => AT (dC, dI) (TY cI cJ) A (ww_X0 cI cJ q0 u) t) A) args s 0 0 A) (F0 m 30 ls []) := by
  obtain ⟨hx, hb, hr, hml, hown, hts, hlocks, hK⟩ := id cx
  have cx' : CX RX0 cX0_join (meth.sig.returnType) 6 p s m args meth c (dC, dI) (TY cI cJ) := ⟨hx, hb, rfl, hml, hown, hts, hlocks, hK⟩
  intro x1 x2 x3 m0 H locs ls hP hD hS hl h
  unfold b_X0_join_30 at h
  refine lv_lconst (v := 0) hx hb dX0_join_30 (by decide) ?_
  exact w_X0_join_31 cx hA hk3 x1 x2 x3 0 m0 H locs ls hP hD hS (lv_sub hl [0, 1, 2, 3] rfl) h
set_option maxHeartbeats 4000000 in
set_option maxRecDepth 100000 in
theorem w_X0_join_3 {p : Program} {l : Launch} {e : Env} {s : State} {m : MethodId} {args : Array Value} {below : List Frame} {meth : Method} {c : Code} {dC : Nat → ClassId} {dI : Nat → Nat → Nat} {cI cJ : ClassId} {A : Nat → Prop} (cx : CX RX0 cX0_join none 6 p s m args meth c (dC, dI) (TY cI cJ)) (hA : ∀ q, s.heap.size ≤ q → A q) {q0 : Nat → Nat} {post : MemL → Prop} : ∀ (n : Nat) (x1 : Int32) (x2 : Int32) (x3 : Int32) (m0 : MemL) (H : Heap) (locs : List Loc) (ls : Array Slot), va_P (dC, dI) vwCl (ww_X0 cI cJ q0 m0) H → va_D A (ww_X0 cI cJ q0 m0) → va_S A s.heap H locs → lv_has ls 6 [(0, .ref (q0 0)), (1, .int x1), (2, .int x2), (3, .int x3)] → b_X0_join_3 post n x1 x2 x3 m0 → W p l e ({ frames := 0, cells := 0, slots := 0, locals := 0 }) s m args below meth c H locs 0 0 (MQ below (va_Qv (S := MemL) (fun (u : MemL) => post u) (fun u t => AT (dC, dI) (TY cI cJ) A (ww_X0 cI cJ q0 u) t) A) args s 0 0 A) (F0 m 3 ls []) := by
  obtain ⟨hx, hb, hr, hml, hown, hts, hlocks, hK⟩ := id cx
  have cx' : CX RX0 cX0_join (meth.sig.returnType) 6 p s m args meth c (dC, dI) (TY cI cJ) := ⟨hx, hb, rfl, hml, hown, hts, hlocks, hK⟩
  intro n
  induction n with
  | zero =>
    intro x1 x2 x3 m0 H locs ls hP hD hS hl h
    exact False.elim h
  | succ n ih =>
    intro x1 x2 x3 m0 H locs ls hP hD hS hl h
    unfold b_X0_join_3 at h
    refine lv_iload_n hx hb dX0_join_3 rfl (lv_at hl 3 rfl) ?_
    refine lv_if_lt (tgt := 60) hx hb dX0_join_4 (by decide) (fun c_1 => ?_) (fun c_1 => ?_)
    · have h := h.1 c_1
      exact rt_v (u := m0) cx hP hD hS h dX0_join_60
    have h := h.2 c_1
    refine lv_iload_n hx hb dX0_join_7 rfl (lv_at hl 2 rfl) ?_
    refine lv_if_lt (tgt := 30) hx hb dX0_join_8 (by decide) (fun c_2 => ?_) (fun c_2 => ?_)
    · have h := h.1 c_2
      exact w_X0_join_30 cx hA ih x1 x2 x3 m0 H locs ls hP hD hS (lv_sub hl [0, 1, 2, 3] rfl) h
    have h := h.2 c_2
    refine lv_iload_n hx hb dX0_join_11 rfl (lv_at hl 3 rfl) ?_
    refine lv_iload_n hx hb dX0_join_12 rfl (lv_at hl 2 rfl) ?_
    refine lv_icmp_lt (tgt := 30) hx hb dX0_join_13 (by decide) (fun c_3 => ?_) (fun c_3 => ?_)
    · have h := h.1 c_3
      exact w_X0_join_30 cx hA ih x1 x2 x3 m0 H locs ls hP hD hS (lv_sub hl [0, 1, 2, 3] rfl) h
    have h := h.2 c_3
    refine lv_aload_n hx hb dX0_join_16 rfl (lv_at hl 0 rfl) ?_
    refine gf_v (k := 0) (v := .ref (q0 1)) cx' hP 0 i_X0 rfl rfl (by decide) kw_197 rfl rfl dX0_join_17 ?_
    refine lv_iload_n hx hb dX0_join_20 rfl (lv_at hl 3 rfl) ?_
    refine lv_iload_n hx hb dX0_join_21 rfl (lv_at hl 2 rfl) ?_
    refine lv_isub hx hb dX0_join_22 ?_
    refine va_lald hx hb hK hP 1 1 rfl rfl h.1 dX0_join_23 ?_
    have h := h.2
    refine lv_iload_n hx hb dX0_join_24 rfl (lv_at hl 1 rfl) ?_
    refine lv_i2l (v := Int32.toInt64 x1) hx hb dX0_join_25 rfl ?_
    refine lv_lmul hx hb dX0_join_26 ?_
    refine lv_goto (tgt := 31) hx hb dX0_join_27 (by decide) ?_
    exact w_X0_join_31 cx hA ih x1 x2 x3 ((m0 1 (Int32.toNatClampNeg (x3 - x2))) * (Int32.toInt64 x1)) m0 H locs ls hP hD hS (lv_sub hl [0, 1, 2, 3] rfl) h
set_option maxHeartbeats 4000000 in
set_option maxRecDepth 100000 in
theorem w_X0_join_0 {p : Program} {l : Launch} {e : Env} {s : State} {m : MethodId} {args : Array Value} {below : List Frame} {meth : Method} {c : Code} {dC : Nat → ClassId} {dI : Nat → Nat → Nat} {cI cJ : ClassId} {A : Nat → Prop} (cx : CX RX0 cX0_join none 6 p s m args meth c (dC, dI) (TY cI cJ)) (hA : ∀ q, s.heap.size ≤ q → A q) {q0 : Nat → Nat} {post : MemL → Prop} : ∀ (x1 : Int32) (x2 : Int32) (m0 : MemL) (H : Heap) (locs : List Loc) (ls : Array Slot), va_P (dC, dI) vwCl (ww_X0 cI cJ q0 m0) H → va_D A (ww_X0 cI cJ q0 m0) → va_S A s.heap H locs → lv_has ls 6 [(0, .ref (q0 0)), (1, .int x1), (2, .int x2)] → b_X0_join_0 post x1 x2 m0 → W p l e ({ frames := 0, cells := 0, slots := 0, locals := 0 }) s m args below meth c H locs 0 0 (MQ below (va_Qv (S := MemL) (fun (u : MemL) => post u) (fun u t => AT (dC, dI) (TY cI cJ) A (ww_X0 cI cJ q0 u) t) A) args s 0 0 A) (F0 m 0 ls []) := by
  obtain ⟨hx, hb, hr, hml, hown, hts, hlocks, hK⟩ := id cx
  have cx' : CX RX0 cX0_join (meth.sig.returnType) 6 p s m args meth c (dC, dI) (TY cI cJ) := ⟨hx, hb, rfl, hml, hown, hts, hlocks, hK⟩
  intro x1 x2 m0 H locs ls hP hD hS hl h
  unfold b_X0_join_0 at h
  refine lv_bipush (v := 88) hx hb dX0_join_0 (by decide) ?_
  refine lv_istore_n (lv' := [(3, .int 88), (0, .ref (q0 0)), (1, .int x1), (2, .int x2)]) hx hb dX0_join_2 rfl hl (by decide) rfl (fun ls hl => ?_)
  obtain ⟨n_1, h⟩ := h
  exact w_X0_join_3 cx hA n_1 x1 x2 88 m0 H locs ls hP hD hS (lv_sub hl [1, 2, 3, 0] rfl) h
set_option maxRecDepth 100000 in
theorem c_X0_join (l : Launch) {dC : Nat → ClassId} {dI : Nat → Nat → Nat} {cI cJ : ClassId} (sz : Nat) (q0 : Nat → Nat) (m0 : MemL) (x1 : Int32) (x2 : Int32) (post : MemL → Prop) (h : wp_X0_join m0 x1 x2 post) : Met l yX0_join (Cond.code yX0_join cX0_join 6 none :: gt) ({ frames := 0, cells := 0, slots := 0, locals := 0 }) (va_Pc [.ref (q0 0), .int x1, .int x2] (PRE (dC, dI) (TY cI cJ) (ww_X0 cI cJ q0 m0) sz)) (va_Qv (S := MemL) (fun (u : MemL) => post u) (fun u t => AT (dC, dI) (TY cI cJ) (va_A (ww_X0 cI cJ q0 m0) sz) (ww_X0 cI cJ q0 u) t) (va_A (ww_X0 cI cJ q0 m0) sz)) 0 0 (va_A (ww_X0 cI cJ q0 m0) sz) :=
  met_of (own := RX0) (Qf := fun A => va_Qv (S := MemL) (fun (u : MemL) => post u) (fun u t => AT (dC, dI) (TY cI cJ) A (ww_X0 cI cJ q0 u) t) A) (by decide) rfl (Nat.le_of_ble_eq_true rfl) rfl (fun p e s m below meth c A cx hA ls hP hD hS hl => w_X0_join_0 cx hA x1 x2 m0 _ _ ls hP hD hS hl h)
theorem mv_X0_join : MV yX0_join cX0_join 6 none 2 := ⟨⟨kw_594, kw_8, by decide +kernel⟩, kw_592, kw_593⟩
set_option maxHeartbeats 4000000 in
set_option maxRecDepth 100000 in
theorem w_X0_reduce_2 {p : Program} {l : Launch} {e : Env} {s : State} {m : MethodId} {args : Array Value} {below : List Frame} {meth : Method} {c : Code} {dC : Nat → ClassId} {dI : Nat → Nat → Nat} {cI cJ : ClassId} {A : Nat → Prop} (cx : CX RX0 cX0_reduce none 2 p s m args meth c (dC, dI) (TY cI cJ)) (hA : ∀ q, s.heap.size ≤ q → A q) {q0 : Nat → Nat} {post : MemL → Prop} : ∀ (n : Nat) (x1 : Int32) (m0 : MemL) (H : Heap) (locs : List Loc) (ls : Array Slot), va_P (dC, dI) vwCl (ww_X0 cI cJ q0 m0) H → va_D A (ww_X0 cI cJ q0 m0) → va_S A s.heap H locs → lv_has ls 2 [(0, .ref (q0 0)), (1, .int x1)] → b_X0_reduce_2 post n x1 m0 → W p l e ({ frames := 0, cells := 0, slots := 0, locals := 0 }) s m args below meth c H locs 0 0 (MQ below (va_Qv (S := MemL) (fun (u : MemL) => post u) (fun u t => AT (dC, dI) (TY cI cJ) A (ww_X0 cI cJ q0 u) t) A) args s 0 0 A) (F0 m 2 ls []) := by
  obtain ⟨hx, hb, hr, hml, hown, hts, hlocks, hK⟩ := id cx
  have cx' : CX RX0 cX0_reduce (meth.sig.returnType) 2 p s m args meth c (dC, dI) (TY cI cJ) := ⟨hx, hb, rfl, hml, hown, hts, hlocks, hK⟩
  intro n
  induction n with
  | zero =>
    intro x1 m0 H locs ls hP hD hS hl h
    exact False.elim h
  | succ n ih =>
    intro x1 m0 H locs ls hP hD hS hl h
    unfold b_X0_reduce_2 at h
    refine lv_iload_n hx hb dX0_reduce_2 rfl (lv_at hl 1 rfl) ?_
    refine lv_bipush (v := 32) hx hb dX0_reduce_3 (by decide) ?_
    refine lv_icmp_ge (tgt := 60) hx hb dX0_reduce_5 (by decide) (fun c_1 => ?_) (fun c_1 => ?_)
    · have h := h.1 c_1
      exact rt_v (u := m0) cx hP hD hS h dX0_reduce_60
    have h := h.2 c_1
    refine lv_aload_n hx hb dX0_reduce_8 rfl (lv_at hl 0 rfl) ?_
    refine gf_v (k := 1) (v := .long (m0 0 1)) cx' hP 0 i_X0 rfl rfl (by decide) kw_198 rfl rfl dX0_reduce_9 ?_
    refine lv_lconst (v := 1) hx hb dX0_reduce_12 (by decide) ?_
    refine lv_land hx hb dX0_reduce_13 ?_
    refine lv_lconst (v := 0) hx hb dX0_reduce_14 (by decide) ?_
    refine W.lcmp hx hb dX0_reduce_15 ?_
    refine lv_if_ne (tgt := 60) hx hb dX0_reduce_16 (by decide) (fun c_2 => ?_) (fun c_2 => ?_)
    · have h := h.1 c_2
      exact rt_v (u := m0) cx hP hD hS h dX0_reduce_60
    have h := h.2 c_2
    refine lv_aload_n hx hb dX0_reduce_19 rfl (lv_at hl 0 rfl) ?_
    refine gf_v (k := 2) (v := .long (m0 0 2)) cx' hP 0 i_X0 rfl rfl (by decide) kw_200 rfl rfl dX0_reduce_20 ?_
    refine lv_lconst (v := 1) hx hb dX0_reduce_23 (by decide) ?_
    refine lv_land hx hb dX0_reduce_24 ?_
    refine lv_lconst (v := 0) hx hb dX0_reduce_25 (by decide) ?_
    refine W.lcmp hx hb dX0_reduce_26 ?_
    refine lv_if_ne (tgt := 60) hx hb dX0_reduce_27 (by decide) (fun c_3 => ?_) (fun c_3 => ?_)
    · have h := h.1 c_3
      exact rt_v (u := m0) cx hP hD hS h dX0_reduce_60
    have h := h.2 c_3
    refine lv_aload_n hx hb dX0_reduce_30 rfl (lv_at hl 0 rfl) ?_
    refine lv_dup hx hb dX0_reduce_31 rfl ?_
    refine gf_v (k := 1) (v := .long (m0 0 1)) cx' hP 0 i_X0 rfl rfl (by decide) kw_198 rfl rfl dX0_reduce_32 ?_
    refine lv_ldc2 hx hb hown (hts _ kw_600) dX0_reduce_35 ?_
    refine lv_ldiv hx hb dX0_reduce_38 (by decide) ?_
    obtain ⟨m0_4, em0_4⟩ : ∃ z : MemL, z = up2L m0 0 1 ((m0 0 1) / 2) := ⟨_, rfl⟩
    have h := h m0_4 em0_4
    refine pf_v (k := 1) (tf := .long) cx' hP hD hS 0 (ww_X0 cI cJ q0 m0_4) i_X0 tyX0 tyX0_ok nmX0 rfl rfl (by decide) kw_198 rfl rfl rfl rfl rfl (Nat.le_of_ble_eq_true rfl) dX0_reduce_39 (by subst em0_4; rfl) (fun H locs hP hD hS => ?_)
    refine lv_aload_n hx hb dX0_reduce_42 rfl (lv_at hl 0 rfl) ?_
    refine lv_dup hx hb dX0_reduce_43 rfl ?_
    refine gf_v (k := 2) (v := .long (m0_4 0 2)) cx' hP 0 i_X0 rfl rfl (by decide) kw_200 rfl rfl dX0_reduce_44 ?_
    refine lv_ldc2 hx hb hown (hts _ kw_600) dX0_reduce_47 ?_
    refine lv_ldiv hx hb dX0_reduce_50 (by decide) ?_
    obtain ⟨m0_5, em0_5⟩ : ∃ z : MemL, z = up2L m0_4 0 2 ((m0_4 0 2) / 2) := ⟨_, rfl⟩
    have h := h m0_5 em0_5
    refine pf_v (k := 2) (tf := .long) cx' hP hD hS 0 (ww_X0 cI cJ q0 m0_5) i_X0 tyX0 tyX0_ok nmX0 rfl rfl (by decide) kw_200 rfl rfl rfl rfl rfl (Nat.le_of_ble_eq_true rfl) dX0_reduce_51 (by subst em0_5; rfl) (fun H locs hP hD hS => ?_)
    obtain ⟨x1_6, ex1_6⟩ : ∃ z : Int32, z = x1 + 1 := ⟨_, rfl⟩
    have h := h x1_6 ex1_6
    refine lv_iinc (v := x1_6) (lv' := [(1, .int x1_6), (0, .ref (q0 0))]) hx hb dX0_reduce_54 hl (k := 1) rfl (by rw [ex1_6]; rfl) (by decide) rfl (fun ls hl => ?_)
    refine lv_goto (tgt := 2) hx hb dX0_reduce_57 (by decide) ?_
    exact ih x1_6 m0_5 H locs ls hP hD hS (lv_sub hl [1, 0] rfl) h
set_option maxHeartbeats 4000000 in
set_option maxRecDepth 100000 in
theorem w_X0_reduce_0 {p : Program} {l : Launch} {e : Env} {s : State} {m : MethodId} {args : Array Value} {below : List Frame} {meth : Method} {c : Code} {dC : Nat → ClassId} {dI : Nat → Nat → Nat} {cI cJ : ClassId} {A : Nat → Prop} (cx : CX RX0 cX0_reduce none 2 p s m args meth c (dC, dI) (TY cI cJ)) (hA : ∀ q, s.heap.size ≤ q → A q) {q0 : Nat → Nat} {post : MemL → Prop} : ∀ (m0 : MemL) (H : Heap) (locs : List Loc) (ls : Array Slot), va_P (dC, dI) vwCl (ww_X0 cI cJ q0 m0) H → va_D A (ww_X0 cI cJ q0 m0) → va_S A s.heap H locs → lv_has ls 2 [(0, .ref (q0 0))] → b_X0_reduce_0 post m0 → W p l e ({ frames := 0, cells := 0, slots := 0, locals := 0 }) s m args below meth c H locs 0 0 (MQ below (va_Qv (S := MemL) (fun (u : MemL) => post u) (fun u t => AT (dC, dI) (TY cI cJ) A (ww_X0 cI cJ q0 u) t) A) args s 0 0 A) (F0 m 0 ls []) := by
  obtain ⟨hx, hb, hr, hml, hown, hts, hlocks, hK⟩ := id cx
  have cx' : CX RX0 cX0_reduce (meth.sig.returnType) 2 p s m args meth c (dC, dI) (TY cI cJ) := ⟨hx, hb, rfl, hml, hown, hts, hlocks, hK⟩
  intro m0 H locs ls hP hD hS hl h
  unfold b_X0_reduce_0 at h
  refine lv_iconst (v := 0) hx hb dX0_reduce_0 (by decide) ?_
  refine lv_istore_n (lv' := [(1, .int 0), (0, .ref (q0 0))]) hx hb dX0_reduce_1 rfl hl (by decide) rfl (fun ls hl => ?_)
  obtain ⟨n_1, h⟩ := h
  exact w_X0_reduce_2 cx hA n_1 0 m0 H locs ls hP hD hS (lv_sub hl [1, 0] rfl) h
set_option maxRecDepth 100000 in
theorem c_X0_reduce (l : Launch) {dC : Nat → ClassId} {dI : Nat → Nat → Nat} {cI cJ : ClassId} (sz : Nat) (q0 : Nat → Nat) (m0 : MemL) (post : MemL → Prop) (h : wp_X0_reduce m0 post) : Met l yX0_reduce (Cond.code yX0_reduce cX0_reduce 2 none :: gt) ({ frames := 0, cells := 0, slots := 0, locals := 0 }) (va_Pc [.ref (q0 0)] (PRE (dC, dI) (TY cI cJ) (ww_X0 cI cJ q0 m0) sz)) (va_Qv (S := MemL) (fun (u : MemL) => post u) (fun u t => AT (dC, dI) (TY cI cJ) (va_A (ww_X0 cI cJ q0 m0) sz) (ww_X0 cI cJ q0 u) t) (va_A (ww_X0 cI cJ q0 m0) sz)) 0 0 (va_A (ww_X0 cI cJ q0 m0) sz) :=
  met_of (own := RX0) (Qf := fun A => va_Qv (S := MemL) (fun (u : MemL) => post u) (fun u t => AT (dC, dI) (TY cI cJ) A (ww_X0 cI cJ q0 u) t) A) (by decide) rfl (Nat.le_of_ble_eq_true rfl) rfl (fun p e s m below meth c A cx hA ls hP hD hS hl => w_X0_reduce_0 cx hA m0 _ _ ls hP hD hS hl h)
theorem mv_X0_reduce : MV yX0_reduce cX0_reduce 2 none 0 := ⟨⟨kw_599, kw_8, by decide +kernel⟩, kw_597, kw_598⟩
set_option maxHeartbeats 4000000 in
set_option maxRecDepth 100000 in
theorem w_X1_gaveTo_0 {p : Program} {l : Launch} {e : Env} {s : State} {m : MethodId} {args : Array Value} {below : List Frame} {meth : Method} {c : Code} {dC : Nat → ClassId} {dI : Nat → Nat → Nat} {cI cJ : ClassId} {A : Nat → Prop} (cx : CX RX1 cX1_gaveTo (some .int) 3 p s m args meth c (dC, dI) (TY cI cJ)) (hA : ∀ q, s.heap.size ≤ q → A q) {q0 : Nat → Nat} {m0 : Mem} {post : Int32 → Prop} : ∀ (x1 : Int32) (x2 : Int32) (H : Heap) (locs : List Loc) (ls : Array Slot), va_P (dC, dI) vwCl (ww_X1 cI cJ q0 m0) H → va_D A (ww_X1 cI cJ q0 m0) → va_S A s.heap H locs → lv_has ls 3 [(0, .ref (q0 0)), (1, .int x1), (2, .int x2)] → b_X1_gaveTo_0 m0 post x1 x2 → W p l e ({ frames := 0, cells := 0, slots := 0, locals := 0 }) s m args below meth c H locs 0 0 (MQ below (va_Qi (S := Unit) (fun (r : Int32) (_u : Unit) => post r) (fun _u t => AT (dC, dI) (TY cI cJ) A (ww_X1 cI cJ q0 m0) t) A) args s 0 0 A) (F0 m 0 ls []) := by
  obtain ⟨hx, hb, hr, hml, hown, hts, hlocks, hK⟩ := id cx
  have cx' : CX RX1 cX1_gaveTo (meth.sig.returnType) 3 p s m args meth c (dC, dI) (TY cI cJ) := ⟨hx, hb, rfl, hml, hown, hts, hlocks, hK⟩
  intro x1 x2 H locs ls hP hD hS hl h
  unfold b_X1_gaveTo_0 at h
  refine lv_aload_n hx hb dX1_gaveTo_0 rfl (lv_at hl 0 rfl) ?_
  refine gf_v (k := 0) (v := .ref (q0 1)) cx' hP 0 i_X1 rfl rfl (by decide) kw_122 rfl rfl dX1_gaveTo_1 ?_
  refine lv_iload_n hx hb dX1_gaveTo_4 rfl (lv_at hl 1 rfl) ?_
  refine lv_bipush (v := 8) hx hb dX1_gaveTo_5 (by decide) ?_
  refine lv_imul hx hb dX1_gaveTo_7 ?_
  refine lv_iload_n hx hb dX1_gaveTo_8 rfl (lv_at hl 2 rfl) ?_
  refine lv_iadd hx hb dX1_gaveTo_9 ?_
  refine va_iald hx hb hK hP 1 0 rfl rfl h.1 dX1_gaveTo_10 ?_
  have h := h.2
  exact rt_i (v := m0 1 (Int32.toNatClampNeg ((x1 * 8) + x2))) (u := ()) cx hP hD hS h dX1_gaveTo_11
set_option maxRecDepth 100000 in
theorem c_X1_gaveTo (l : Launch) {dC : Nat → ClassId} {dI : Nat → Nat → Nat} {cI cJ : ClassId} (sz : Nat) (q0 : Nat → Nat) (m0 : Mem) (x1 : Int32) (x2 : Int32) (post : Int32 → Prop) (h : wp_X1_gaveTo m0 x1 x2 post) : Met l yX1_gaveTo (Cond.code yX1_gaveTo cX1_gaveTo 3 (some .int) :: gt) ({ frames := 0, cells := 0, slots := 0, locals := 0 }) (va_Pc [.ref (q0 0), .int x1, .int x2] (PRE (dC, dI) (TY cI cJ) (ww_X1 cI cJ q0 m0) sz)) (va_Qi (S := Unit) (fun (r : Int32) (_u : Unit) => post r) (fun _u t => AT (dC, dI) (TY cI cJ) (va_A (ww_X1 cI cJ q0 m0) sz) (ww_X1 cI cJ q0 m0) t) (va_A (ww_X1 cI cJ q0 m0) sz)) 0 0 (va_A (ww_X1 cI cJ q0 m0) sz) :=
  met_of (own := RX1) (Qf := fun A => va_Qi (S := Unit) (fun (r : Int32) (_u : Unit) => post r) (fun _u t => AT (dC, dI) (TY cI cJ) A (ww_X1 cI cJ q0 m0) t) A) (by decide) rfl (Nat.le_of_ble_eq_true rfl) rfl (fun p e s m below meth c A cx hA ls hP hD hS hl => w_X1_gaveTo_0 cx hA x1 x2 _ _ ls hP hD hS hl h)
theorem mv_X1_gaveTo : MV yX1_gaveTo cX1_gaveTo 3 (some .int) 2 := ⟨⟨kw_430, kw_5, by decide +kernel⟩, kw_428, kw_429⟩
set_option maxHeartbeats 4000000 in
set_option maxRecDepth 100000 in
theorem w_X0_reckon_85 {p : Program} {l : Launch} {e : Env} {s : State} {m : MethodId} {args : Array Value} {below : List Frame} {meth : Method} {c : Code} {dC : Nat → ClassId} {dI : Nat → Nat → Nat} {cI cJ : ClassId} {A : Nat → Prop} (cx : CX RX0 cX0_reckon none 7 p s m args meth c (dC, dI) (TY cI cJ)) (hA : ∀ q, s.heap.size ≤ q → A q) {q0 : Nat → Nat} {q1 : Nat → Nat} {m1 : Mem} {post : MemL → Prop} : ∀ (n : Nat) (x6 : Int32) (m0 : MemL) (H : Heap) (locs : List Loc) (ls : Array Slot), va_P (dC, dI) vwCl (ww_X0_X1 cI cJ q0 m0 q1 m1) H → va_D A (ww_X0_X1 cI cJ q0 m0 q1 m1) → va_S A s.heap H locs → lv_has ls 7 [(0, .ref (q0 0)), (6, .int x6)] → b_X0_reckon_85 m1 post n x6 m0 → W p l e ({ frames := 1, cells := 0, slots := 0, locals := 25 }) s m args below meth c H locs 0 0 (MQ below (va_Qv (S := MemL) (fun (u : MemL) => post u) (fun u t => AT (dC, dI) (TY cI cJ) A (ww_X0_X1 cI cJ q0 u q1 m1) t) A) args s 0 0 A) (F0 m 85 ls []) := by
  obtain ⟨hx, hb, hr, hml, hown, hts, hlocks, hK⟩ := id cx
  have cx' : CX RX0 cX0_reckon (meth.sig.returnType) 7 p s m args meth c (dC, dI) (TY cI cJ) := ⟨hx, hb, rfl, hml, hown, hts, hlocks, hK⟩
  intro n
  induction n with
  | zero =>
    intro x6 m0 H locs ls hP hD hS hl h
    exact False.elim h
  | succ n ih =>
    intro x6 m0 H locs ls hP hD hS hl h
    unfold b_X0_reckon_85 at h
    refine lv_iload hx hb dX0_reckon_85 (lv_at hl 1 rfl) ?_
    refine lv_bipush (v := 88) hx hb dX0_reckon_87 (by decide) ?_
    refine lv_icmp_gt (tgt := 114) hx hb dX0_reckon_89 (by decide) (fun c_1 => ?_) (fun c_1 => ?_)
    · have h := h.1 c_1
      refine lv_aload_n hx hb dX0_reckon_114 rfl (lv_at hl 0 rfl) ?_
      refine callP_v (wc := ww_X0 cI cJ q0 m0) (wr_X0_X1_2_3_4_5_6_7_8_9 cI cJ q0 m0 q1 m1) (fun (u : MemL) => ww_X0_X1 cI cJ q0 u q1 m1) [0, 1] [2, 3, 4, 5, 6, 7, 8, 9] [8, 9, 0, 1, 2, 3, 4, 5, 6, 7] rfl rfl rfl (by decide) (fun _ => rfl) rfl hP hD hS hA (fun hPc hDc => run_V (As := []) (rest := []) cx' (c_X0_reduce l H.size q0 m0 _ h) mv_X0_reduce kw_596 rfl rfl ⟨Nat.le_of_ble_eq_true rfl, Nat.le_of_ble_eq_true rfl⟩ hPc hDc rfl rfl rfl hl.1 rfl (Nat.le_of_ble_eq_true rfl) dX0_reckon_115 ⟨Nat.zero_le _, Nat.zero_le _⟩) rfl (fun u9 H locs hP hD hS h => ?_)
      obtain ⟨m0_2, rfl⟩ : ∃ z, z = u9 := ⟨_, rfl⟩
      have hP : va_P (dC, dI) vwCl (ww_X0_X1 cI cJ q0 m0_2 q1 m1) H := hP
      have hD : va_D A (ww_X0_X1 cI cJ q0 m0_2 q1 m1) := hD
      exact rt_v (u := m0_2) cx hP hD hS h dX0_reckon_118
    have h := h.2 c_1
    refine lv_aload_n hx hb dX0_reckon_92 rfl (lv_at hl 0 rfl) ?_
    refine lv_dup hx hb dX0_reckon_93 rfl ?_
    refine gf_v (k := 1) (v := .long (m0 0 1)) cx' hP 0 i_X0 rfl rfl (by decide) kw_198 rfl rfl dX0_reckon_94 ?_
    refine lv_aload_n hx hb dX0_reckon_97 rfl (lv_at hl 0 rfl) ?_
    refine gf_v (k := 0) (v := .ref (q0 1)) cx' hP 0 i_X0 rfl rfl (by decide) kw_197 rfl rfl dX0_reckon_98 ?_
    refine lv_iload hx hb dX0_reckon_101 (lv_at hl 1 rfl) ?_
    refine va_lald hx hb hK hP 1 1 rfl rfl h.1 dX0_reckon_103 ?_
    have h := h.2
    refine lv_ladd hx hb dX0_reckon_104 ?_
    obtain ⟨m0_3, em0_3⟩ : ∃ z : MemL, z = up2L m0 0 1 ((m0 0 1) + (m0 1 (Int32.toNatClampNeg x6))) := ⟨_, rfl⟩
    have h := h m0_3 em0_3
    refine pf_v (k := 1) (tf := .long) cx' hP hD hS 0 (ww_X0_X1 cI cJ q0 m0_3 q1 m1) i_X0 tyX0 tyX0_ok nmX0 rfl rfl (by decide) kw_198 rfl rfl rfl rfl rfl (Nat.le_of_ble_eq_true rfl) dX0_reckon_105 (by subst em0_3; rfl) (fun H locs hP hD hS => ?_)
    obtain ⟨x6_4, ex6_4⟩ : ∃ z : Int32, z = x6 + 1 := ⟨_, rfl⟩
    have h := h x6_4 ex6_4
    refine lv_iinc (v := x6_4) (lv' := [(6, .int x6_4), (0, .ref (q0 0))]) hx hb dX0_reckon_108 hl (k := 1) rfl (by rw [ex6_4]; rfl) (by decide) rfl (fun ls hl => ?_)
    refine lv_goto (tgt := 85) hx hb dX0_reckon_111 (by decide) ?_
    exact ih x6_4 m0_3 H locs ls hP hD hS (lv_sub hl [1, 0] rfl) h
set_option maxHeartbeats 4000000 in
set_option maxRecDepth 100000 in
theorem w_X0_reckon_44 {p : Program} {l : Launch} {e : Env} {s : State} {m : MethodId} {args : Array Value} {below : List Frame} {meth : Method} {c : Code} {dC : Nat → ClassId} {dI : Nat → Nat → Nat} {cI cJ : ClassId} {A : Nat → Prop} (cx : CX RX0 cX0_reckon none 7 p s m args meth c (dC, dI) (TY cI cJ)) (hA : ∀ q, s.heap.size ≤ q → A q) {q0 : Nat → Nat} {q1 : Nat → Nat} {m1 : Mem} {post : MemL → Prop} : ∀ (n : Nat) (x1 : Int32) (x3 : Int32) (x4 : Int32) (x5 : Int32) (x6 : Int32) (m0 : MemL) (H : Heap) (locs : List Loc) (ls : Array Slot), va_P (dC, dI) vwCl (ww_X0_X1 cI cJ q0 m0 q1 m1) H → va_D A (ww_X0_X1 cI cJ q0 m0 q1 m1) → va_S A s.heap H locs → lv_has ls 7 [(0, .ref (q0 0)), (1, .int x1), (2, .ref (q1 0)), (3, .int x3), (4, .int x4), (5, .int x5), (6, .int x6)] → b_X0_reckon_44 m1 post n x1 x3 x4 x5 x6 m0 → W p l e ({ frames := 1, cells := 0, slots := 0, locals := 25 }) s m args below meth c H locs 0 0 (MQ below (va_Qv (S := MemL) (fun (u : MemL) => post u) (fun u t => AT (dC, dI) (TY cI cJ) A (ww_X0_X1 cI cJ q0 u q1 m1) t) A) args s 0 0 A) (F0 m 44 ls []) := by
  obtain ⟨hx, hb, hr, hml, hown, hts, hlocks, hK⟩ := id cx
  have cx' : CX RX0 cX0_reckon (meth.sig.returnType) 7 p s m args meth c (dC, dI) (TY cI cJ) := ⟨hx, hb, rfl, hml, hown, hts, hlocks, hK⟩
  intro n
  induction n with
  | zero =>
    intro x1 x3 x4 x5 x6 m0 H locs ls hP hD hS hl h
    exact False.elim h
  | succ n ih =>
    intro x1 x3 x4 x5 x6 m0 H locs ls hP hD hS hl h
    unfold b_X0_reckon_44 at h
    refine lv_iload hx hb dX0_reckon_44 (lv_at hl 6 rfl) ?_
    refine lv_iload hx hb dX0_reckon_46 (lv_at hl 4 rfl) ?_
    refine lv_icmp_ge (tgt := 81) hx hb dX0_reckon_48 (by decide) (fun c_1 => ?_) (fun c_1 => ?_)
    · have h := h.1 c_1
      refine lv_iload hx hb dX0_reckon_81 (lv_at hl 5 rfl) ?_
      refine lv_istore (lv' := [(6, .int x5), (0, .ref (q0 0)), (1, .int x1), (2, .ref (q1 0)), (3, .int x3), (4, .int x4), (5, .int x5)]) hx hb dX0_reckon_83 hl (by decide) rfl (fun ls hl => ?_)
      obtain ⟨n_2, h⟩ := h
      exact w_X0_reckon_85 cx hA n_2 x5 m0 H locs ls hP hD hS (lv_sub hl [1, 0] rfl) h
    have h := h.2 c_1
    refine lv_aload_n hx hb dX0_reckon_51 rfl (lv_at hl 0 rfl) ?_
    refine lv_iload_n hx hb dX0_reckon_52 rfl (lv_at hl 1 rfl) ?_
    refine lv_aload_n hx hb dX0_reckon_53 rfl (lv_at hl 2 rfl) ?_
    refine lv_iload hx hb dX0_reckon_54 (lv_at hl 6 rfl) ?_
    refine lv_iload_n hx hb dX0_reckon_56 rfl (lv_at hl 3 rfl) ?_
    refine callP_i (wc := ww_X1 cI cJ q1 m1) (wr_X0_X1_0_1 cI cJ q0 m0 q1 m1) (fun (_u : Unit) => ww_X0_X1 cI cJ q0 m0 q1 m1) [2, 3, 4, 5, 6, 7, 8, 9] [0, 1] [0, 1, 2, 3, 4, 5, 6, 7, 8, 9] rfl rfl rfl (by decide) (fun _ => rfl) rfl hP hD hS hA (fun hPc hDc => run_V (As := [.int x6, .int x3]) (rest := [.int x1, .ref (q0 0)]) cx' (c_X1_gaveTo l H.size q1 m1 x6 x3 _ h) mv_X1_gaveTo kw_590 rfl rfl ⟨Nat.le_of_ble_eq_true rfl, Nat.le_of_ble_eq_true rfl⟩ hPc hDc rfl rfl rfl hl.1 rfl (Nat.le_of_ble_eq_true rfl) dX0_reckon_57 ⟨Nat.zero_le _, Nat.zero_le _⟩) rfl (fun r_3 u9 H locs hP hD hS h => ?_)
    have hP : va_P (dC, dI) vwCl (ww_X0_X1 cI cJ q0 m0 q1 m1) H := hP
    have hD : va_D A (ww_X0_X1 cI cJ q0 m0 q1 m1) := hD
    refine callP_v (wc := ww_X0 cI cJ q0 m0) (wr_X0_X1_2_3_4_5_6_7_8_9 cI cJ q0 m0 q1 m1) (fun (u : MemL) => ww_X0_X1 cI cJ q0 u q1 m1) [0, 1] [2, 3, 4, 5, 6, 7, 8, 9] [8, 9, 0, 1, 2, 3, 4, 5, 6, 7] rfl rfl rfl (by decide) (fun _ => rfl) rfl hP hD hS hA (fun hPc hDc => run_V (As := [.int x1, .int r_3]) (rest := []) cx' (c_X0_join l H.size q0 m0 x1 r_3 _ h) mv_X0_join kw_591 rfl rfl ⟨Nat.le_of_ble_eq_true rfl, Nat.le_of_ble_eq_true rfl⟩ hPc hDc rfl rfl rfl hl.1 rfl (Nat.le_of_ble_eq_true rfl) dX0_reckon_60 ⟨Nat.zero_le _, Nat.zero_le _⟩) rfl (fun u9 H locs hP hD hS h => ?_)
    obtain ⟨m0_4, rfl⟩ : ∃ z, z = u9 := ⟨_, rfl⟩
    have hP : va_P (dC, dI) vwCl (ww_X0_X1 cI cJ q0 m0_4 q1 m1) H := hP
    have hD : va_D A (ww_X0_X1 cI cJ q0 m0_4 q1 m1) := hD
    refine lv_aload_n hx hb dX0_reckon_63 rfl (lv_at hl 0 rfl) ?_
    refine lv_dup hx hb dX0_reckon_64 rfl ?_
    refine gf_v (k := 2) (v := .long (m0_4 0 2)) cx' hP 0 i_X0 rfl rfl (by decide) kw_200 rfl rfl dX0_reckon_65 ?_
    refine lv_ldc2 hx hb hown (hts _ kw_595) dX0_reckon_68 ?_
    refine lv_lmul hx hb dX0_reckon_71 ?_
    obtain ⟨m0_5, em0_5⟩ : ∃ z : MemL, z = up2L m0_4 0 2 ((m0_4 0 2) * 16) := ⟨_, rfl⟩
    have h := h m0_5 em0_5
    refine pf_v (k := 2) (tf := .long) cx' hP hD hS 0 (ww_X0_X1 cI cJ q0 m0_5 q1 m1) i_X0 tyX0 tyX0_ok nmX0 rfl rfl (by decide) kw_200 rfl rfl rfl rfl rfl (Nat.le_of_ble_eq_true rfl) dX0_reckon_72 (by subst em0_5; rfl) (fun H locs hP hD hS => ?_)
    obtain ⟨x6_6, ex6_6⟩ : ∃ z : Int32, z = x6 + 1 := ⟨_, rfl⟩
    have h := h x6_6 ex6_6
    refine lv_iinc (v := x6_6) (lv' := [(6, .int x6_6), (0, .ref (q0 0)), (1, .int x1), (2, .ref (q1 0)), (3, .int x3), (4, .int x4), (5, .int x5)]) hx hb dX0_reckon_75 hl (k := 6) rfl (by rw [ex6_6]; rfl) (by decide) rfl (fun ls hl => ?_)
    refine lv_goto (tgt := 44) hx hb dX0_reckon_78 (by decide) ?_
    exact ih x1 x3 x4 x5 x6_6 m0_5 H locs ls hP hD hS (lv_sub hl [1, 2, 3, 4, 5, 6, 0] rfl) h
set_option maxHeartbeats 4000000 in
set_option maxRecDepth 100000 in
theorem w_X0_reckon_3 {p : Program} {l : Launch} {e : Env} {s : State} {m : MethodId} {args : Array Value} {below : List Frame} {meth : Method} {c : Code} {dC : Nat → ClassId} {dI : Nat → Nat → Nat} {cI cJ : ClassId} {A : Nat → Prop} (cx : CX RX0 cX0_reckon none 7 p s m args meth c (dC, dI) (TY cI cJ)) (hA : ∀ q, s.heap.size ≤ q → A q) {q0 : Nat → Nat} {q1 : Nat → Nat} {m1 : Mem} {post : MemL → Prop} : ∀ (n : Nat) (x1 : Int32) (x3 : Int32) (x4 : Int32) (x5 : Int32) (x6 : Int32) (m0 : MemL) (H : Heap) (locs : List Loc) (ls : Array Slot), va_P (dC, dI) vwCl (ww_X0_X1 cI cJ q0 m0 q1 m1) H → va_D A (ww_X0_X1 cI cJ q0 m0 q1 m1) → va_S A s.heap H locs → lv_has ls 7 [(0, .ref (q0 0)), (1, .int x1), (2, .ref (q1 0)), (3, .int x3), (4, .int x4), (5, .int x5), (6, .int x6)] → b_X0_reckon_3 m1 post n x1 x3 x4 x5 x6 m0 → W p l e ({ frames := 1, cells := 0, slots := 0, locals := 25 }) s m args below meth c H locs 0 0 (MQ below (va_Qv (S := MemL) (fun (u : MemL) => post u) (fun u t => AT (dC, dI) (TY cI cJ) A (ww_X0_X1 cI cJ q0 u q1 m1) t) A) args s 0 0 A) (F0 m 3 ls []) := by
  obtain ⟨hx, hb, hr, hml, hown, hts, hlocks, hK⟩ := id cx
  have cx' : CX RX0 cX0_reckon (meth.sig.returnType) 7 p s m args meth c (dC, dI) (TY cI cJ) := ⟨hx, hb, rfl, hml, hown, hts, hlocks, hK⟩
  intro n
  induction n with
  | zero =>
    intro x1 x3 x4 x5 x6 m0 H locs ls hP hD hS hl h
    exact False.elim h
  | succ n ih =>
    intro x1 x3 x4 x5 x6 m0 H locs ls hP hD hS hl h
    unfold b_X0_reckon_3 at h
    refine lv_iload hx hb dX0_reckon_3 (lv_at hl 6 rfl) ?_
    refine lv_bipush (v := 88) hx hb dX0_reckon_5 (by decide) ?_
    refine lv_icmp_gt (tgt := 24) hx hb dX0_reckon_7 (by decide) (fun c_1 => ?_) (fun c_1 => ?_)
    · have h := h.1 c_1
      refine lv_aload_n hx hb dX0_reckon_24 rfl (lv_at hl 0 rfl) ?_
      refine gf_v (k := 0) (v := .ref (q0 1)) cx' hP 0 i_X0 rfl rfl (by decide) kw_197 rfl rfl dX0_reckon_25 ?_
      refine lv_iconst (v := 0) hx hb dX0_reckon_28 (by decide) ?_
      refine lv_lconst (v := 1) hx hb dX0_reckon_29 (by decide) ?_
      obtain ⟨m0_2, em0_2⟩ : ∃ z : MemL, z = up2L m0 1 (Int32.toNatClampNeg 0) 1 := ⟨_, rfl⟩
      have h1 := h.1
      have h := h.2 m0_2 em0_2
      refine st_l hx hb hK hP hD hS 1 1 (ww_X0_X1 cI cJ q0 m0_2 q1 m1) rfl rfl h1 dX0_reckon_30 (by subst em0_2; rfl) (fun H locs hP hD hS => ?_)
      refine lv_aload_n hx hb dX0_reckon_31 rfl (lv_at hl 0 rfl) ?_
      refine lv_lconst (v := 0) hx hb dX0_reckon_32 (by decide) ?_
      obtain ⟨m0_3, em0_3⟩ : ∃ z : MemL, z = up2L m0_2 0 1 0 := ⟨_, rfl⟩
      have h := h m0_3 em0_3
      refine pf_v (k := 1) (tf := .long) cx' hP hD hS 0 (ww_X0_X1 cI cJ q0 m0_3 q1 m1) i_X0 tyX0 tyX0_ok nmX0 rfl rfl (by decide) kw_198 rfl rfl rfl rfl rfl (Nat.le_of_ble_eq_true rfl) dX0_reckon_33 (by subst em0_3; rfl) (fun H locs hP hD hS => ?_)
      refine lv_aload_n hx hb dX0_reckon_36 rfl (lv_at hl 0 rfl) ?_
      refine lv_lconst (v := 1) hx hb dX0_reckon_37 (by decide) ?_
      obtain ⟨m0_4, em0_4⟩ : ∃ z : MemL, z = up2L m0_3 0 2 1 := ⟨_, rfl⟩
      have h := h m0_4 em0_4
      refine pf_v (k := 2) (tf := .long) cx' hP hD hS 0 (ww_X0_X1 cI cJ q0 m0_4 q1 m1) i_X0 tyX0 tyX0_ok nmX0 rfl rfl (by decide) kw_200 rfl rfl rfl rfl rfl (Nat.le_of_ble_eq_true rfl) dX0_reckon_38 (by subst em0_4; rfl) (fun H locs hP hD hS => ?_)
      refine lv_iconst (v := 0) hx hb dX0_reckon_41 (by decide) ?_
      refine lv_istore (lv' := [(6, .int 0), (0, .ref (q0 0)), (1, .int x1), (2, .ref (q1 0)), (3, .int x3), (4, .int x4), (5, .int x5)]) hx hb dX0_reckon_42 hl (by decide) rfl (fun ls hl => ?_)
      obtain ⟨n_5, h⟩ := h
      exact w_X0_reckon_44 cx hA n_5 x1 x3 x4 x5 0 m0_4 H locs ls hP hD hS (lv_sub hl [1, 2, 3, 4, 5, 6, 0] rfl) h
    have h := h.2 c_1
    refine lv_aload_n hx hb dX0_reckon_10 rfl (lv_at hl 0 rfl) ?_
    refine gf_v (k := 0) (v := .ref (q0 1)) cx' hP 0 i_X0 rfl rfl (by decide) kw_197 rfl rfl dX0_reckon_11 ?_
    refine lv_iload hx hb dX0_reckon_14 (lv_at hl 6 rfl) ?_
    refine lv_lconst (v := 0) hx hb dX0_reckon_16 (by decide) ?_
    obtain ⟨m0_6, em0_6⟩ : ∃ z : MemL, z = up2L m0 1 (Int32.toNatClampNeg x6) 0 := ⟨_, rfl⟩
    have h1 := h.1
    have h := h.2 m0_6 em0_6
    refine st_l hx hb hK hP hD hS 1 1 (ww_X0_X1 cI cJ q0 m0_6 q1 m1) rfl rfl h1 dX0_reckon_17 (by subst em0_6; rfl) (fun H locs hP hD hS => ?_)
    obtain ⟨x6_7, ex6_7⟩ : ∃ z : Int32, z = x6 + 1 := ⟨_, rfl⟩
    have h := h x6_7 ex6_7
    refine lv_iinc (v := x6_7) (lv' := [(6, .int x6_7), (0, .ref (q0 0)), (1, .int x1), (2, .ref (q1 0)), (3, .int x3), (4, .int x4), (5, .int x5)]) hx hb dX0_reckon_18 hl (k := 6) rfl (by rw [ex6_7]; rfl) (by decide) rfl (fun ls hl => ?_)
    refine lv_goto (tgt := 3) hx hb dX0_reckon_21 (by decide) ?_
    exact ih x1 x3 x4 x5 x6_7 m0_6 H locs ls hP hD hS (lv_sub hl [1, 2, 3, 4, 5, 6, 0] rfl) h
set_option maxHeartbeats 4000000 in
set_option maxRecDepth 100000 in
theorem w_X0_reckon_0 {p : Program} {l : Launch} {e : Env} {s : State} {m : MethodId} {args : Array Value} {below : List Frame} {meth : Method} {c : Code} {dC : Nat → ClassId} {dI : Nat → Nat → Nat} {cI cJ : ClassId} {A : Nat → Prop} (cx : CX RX0 cX0_reckon none 7 p s m args meth c (dC, dI) (TY cI cJ)) (hA : ∀ q, s.heap.size ≤ q → A q) {q0 : Nat → Nat} {q1 : Nat → Nat} {m1 : Mem} {post : MemL → Prop} : ∀ (x1 : Int32) (x3 : Int32) (x4 : Int32) (x5 : Int32) (m0 : MemL) (H : Heap) (locs : List Loc) (ls : Array Slot), va_P (dC, dI) vwCl (ww_X0_X1 cI cJ q0 m0 q1 m1) H → va_D A (ww_X0_X1 cI cJ q0 m0 q1 m1) → va_S A s.heap H locs → lv_has ls 7 [(0, .ref (q0 0)), (1, .int x1), (2, .ref (q1 0)), (3, .int x3), (4, .int x4), (5, .int x5)] → b_X0_reckon_0 m1 post x1 x3 x4 x5 m0 → W p l e ({ frames := 1, cells := 0, slots := 0, locals := 25 }) s m args below meth c H locs 0 0 (MQ below (va_Qv (S := MemL) (fun (u : MemL) => post u) (fun u t => AT (dC, dI) (TY cI cJ) A (ww_X0_X1 cI cJ q0 u q1 m1) t) A) args s 0 0 A) (F0 m 0 ls []) := by
  obtain ⟨hx, hb, hr, hml, hown, hts, hlocks, hK⟩ := id cx
  have cx' : CX RX0 cX0_reckon (meth.sig.returnType) 7 p s m args meth c (dC, dI) (TY cI cJ) := ⟨hx, hb, rfl, hml, hown, hts, hlocks, hK⟩
  intro x1 x3 x4 x5 m0 H locs ls hP hD hS hl h
  unfold b_X0_reckon_0 at h
  refine lv_iconst (v := 0) hx hb dX0_reckon_0 (by decide) ?_
  refine lv_istore (lv' := [(6, .int 0), (0, .ref (q0 0)), (1, .int x1), (2, .ref (q1 0)), (3, .int x3), (4, .int x4), (5, .int x5)]) hx hb dX0_reckon_1 hl (by decide) rfl (fun ls hl => ?_)
  obtain ⟨n_1, h⟩ := h
  exact w_X0_reckon_3 cx hA n_1 x1 x3 x4 x5 0 m0 H locs ls hP hD hS (lv_sub hl [1, 2, 3, 4, 5, 6, 0] rfl) h
set_option maxRecDepth 100000 in
theorem c_X0_reckon (l : Launch) {dC : Nat → ClassId} {dI : Nat → Nat → Nat} {cI cJ : ClassId} (sz : Nat) (q0 : Nat → Nat) (m0 : MemL) (q1 : Nat → Nat) (m1 : Mem) (x1 : Int32) (x3 : Int32) (x4 : Int32) (x5 : Int32) (post : MemL → Prop) (h : wp_X0_reckon m0 m1 x1 x3 x4 x5 post) : Met l yX0_reckon (Cond.code yX0_reckon cX0_reckon 7 none :: gt) ({ frames := 1, cells := 0, slots := 0, locals := 25 }) (va_Pc [.ref (q0 0), .int x1, .ref (q1 0), .int x3, .int x4, .int x5] (PRE (dC, dI) (TY cI cJ) (ww_X0_X1 cI cJ q0 m0 q1 m1) sz)) (va_Qv (S := MemL) (fun (u : MemL) => post u) (fun u t => AT (dC, dI) (TY cI cJ) (va_A (ww_X0_X1 cI cJ q0 m0 q1 m1) sz) (ww_X0_X1 cI cJ q0 u q1 m1) t) (va_A (ww_X0_X1 cI cJ q0 m0 q1 m1) sz)) 0 0 (va_A (ww_X0_X1 cI cJ q0 m0 q1 m1) sz) :=
  met_of (own := RX0) (Qf := fun A => va_Qv (S := MemL) (fun (u : MemL) => post u) (fun u t => AT (dC, dI) (TY cI cJ) A (ww_X0_X1 cI cJ q0 u q1 m1) t) A) (by decide) rfl (Nat.le_of_ble_eq_true rfl) rfl (fun p e s m below meth c A cx hA ls hP hD hS hl => w_X0_reckon_0 cx hA x1 x3 x4 x5 m0 _ _ ls hP hD hS hl h)
theorem mv_X0_reckon : MV yX0_reckon cX0_reckon 7 none 5 := ⟨⟨kw_589, kw_8, by decide +kernel⟩, kw_587, kw_588⟩
set_option maxHeartbeats 4000000 in
set_option maxRecDepth 100000 in
theorem w_X1_enter_111 {p : Program} {l : Launch} {e : Env} {s : State} {m : MethodId} {args : Array Value} {below : List Frame} {meth : Method} {c : Code} {dC : Nat → ClassId} {dI : Nat → Nat → Nat} {cI cJ : ClassId} {A : Nat → Prop} (cx : CX RX1 cX1_enter none 4 p s m args meth c (dC, dI) (TY cI cJ)) (hA : ∀ q, s.heap.size ≤ q → A q) {q0 : Nat → Nat} {q1 : Nat → Nat} {m1 : Mem} {post : Mem → Prop} {k55 : Int32 → Int32 → Mem → Prop} (hk55 : ∀ (x1 : Int32) (x3 : Int32) (m0 : Mem) (H : Heap) (locs : List Loc) (ls : Array Slot), va_P (dC, dI) vwCl (ww_X1_X8 cI cJ q0 m0 q1 m1) H → va_D A (ww_X1_X8 cI cJ q0 m0 q1 m1) → va_S A s.heap H locs → lv_has ls 4 [(0, .ref (q0 0)), (1, .int x1), (2, .ref (q1 0)), (3, .int x3)] → k55 x1 x3 m0 → W p l e ({ frames := 0, cells := 0, slots := 0, locals := 0 }) s m args below meth c H locs 0 0 (MQ below (va_Qv (S := Mem) (fun (u : Mem) => post u) (fun u t => AT (dC, dI) (TY cI cJ) A (ww_X1_X8 cI cJ q0 u q1 m1) t) A) args s 0 0 A) (F0 m 55 ls [])) : ∀ (x1 : Int32) (x3 : Int32) (m0 : Mem) (H : Heap) (locs : List Loc) (ls : Array Slot), va_P (dC, dI) vwCl (ww_X1_X8 cI cJ q0 m0 q1 m1) H → va_D A (ww_X1_X8 cI cJ q0 m0 q1 m1) → va_S A s.heap H locs → lv_has ls 4 [(0, .ref (q0 0)), (1, .int x1), (2, .ref (q1 0)), (3, .int x3)] → b_X1_enter_111 m1 post k55 x1 x3 m0 → W p l e ({ frames := 0, cells := 0, slots := 0, locals := 0 }) s m args below meth c H locs 0 0 (MQ below (va_Qv (S := Mem) (fun (u : Mem) => post u) (fun u t => AT (dC, dI) (TY cI cJ) A (ww_X1_X8 cI cJ q0 u q1 m1) t) A) args s 0 0 A) (F0 m 111 ls []) := by
  obtain ⟨hx, hb, hr, hml, hown, hts, hlocks, hK⟩ := id cx
  have cx' : CX RX1 cX1_enter (meth.sig.returnType) 4 p s m args meth c (dC, dI) (TY cI cJ) := ⟨hx, hb, rfl, hml, hown, hts, hlocks, hK⟩
  intro x1 x3 m0 H locs ls hP hD hS hl h
  unfold b_X1_enter_111 at h
  obtain ⟨x3_1, ex3_1⟩ : ∃ z : Int32, z = x3 + 1 := ⟨_, rfl⟩
  have h := h x3_1 ex3_1
  refine lv_iinc (v := x3_1) (lv' := [(3, .int x3_1), (0, .ref (q0 0)), (1, .int x1), (2, .ref (q1 0))]) hx hb dX1_enter_111 hl (k := 3) rfl (by rw [ex3_1]; rfl) (by decide) rfl (fun ls hl => ?_)
  refine lv_goto (tgt := 55) hx hb dX1_enter_114 (by decide) ?_
  exact hk55 x1 x3_1 m0 H locs ls hP hD hS (lv_sub hl [1, 2, 3, 0] rfl) h
set_option maxHeartbeats 4000000 in
set_option maxRecDepth 100000 in
theorem w_X1_enter_55 {p : Program} {l : Launch} {e : Env} {s : State} {m : MethodId} {args : Array Value} {below : List Frame} {meth : Method} {c : Code} {dC : Nat → ClassId} {dI : Nat → Nat → Nat} {cI cJ : ClassId} {A : Nat → Prop} (cx : CX RX1 cX1_enter none 4 p s m args meth c (dC, dI) (TY cI cJ)) (hA : ∀ q, s.heap.size ≤ q → A q) {q0 : Nat → Nat} {q1 : Nat → Nat} {m1 : Mem} {post : Mem → Prop} : ∀ (n : Nat) (x1 : Int32) (x3 : Int32) (m0 : Mem) (H : Heap) (locs : List Loc) (ls : Array Slot), va_P (dC, dI) vwCl (ww_X1_X8 cI cJ q0 m0 q1 m1) H → va_D A (ww_X1_X8 cI cJ q0 m0 q1 m1) → va_S A s.heap H locs → lv_has ls 4 [(0, .ref (q0 0)), (1, .int x1), (2, .ref (q1 0)), (3, .int x3)] → b_X1_enter_55 m1 post n x1 x3 m0 → W p l e ({ frames := 0, cells := 0, slots := 0, locals := 0 }) s m args below meth c H locs 0 0 (MQ below (va_Qv (S := Mem) (fun (u : Mem) => post u) (fun u t => AT (dC, dI) (TY cI cJ) A (ww_X1_X8 cI cJ q0 u q1 m1) t) A) args s 0 0 A) (F0 m 55 ls []) := by
  obtain ⟨hx, hb, hr, hml, hown, hts, hlocks, hK⟩ := id cx
  have cx' : CX RX1 cX1_enter (meth.sig.returnType) 4 p s m args meth c (dC, dI) (TY cI cJ) := ⟨hx, hb, rfl, hml, hown, hts, hlocks, hK⟩
  intro n
  induction n with
  | zero =>
    intro x1 x3 m0 H locs ls hP hD hS hl h
    exact False.elim h
  | succ n ih =>
    intro x1 x3 m0 H locs ls hP hD hS hl h
    unfold b_X1_enter_55 at h
    refine lv_iload_n hx hb dX1_enter_55 rfl (lv_at hl 3 rfl) ?_
    refine lv_bipush (v := 8) hx hb dX1_enter_56 (by decide) ?_
    refine lv_icmp_ge (tgt := 117) hx hb dX1_enter_58 (by decide) (fun c_1 => ?_) (fun c_1 => ?_)
    · have h := h.1 c_1
      exact rt_v (u := m0) cx hP hD hS h dX1_enter_117
    have h := h.2 c_1
    refine lv_aload_n hx hb dX1_enter_61 rfl (lv_at hl 0 rfl) ?_
    refine gf_v (k := 0) (v := .ref (q0 1)) cx' hP 0 i_X1 rfl rfl (by decide) kw_122 rfl rfl dX1_enter_62 ?_
    refine lv_iload_n hx hb dX1_enter_65 rfl (lv_at hl 1 rfl) ?_
    refine lv_bipush (v := 8) hx hb dX1_enter_66 (by decide) ?_
    refine lv_imul hx hb dX1_enter_68 ?_
    refine lv_iload_n hx hb dX1_enter_69 rfl (lv_at hl 3 rfl) ?_
    refine lv_iadd hx hb dX1_enter_70 ?_
    refine lv_aload_n hx hb dX1_enter_71 rfl (lv_at hl 2 rfl) ?_
    refine gf_v (k := 0) (v := .ref (q1 1)) cx' hP 8 i_X8 rfl rfl (by decide) kw_217 rfl rfl dX1_enter_72 ?_
    refine lv_iload_n hx hb dX1_enter_75 rfl (lv_at hl 3 rfl) ?_
    refine va_iald hx hb hK hP 9 0 rfl rfl h.1 dX1_enter_76 ?_
    have h := h.2
    obtain ⟨m0_2, em0_2⟩ : ∃ z : Mem, z = up2 m0 1 (Int32.toNatClampNeg ((x1 * 8) + x3)) (m1 1 (Int32.toNatClampNeg x3)) := ⟨_, rfl⟩
    have h1 := h.1
    have h := h.2 m0_2 em0_2
    refine st_i hx hb hK hP hD hS 1 0 (ww_X1_X8 cI cJ q0 m0_2 q1 m1) rfl rfl h1 dX1_enter_77 (by subst em0_2; rfl) (fun H locs hP hD hS => ?_)
    refine lv_aload_n hx hb dX1_enter_78 rfl (lv_at hl 0 rfl) ?_
    refine gf_v (k := 5) (v := .ref (q0 6)) cx' hP 0 i_X1 rfl rfl (by decide) kw_131 rfl rfl dX1_enter_79 ?_
    refine lv_iload_n hx hb dX1_enter_82 rfl (lv_at hl 3 rfl) ?_
    refine lv_dup2_11 hx hb dX1_enter_83 rfl rfl ?_
    refine va_iald hx hb hK hP 6 0 rfl rfl h.1 dX1_enter_84 ?_
    have h := h.2
    refine lv_aload_n hx hb dX1_enter_85 rfl (lv_at hl 2 rfl) ?_
    refine gf_v (k := 0) (v := .ref (q1 1)) cx' hP 8 i_X8 rfl rfl (by decide) kw_217 rfl rfl dX1_enter_86 ?_
    refine lv_iload_n hx hb dX1_enter_89 rfl (lv_at hl 3 rfl) ?_
    refine va_iald hx hb hK hP 9 0 rfl rfl h.1 dX1_enter_90 ?_
    have h := h.2
    refine lv_iadd hx hb dX1_enter_91 ?_
    obtain ⟨m0_3, em0_3⟩ : ∃ z : Mem, z = up2 m0_2 6 (Int32.toNatClampNeg x3) ((m0_2 6 (Int32.toNatClampNeg x3)) + (m1 1 (Int32.toNatClampNeg x3))) := ⟨_, rfl⟩
    have h1 := h.1
    have h := h.2 m0_3 em0_3
    refine st_i hx hb hK hP hD hS 6 0 (ww_X1_X8 cI cJ q0 m0_3 q1 m1) rfl rfl h1 dX1_enter_92 (by subst em0_3; rfl) (fun H locs hP hD hS => ?_)
    refine lv_aload_n hx hb dX1_enter_93 rfl (lv_at hl 2 rfl) ?_
    refine gf_v (k := 1) (v := .int (m1 0 1)) cx' hP 8 i_X8 rfl rfl (by decide) kw_220 rfl rfl dX1_enter_94 ?_
    refine lv_iload_n hx hb dX1_enter_97 rfl (lv_at hl 3 rfl) ?_
    refine lv_icmp_ne (tgt := 111) hx hb dX1_enter_98 (by decide) (fun c_4 => ?_) (fun c_4 => ?_)
    · have h := h.1 c_4
      exact w_X1_enter_111 cx hA ih x1 x3 m0_3 H locs ls hP hD hS (lv_sub hl [0, 1, 2, 3] rfl) h
    have h := h.2 c_4
    refine lv_aload_n hx hb dX1_enter_101 rfl (lv_at hl 0 rfl) ?_
    refine gf_v (k := 6) (v := .ref (q0 7)) cx' hP 0 i_X1 rfl rfl (by decide) kw_133 rfl rfl dX1_enter_102 ?_
    refine lv_iload_n hx hb dX1_enter_105 rfl (lv_at hl 3 rfl) ?_
    refine lv_dup2_11 hx hb dX1_enter_106 rfl rfl ?_
    refine va_iald hx hb hK hP 7 0 rfl rfl h.1 dX1_enter_107 ?_
    have h := h.2
    refine lv_iconst (v := 1) hx hb dX1_enter_108 (by decide) ?_
    refine lv_iadd hx hb dX1_enter_109 ?_
    obtain ⟨m0_5, em0_5⟩ : ∃ z : Mem, z = up2 m0_3 7 (Int32.toNatClampNeg x3) ((m0_3 7 (Int32.toNatClampNeg x3)) + 1) := ⟨_, rfl⟩
    have h1 := h.1
    have h := h.2 m0_5 em0_5
    refine st_i hx hb hK hP hD hS 7 0 (ww_X1_X8 cI cJ q0 m0_5 q1 m1) rfl rfl h1 dX1_enter_110 (by subst em0_5; rfl) (fun H locs hP hD hS => ?_)
    exact w_X1_enter_111 cx hA ih x1 x3 m0_5 H locs ls hP hD hS (lv_sub hl [0, 1, 2, 3] rfl) h
set_option maxHeartbeats 4000000 in
set_option maxRecDepth 100000 in
theorem w_X1_enter_0 {p : Program} {l : Launch} {e : Env} {s : State} {m : MethodId} {args : Array Value} {below : List Frame} {meth : Method} {c : Code} {dC : Nat → ClassId} {dI : Nat → Nat → Nat} {cI cJ : ClassId} {A : Nat → Prop} (cx : CX RX1 cX1_enter none 4 p s m args meth c (dC, dI) (TY cI cJ)) (hA : ∀ q, s.heap.size ≤ q → A q) {q0 : Nat → Nat} {q1 : Nat → Nat} {m1 : Mem} {post : Mem → Prop} : ∀ (x1 : Int32) (m0 : Mem) (H : Heap) (locs : List Loc) (ls : Array Slot), va_P (dC, dI) vwCl (ww_X1_X8 cI cJ q0 m0 q1 m1) H → va_D A (ww_X1_X8 cI cJ q0 m0 q1 m1) → va_S A s.heap H locs → lv_has ls 4 [(0, .ref (q0 0)), (1, .int x1), (2, .ref (q1 0))] → b_X1_enter_0 m1 post x1 m0 → W p l e ({ frames := 0, cells := 0, slots := 0, locals := 0 }) s m args below meth c H locs 0 0 (MQ below (va_Qv (S := Mem) (fun (u : Mem) => post u) (fun u t => AT (dC, dI) (TY cI cJ) A (ww_X1_X8 cI cJ q0 u q1 m1) t) A) args s 0 0 A) (F0 m 0 ls []) := by
  obtain ⟨hx, hb, hr, hml, hown, hts, hlocks, hK⟩ := id cx
  have cx' : CX RX1 cX1_enter (meth.sig.returnType) 4 p s m args meth c (dC, dI) (TY cI cJ) := ⟨hx, hb, rfl, hml, hown, hts, hlocks, hK⟩
  intro x1 m0 H locs ls hP hD hS hl h
  unfold b_X1_enter_0 at h
  refine lv_aload_n hx hb dX1_enter_0 rfl (lv_at hl 0 rfl) ?_
  refine gf_v (k := 1) (v := .ref (q0 2)) cx' hP 0 i_X1 rfl rfl (by decide) kw_123 rfl rfl dX1_enter_1 ?_
  refine lv_iload_n hx hb dX1_enter_4 rfl (lv_at hl 1 rfl) ?_
  refine lv_aload_n hx hb dX1_enter_5 rfl (lv_at hl 2 rfl) ?_
  refine gf_v (k := 1) (v := .int (m1 0 1)) cx' hP 8 i_X8 rfl rfl (by decide) kw_220 rfl rfl dX1_enter_6 ?_
  obtain ⟨m0_1, em0_1⟩ : ∃ z : Mem, z = up2 m0 2 (Int32.toNatClampNeg x1) (m1 0 1) := ⟨_, rfl⟩
  have h1 := h.1
  have h := h.2 m0_1 em0_1
  refine st_i hx hb hK hP hD hS 2 0 (ww_X1_X8 cI cJ q0 m0_1 q1 m1) rfl rfl h1 dX1_enter_9 (by subst em0_1; rfl) (fun H locs hP hD hS => ?_)
  refine lv_aload_n hx hb dX1_enter_10 rfl (lv_at hl 0 rfl) ?_
  refine gf_v (k := 2) (v := .ref (q0 3)) cx' hP 0 i_X1 rfl rfl (by decide) kw_125 rfl rfl dX1_enter_11 ?_
  refine lv_iload_n hx hb dX1_enter_14 rfl (lv_at hl 1 rfl) ?_
  refine lv_aload_n hx hb dX1_enter_15 rfl (lv_at hl 2 rfl) ?_
  refine gf_v (k := 2) (v := .int (m1 0 2)) cx' hP 8 i_X8 rfl rfl (by decide) kw_223 rfl rfl dX1_enter_16 ?_
  obtain ⟨m0_2, em0_2⟩ : ∃ z : Mem, z = up2 m0_1 3 (Int32.toNatClampNeg x1) (m1 0 2) := ⟨_, rfl⟩
  have h1 := h.1
  have h := h.2 m0_2 em0_2
  refine st_i hx hb hK hP hD hS 3 0 (ww_X1_X8 cI cJ q0 m0_2 q1 m1) rfl rfl h1 dX1_enter_19 (by subst em0_2; rfl) (fun H locs hP hD hS => ?_)
  refine lv_aload_n hx hb dX1_enter_20 rfl (lv_at hl 0 rfl) ?_
  refine gf_v (k := 3) (v := .ref (q0 4)) cx' hP 0 i_X1 rfl rfl (by decide) kw_127 rfl rfl dX1_enter_21 ?_
  refine lv_iload_n hx hb dX1_enter_24 rfl (lv_at hl 1 rfl) ?_
  refine lv_aload_n hx hb dX1_enter_25 rfl (lv_at hl 2 rfl) ?_
  refine gf_v (k := 3) (v := .int (m1 0 3)) cx' hP 8 i_X8 rfl rfl (by decide) kw_225 rfl rfl dX1_enter_26 ?_
  obtain ⟨m0_3, em0_3⟩ : ∃ z : Mem, z = up2 m0_2 4 (Int32.toNatClampNeg x1) (m1 0 3) := ⟨_, rfl⟩
  have h1 := h.1
  have h := h.2 m0_3 em0_3
  refine st_i hx hb hK hP hD hS 4 0 (ww_X1_X8 cI cJ q0 m0_3 q1 m1) rfl rfl h1 dX1_enter_29 (by subst em0_3; rfl) (fun H locs hP hD hS => ?_)
  refine lv_aload_n hx hb dX1_enter_30 rfl (lv_at hl 0 rfl) ?_
  refine gf_v (k := 4) (v := .ref (q0 5)) cx' hP 0 i_X1 rfl rfl (by decide) kw_129 rfl rfl dX1_enter_31 ?_
  refine lv_iload_n hx hb dX1_enter_34 rfl (lv_at hl 1 rfl) ?_
  refine lv_aload_n hx hb dX1_enter_35 rfl (lv_at hl 2 rfl) ?_
  refine gf_v (k := 4) (v := .int (m1 0 4)) cx' hP 8 i_X8 rfl rfl (by decide) kw_227 rfl rfl dX1_enter_36 ?_
  obtain ⟨m0_4, em0_4⟩ : ∃ z : Mem, z = up2 m0_3 5 (Int32.toNatClampNeg x1) (m1 0 4) := ⟨_, rfl⟩
  have h1 := h.1
  have h := h.2 m0_4 em0_4
  refine st_i hx hb hK hP hD hS 5 0 (ww_X1_X8 cI cJ q0 m0_4 q1 m1) rfl rfl h1 dX1_enter_39 (by subst em0_4; rfl) (fun H locs hP hD hS => ?_)
  refine lv_aload_n hx hb dX1_enter_40 rfl (lv_at hl 0 rfl) ?_
  refine lv_dup hx hb dX1_enter_41 rfl ?_
  refine gf_v (k := 7) (v := .int (m0_4 0 7)) cx' hP 0 i_X1 rfl rfl (by decide) kw_135 rfl rfl dX1_enter_42 ?_
  refine lv_aload_n hx hb dX1_enter_45 rfl (lv_at hl 2 rfl) ?_
  refine gf_v (k := 5) (v := .int (m1 0 5)) cx' hP 8 i_X8 rfl rfl (by decide) kw_229 rfl rfl dX1_enter_46 ?_
  refine lv_ior hx hb dX1_enter_49 ?_
  obtain ⟨m0_5, em0_5⟩ : ∃ z : Mem, z = up2 m0_4 0 7 ((m0_4 0 7) ||| (m1 0 5)) := ⟨_, rfl⟩
  have h := h m0_5 em0_5
  refine pf_v (k := 7) (tf := .int) cx' hP hD hS 0 (ww_X1_X8 cI cJ q0 m0_5 q1 m1) i_X1 tyX1 tyX1_ok nmX1 rfl rfl (by decide) kw_135 rfl rfl rfl rfl rfl (Nat.le_of_ble_eq_true rfl) dX1_enter_50 (by subst em0_5; rfl) (fun H locs hP hD hS => ?_)
  refine lv_iconst (v := 0) hx hb dX1_enter_53 (by decide) ?_
  refine lv_istore_n (lv' := [(3, .int 0), (0, .ref (q0 0)), (1, .int x1), (2, .ref (q1 0))]) hx hb dX1_enter_54 rfl hl (by decide) rfl (fun ls hl => ?_)
  obtain ⟨n_6, h⟩ := h
  exact w_X1_enter_55 cx hA n_6 x1 0 m0_5 H locs ls hP hD hS (lv_sub hl [1, 2, 3, 0] rfl) h
set_option maxRecDepth 100000 in
theorem c_X1_enter (l : Launch) {dC : Nat → ClassId} {dI : Nat → Nat → Nat} {cI cJ : ClassId} (sz : Nat) (q0 : Nat → Nat) (m0 : Mem) (q1 : Nat → Nat) (m1 : Mem) (x1 : Int32) (post : Mem → Prop) (h : wp_X1_enter m0 m1 x1 post) : Met l yX1_enter (Cond.code yX1_enter cX1_enter 4 none :: gt) ({ frames := 0, cells := 0, slots := 0, locals := 0 }) (va_Pc [.ref (q0 0), .int x1, .ref (q1 0)] (PRE (dC, dI) (TY cI cJ) (ww_X1_X8 cI cJ q0 m0 q1 m1) sz)) (va_Qv (S := Mem) (fun (u : Mem) => post u) (fun u t => AT (dC, dI) (TY cI cJ) (va_A (ww_X1_X8 cI cJ q0 m0 q1 m1) sz) (ww_X1_X8 cI cJ q0 u q1 m1) t) (va_A (ww_X1_X8 cI cJ q0 m0 q1 m1) sz)) 0 0 (va_A (ww_X1_X8 cI cJ q0 m0 q1 m1) sz) :=
  met_of (own := RX1) (Qf := fun A => va_Qv (S := Mem) (fun (u : Mem) => post u) (fun u t => AT (dC, dI) (TY cI cJ) A (ww_X1_X8 cI cJ q0 u q1 m1) t) A) (by decide) rfl (Nat.le_of_ble_eq_true rfl) rfl (fun p e s m below meth c A cx hA ls hP hD hS hl => w_X1_enter_0 cx hA x1 m0 _ _ ls hP hD hS hl h)
theorem mv_X1_enter : MV yX1_enter cX1_enter 4 none 2 := ⟨⟨kw_385, kw_5, by decide +kernel⟩, kw_383, kw_384⟩
set_option maxHeartbeats 4000000 in
set_option maxRecDepth 100000 in
theorem w_X4_isEmpty_0 {p : Program} {l : Launch} {e : Env} {s : State} {m : MethodId} {args : Array Value} {below : List Frame} {meth : Method} {c : Code} {dC : Nat → ClassId} {dI : Nat → Nat → Nat} {cI cJ : ClassId} {A : Nat → Prop} (cx : CX RX4 cX4_isEmpty (some .boolean) 2 p s m args meth c (dC, dI) (TY cI cJ)) (hA : ∀ q, s.heap.size ≤ q → A q) {q0 : Nat → Nat} {m0 : Mem} {post : Int32 → Prop} : ∀ (x1 : Int32) (H : Heap) (locs : List Loc) (ls : Array Slot), va_P (dC, dI) vwCl (ww_X4 cI cJ q0 m0) H → va_D A (ww_X4 cI cJ q0 m0) → va_S A s.heap H locs → lv_has ls 2 [(0, .ref (q0 0)), (1, .int x1)] → b_X4_isEmpty_0 m0 post x1 → W p l e ({ frames := 0, cells := 0, slots := 0, locals := 0 }) s m args below meth c H locs 0 0 (MQ below (va_Qi (S := Unit) (fun (r : Int32) (_u : Unit) => post r) (fun _u t => AT (dC, dI) (TY cI cJ) A (ww_X4 cI cJ q0 m0) t) A) args s 0 0 A) (F0 m 0 ls []) := by
  obtain ⟨hx, hb, hr, hml, hown, hts, hlocks, hK⟩ := id cx
  have cx' : CX RX4 cX4_isEmpty (meth.sig.returnType) 2 p s m args meth c (dC, dI) (TY cI cJ) := ⟨hx, hb, rfl, hml, hown, hts, hlocks, hK⟩
  intro x1 H locs ls hP hD hS hl h
  unfold b_X4_isEmpty_0 at h
  refine lv_aload_n hx hb dX4_isEmpty_0 rfl (lv_at hl 0 rfl) ?_
  refine gf_v (k := 6) (v := .int (m0 0 6)) cx' hP 0 i_X4 rfl rfl (by decide) kw_67 rfl rfl dX4_isEmpty_1 ?_
  refine lv_iload_n hx hb dX4_isEmpty_4 rfl (lv_at hl 1 rfl) ?_
  refine lv_ishr hx hb dX4_isEmpty_5 ?_
  refine lv_iconst (v := 1) hx hb dX4_isEmpty_6 (by decide) ?_
  refine lv_iand hx hb dX4_isEmpty_7 ?_
  refine dia_i (ls := ls) (c0 := (((m0 0 6) >>> (x1 &&& 31)) &&& 1) = 0) (a := 0) (b := 1) (J := 16) (rest := []) (fun K => ?_) (fun v_2 ev_2 => ?_)
  · refine lv_if_eq (tgt := 15) hx hb dX4_isEmpty_8 (by decide) (fun c_1 => ?_) (fun c_1 => ?_)
    · refine lv_iconst (v := 0) hx hb dX4_isEmpty_15 (by decide) ?_
      exact K _ (Or.inl ⟨c_1, rfl⟩)
    · refine lv_iconst (v := 1) hx hb dX4_isEmpty_11 (by decide) ?_
      refine lv_goto (tgt := 16) hx hb dX4_isEmpty_12 (by decide) ?_
      exact K _ (Or.inr ⟨c_1, rfl⟩)
  have h := h v_2 ev_2
  exact rt_z (v := v_2) (u := ()) cx h.1 hP hD hS h.2 dX4_isEmpty_16
set_option maxRecDepth 100000 in
theorem c_X4_isEmpty (l : Launch) {dC : Nat → ClassId} {dI : Nat → Nat → Nat} {cI cJ : ClassId} (sz : Nat) (q0 : Nat → Nat) (m0 : Mem) (x1 : Int32) (post : Int32 → Prop) (h : wp_X4_isEmpty m0 x1 post) : Met l yX4_isEmpty (Cond.code yX4_isEmpty cX4_isEmpty 2 (some .boolean) :: gt) ({ frames := 0, cells := 0, slots := 0, locals := 0 }) (va_Pc [.ref (q0 0), .int x1] (PRE (dC, dI) (TY cI cJ) (ww_X4 cI cJ q0 m0) sz)) (va_Qi (S := Unit) (fun (r : Int32) (_u : Unit) => post r) (fun _u t => AT (dC, dI) (TY cI cJ) (va_A (ww_X4 cI cJ q0 m0) sz) (ww_X4 cI cJ q0 m0) t) (va_A (ww_X4 cI cJ q0 m0) sz)) 0 0 (va_A (ww_X4 cI cJ q0 m0) sz) :=
  met_of (own := RX4) (Qf := fun A => va_Qi (S := Unit) (fun (r : Int32) (_u : Unit) => post r) (fun _u t => AT (dC, dI) (TY cI cJ) A (ww_X4 cI cJ q0 m0) t) A) (by decide) rfl (Nat.le_of_ble_eq_true rfl) rfl (fun p e s m below meth c A cx hA ls hP hD hS hl => w_X4_isEmpty_0 cx hA x1 _ _ ls hP hD hS hl h)
theorem mv_X4_isEmpty : MV yX4_isEmpty cX4_isEmpty 2 (some .boolean) 1 := ⟨⟨kw_377, kw_3, by decide +kernel⟩, kw_375, kw_376⟩
set_option maxHeartbeats 4000000 in
set_option maxRecDepth 100000 in
theorem w_X8_clear_2 {p : Program} {l : Launch} {e : Env} {s : State} {m : MethodId} {args : Array Value} {below : List Frame} {meth : Method} {c : Code} {dC : Nat → ClassId} {dI : Nat → Nat → Nat} {cI cJ : ClassId} {A : Nat → Prop} (cx : CX RX8 cX8_clear none 3 p s m args meth c (dC, dI) (TY cI cJ)) (hA : ∀ q, s.heap.size ≤ q → A q) {q0 : Nat → Nat} {post : Mem → Prop} : ∀ (n : Nat) (x1 : Int32) (x2 : Int32) (m0 : Mem) (H : Heap) (locs : List Loc) (ls : Array Slot), va_P (dC, dI) vwCl (ww_X8 cI cJ q0 m0) H → va_D A (ww_X8 cI cJ q0 m0) → va_S A s.heap H locs → lv_has ls 3 [(0, .ref (q0 0)), (1, .int x1), (2, .int x2)] → b_X8_clear_2 post n x1 x2 m0 → W p l e ({ frames := 0, cells := 0, slots := 0, locals := 0 }) s m args below meth c H locs 0 0 (MQ below (va_Qv (S := Mem) (fun (u : Mem) => post u) (fun u t => AT (dC, dI) (TY cI cJ) A (ww_X8 cI cJ q0 u) t) A) args s 0 0 A) (F0 m 2 ls []) := by
  obtain ⟨hx, hb, hr, hml, hown, hts, hlocks, hK⟩ := id cx
  have cx' : CX RX8 cX8_clear (meth.sig.returnType) 3 p s m args meth c (dC, dI) (TY cI cJ) := ⟨hx, hb, rfl, hml, hown, hts, hlocks, hK⟩
  intro n
  induction n with
  | zero =>
    intro x1 x2 m0 H locs ls hP hD hS hl h
    exact False.elim h
  | succ n ih =>
    intro x1 x2 m0 H locs ls hP hD hS hl h
    unfold b_X8_clear_2 at h
    refine lv_iload_n hx hb dX8_clear_2 rfl (lv_at hl 2 rfl) ?_
    refine lv_bipush (v := 8) hx hb dX8_clear_3 (by decide) ?_
    refine lv_icmp_ge (tgt := 21) hx hb dX8_clear_5 (by decide) (fun c_1 => ?_) (fun c_1 => ?_)
    · have h := h.1 c_1
      refine lv_aload_n hx hb dX8_clear_21 rfl (lv_at hl 0 rfl) ?_
      refine lv_iconst (v := (-1)) hx hb dX8_clear_22 (by decide) ?_
      obtain ⟨m0_2, em0_2⟩ : ∃ z : Mem, z = up2 m0 0 1 (-1) := ⟨_, rfl⟩
      have h := h m0_2 em0_2
      refine pf_v (k := 1) (tf := .int) cx' hP hD hS 0 (ww_X8 cI cJ q0 m0_2) i_X8 tyX8 tyX8_ok nmX8 rfl rfl (by decide) kw_219 rfl rfl rfl rfl rfl (Nat.le_of_ble_eq_true rfl) dX8_clear_23 (by subst em0_2; rfl) (fun H locs hP hD hS => ?_)
      refine lv_aload_n hx hb dX8_clear_26 rfl (lv_at hl 0 rfl) ?_
      refine lv_iload_n hx hb dX8_clear_27 rfl (lv_at hl 1 rfl) ?_
      obtain ⟨m0_3, em0_3⟩ : ∃ z : Mem, z = up2 m0_2 0 2 x1 := ⟨_, rfl⟩
      have h := h m0_3 em0_3
      refine pf_v (k := 2) (tf := .int) cx' hP hD hS 0 (ww_X8 cI cJ q0 m0_3) i_X8 tyX8 tyX8_ok nmX8 rfl rfl (by decide) kw_222 rfl rfl rfl rfl rfl (Nat.le_of_ble_eq_true rfl) dX8_clear_28 (by subst em0_3; rfl) (fun H locs hP hD hS => ?_)
      refine lv_aload_n hx hb dX8_clear_31 rfl (lv_at hl 0 rfl) ?_
      refine lv_iconst (v := 0) hx hb dX8_clear_32 (by decide) ?_
      obtain ⟨m0_4, em0_4⟩ : ∃ z : Mem, z = up2 m0_3 0 3 0 := ⟨_, rfl⟩
      have h := h m0_4 em0_4
      refine pf_v (k := 3) (tf := .int) cx' hP hD hS 0 (ww_X8 cI cJ q0 m0_4) i_X8 tyX8 tyX8_ok nmX8 rfl rfl (by decide) kw_224 rfl rfl rfl rfl rfl (Nat.le_of_ble_eq_true rfl) dX8_clear_33 (by subst em0_4; rfl) (fun H locs hP hD hS => ?_)
      refine lv_aload_n hx hb dX8_clear_36 rfl (lv_at hl 0 rfl) ?_
      refine lv_iconst (v := 0) hx hb dX8_clear_37 (by decide) ?_
      obtain ⟨m0_5, em0_5⟩ : ∃ z : Mem, z = up2 m0_4 0 4 0 := ⟨_, rfl⟩
      have h := h m0_5 em0_5
      refine pf_v (k := 4) (tf := .int) cx' hP hD hS 0 (ww_X8 cI cJ q0 m0_5) i_X8 tyX8 tyX8_ok nmX8 rfl rfl (by decide) kw_226 rfl rfl rfl rfl rfl (Nat.le_of_ble_eq_true rfl) dX8_clear_38 (by subst em0_5; rfl) (fun H locs hP hD hS => ?_)
      refine lv_aload_n hx hb dX8_clear_41 rfl (lv_at hl 0 rfl) ?_
      refine lv_iconst (v := 0) hx hb dX8_clear_42 (by decide) ?_
      obtain ⟨m0_6, em0_6⟩ : ∃ z : Mem, z = up2 m0_5 0 5 0 := ⟨_, rfl⟩
      have h := h m0_6 em0_6
      refine pf_v (k := 5) (tf := .int) cx' hP hD hS 0 (ww_X8 cI cJ q0 m0_6) i_X8 tyX8 tyX8_ok nmX8 rfl rfl (by decide) kw_228 rfl rfl rfl rfl rfl (Nat.le_of_ble_eq_true rfl) dX8_clear_43 (by subst em0_6; rfl) (fun H locs hP hD hS => ?_)
      refine lv_aload_n hx hb dX8_clear_46 rfl (lv_at hl 0 rfl) ?_
      refine lv_iconst (v := 0) hx hb dX8_clear_47 (by decide) ?_
      obtain ⟨m0_7, em0_7⟩ : ∃ z : Mem, z = up2 m0_6 0 6 0 := ⟨_, rfl⟩
      have h := h m0_7 em0_7
      refine pf_v (k := 6) (tf := .boolean) cx' hP hD hS 0 (ww_X8 cI cJ q0 m0_7) i_X8 tyX8 tyX8_ok nmX8 rfl rfl (by decide) kw_230 rfl rfl rfl rfl rfl (Nat.le_of_ble_eq_true rfl) dX8_clear_48 (by subst em0_7; rfl) (fun H locs hP hD hS => ?_)
      exact rt_v (u := m0_7) cx hP hD hS h dX8_clear_51
    have h := h.2 c_1
    refine lv_aload_n hx hb dX8_clear_8 rfl (lv_at hl 0 rfl) ?_
    refine gf_v (k := 0) (v := .ref (q0 1)) cx' hP 0 i_X8 rfl rfl (by decide) kw_216 rfl rfl dX8_clear_9 ?_
    refine lv_iload_n hx hb dX8_clear_12 rfl (lv_at hl 2 rfl) ?_
    refine lv_iconst (v := 0) hx hb dX8_clear_13 (by decide) ?_
    obtain ⟨m0_8, em0_8⟩ : ∃ z : Mem, z = up2 m0 1 (Int32.toNatClampNeg x2) 0 := ⟨_, rfl⟩
    have h1 := h.1
    have h := h.2 m0_8 em0_8
    refine st_i hx hb hK hP hD hS 1 0 (ww_X8 cI cJ q0 m0_8) rfl rfl h1 dX8_clear_14 (by subst em0_8; rfl) (fun H locs hP hD hS => ?_)
    obtain ⟨x2_9, ex2_9⟩ : ∃ z : Int32, z = x2 + 1 := ⟨_, rfl⟩
    have h := h x2_9 ex2_9
    refine lv_iinc (v := x2_9) (lv' := [(2, .int x2_9), (0, .ref (q0 0)), (1, .int x1)]) hx hb dX8_clear_15 hl (k := 2) rfl (by rw [ex2_9]; rfl) (by decide) rfl (fun ls hl => ?_)
    refine lv_goto (tgt := 2) hx hb dX8_clear_18 (by decide) ?_
    exact ih x1 x2_9 m0_8 H locs ls hP hD hS (lv_sub hl [1, 2, 0] rfl) h
set_option maxHeartbeats 4000000 in
set_option maxRecDepth 100000 in
theorem w_X8_clear_0 {p : Program} {l : Launch} {e : Env} {s : State} {m : MethodId} {args : Array Value} {below : List Frame} {meth : Method} {c : Code} {dC : Nat → ClassId} {dI : Nat → Nat → Nat} {cI cJ : ClassId} {A : Nat → Prop} (cx : CX RX8 cX8_clear none 3 p s m args meth c (dC, dI) (TY cI cJ)) (hA : ∀ q, s.heap.size ≤ q → A q) {q0 : Nat → Nat} {post : Mem → Prop} : ∀ (x1 : Int32) (m0 : Mem) (H : Heap) (locs : List Loc) (ls : Array Slot), va_P (dC, dI) vwCl (ww_X8 cI cJ q0 m0) H → va_D A (ww_X8 cI cJ q0 m0) → va_S A s.heap H locs → lv_has ls 3 [(0, .ref (q0 0)), (1, .int x1)] → b_X8_clear_0 post x1 m0 → W p l e ({ frames := 0, cells := 0, slots := 0, locals := 0 }) s m args below meth c H locs 0 0 (MQ below (va_Qv (S := Mem) (fun (u : Mem) => post u) (fun u t => AT (dC, dI) (TY cI cJ) A (ww_X8 cI cJ q0 u) t) A) args s 0 0 A) (F0 m 0 ls []) := by
  obtain ⟨hx, hb, hr, hml, hown, hts, hlocks, hK⟩ := id cx
  have cx' : CX RX8 cX8_clear (meth.sig.returnType) 3 p s m args meth c (dC, dI) (TY cI cJ) := ⟨hx, hb, rfl, hml, hown, hts, hlocks, hK⟩
  intro x1 m0 H locs ls hP hD hS hl h
  unfold b_X8_clear_0 at h
  refine lv_iconst (v := 0) hx hb dX8_clear_0 (by decide) ?_
  refine lv_istore_n (lv' := [(2, .int 0), (0, .ref (q0 0)), (1, .int x1)]) hx hb dX8_clear_1 rfl hl (by decide) rfl (fun ls hl => ?_)
  obtain ⟨n_1, h⟩ := h
  exact w_X8_clear_2 cx hA n_1 x1 0 m0 H locs ls hP hD hS (lv_sub hl [1, 2, 0] rfl) h
set_option maxRecDepth 100000 in
theorem c_X8_clear (l : Launch) {dC : Nat → ClassId} {dI : Nat → Nat → Nat} {cI cJ : ClassId} (sz : Nat) (q0 : Nat → Nat) (m0 : Mem) (x1 : Int32) (post : Mem → Prop) (h : wp_X8_clear m0 x1 post) : Met l yX8_clear (Cond.code yX8_clear cX8_clear 3 none :: gt) ({ frames := 0, cells := 0, slots := 0, locals := 0 }) (va_Pc [.ref (q0 0), .int x1] (PRE (dC, dI) (TY cI cJ) (ww_X8 cI cJ q0 m0) sz)) (va_Qv (S := Mem) (fun (u : Mem) => post u) (fun u t => AT (dC, dI) (TY cI cJ) (va_A (ww_X8 cI cJ q0 m0) sz) (ww_X8 cI cJ q0 u) t) (va_A (ww_X8 cI cJ q0 m0) sz)) 0 0 (va_A (ww_X8 cI cJ q0 m0) sz) :=
  met_of (own := RX8) (Qf := fun A => va_Qv (S := Mem) (fun (u : Mem) => post u) (fun u t => AT (dC, dI) (TY cI cJ) A (ww_X8 cI cJ q0 u) t) A) (by decide) rfl (Nat.le_of_ble_eq_true rfl) rfl (fun p e s m below meth c A cx hA ls hP hD hS hl => w_X8_clear_0 cx hA x1 m0 _ _ ls hP hD hS hl h)
theorem mv_X8_clear : MV yX8_clear cX8_clear 3 none 1 := ⟨⟨kw_373, kw_9, by decide +kernel⟩, kw_371, kw_372⟩
set_option maxHeartbeats 4000000 in
set_option maxRecDepth 100000 in
theorem w_X8_offer_140 {p : Program} {l : Launch} {e : Env} {s : State} {m : MethodId} {args : Array Value} {below : List Frame} {meth : Method} {c : Code} {dC : Nat → ClassId} {dI : Nat → Nat → Nat} {cI cJ : ClassId} {A : Nat → Prop} (cx : CX RX8 cX8_offer none 7 p s m args meth c (dC, dI) (TY cI cJ)) (hA : ∀ q, s.heap.size ≤ q → A q) {q0 : Nat → Nat} {post : Mem → Prop} : ∀ (x1 : Int32) (x2 : Int32) (m0 : Mem) (H : Heap) (locs : List Loc) (ls : Array Slot), va_P (dC, dI) vwCl (ww_X8 cI cJ q0 m0) H → va_D A (ww_X8 cI cJ q0 m0) → va_S A s.heap H locs → lv_has ls 7 [(0, .ref (q0 0)), (1, .int x1), (2, .int x2)] → b_X8_offer_140 post x1 x2 m0 → W p l e ({ frames := 0, cells := 0, slots := 0, locals := 0 }) s m args below meth c H locs 0 0 (MQ below (va_Qv (S := Mem) (fun (u : Mem) => post u) (fun u t => AT (dC, dI) (TY cI cJ) A (ww_X8 cI cJ q0 u) t) A) args s 0 0 A) (F0 m 140 ls []) := by
  obtain ⟨hx, hb, hr, hml, hown, hts, hlocks, hK⟩ := id cx
  have cx' : CX RX8 cX8_offer (meth.sig.returnType) 7 p s m args meth c (dC, dI) (TY cI cJ) := ⟨hx, hb, rfl, hml, hown, hts, hlocks, hK⟩
  intro x1 x2 m0 H locs ls hP hD hS hl h
  unfold b_X8_offer_140 at h
  refine lv_aload_n hx hb dX8_offer_140 rfl (lv_at hl 0 rfl) ?_
  refine lv_iload_n hx hb dX8_offer_141 rfl (lv_at hl 2 rfl) ?_
  refine lv_iconst (v := 1) hx hb dX8_offer_142 (by decide) ?_
  refine dia_i (ls := ls) (c0 := x2 = 1) (a := 1) (b := 0) (J := 151) (rest := [.ref (q0 0)]) (fun K => ?_) (fun v_2 ev_2 => ?_)
  · refine lv_icmp_ne (tgt := 150) hx hb dX8_offer_143 (by decide) (fun c_1 => ?_) (fun c_1 => ?_)
    · refine lv_iconst (v := 0) hx hb dX8_offer_150 (by decide) ?_
      exact K _ (Or.inr ⟨c_1, rfl⟩)
    · refine lv_iconst (v := 1) hx hb dX8_offer_146 (by decide) ?_
      refine lv_goto (tgt := 151) hx hb dX8_offer_147 (by decide) ?_
      exact K _ (Or.inl ⟨c_1, rfl⟩)
  have h := h v_2 ev_2
  have hz := h.1
  have h := h.2
  obtain ⟨m0_3, em0_3⟩ : ∃ z : Mem, z = up2 m0 0 6 v_2 := ⟨_, rfl⟩
  have h := h m0_3 em0_3
  refine pf_v (k := 6) (tf := .boolean) cx' hP hD hS 0 (ww_X8 cI cJ q0 m0_3) i_X8 tyX8 tyX8_ok nmX8 rfl rfl (by decide) kw_230 rfl rfl rfl (fit_z hz).1 (fit_z hz).2 (Nat.le_of_ble_eq_true rfl) dX8_offer_151 (by subst em0_3; rfl) (fun H locs hP hD hS => ?_)
  refine lv_aload_n hx hb dX8_offer_154 rfl (lv_at hl 0 rfl) ?_
  refine gf_v (k := 2) (v := .int (m0_3 0 2)) cx' hP 0 i_X8 rfl rfl (by decide) kw_222 rfl rfl dX8_offer_155 ?_
  refine lv_if_ne (tgt := 166) hx hb dX8_offer_158 (by decide) (fun c_4 => ?_) (fun c_4 => ?_)
  · have h := h.1 c_4
    exact rt_v (u := m0_3) cx hP hD hS h dX8_offer_166
  have h := h.2 c_4
  refine lv_aload_n hx hb dX8_offer_161 rfl (lv_at hl 0 rfl) ?_
  refine lv_iload_n hx hb dX8_offer_162 rfl (lv_at hl 1 rfl) ?_
  obtain ⟨m0_5, em0_5⟩ : ∃ z : Mem, z = up2 m0_3 0 1 x1 := ⟨_, rfl⟩
  have h := h m0_5 em0_5
  refine pf_v (k := 1) (tf := .int) cx' hP hD hS 0 (ww_X8 cI cJ q0 m0_5) i_X8 tyX8 tyX8_ok nmX8 rfl rfl (by decide) kw_219 rfl rfl rfl rfl rfl (Nat.le_of_ble_eq_true rfl) dX8_offer_163 (by subst em0_5; rfl) (fun H locs hP hD hS => ?_)
  exact rt_v (u := m0_5) cx hP hD hS h dX8_offer_166
set_option maxHeartbeats 4000000 in
set_option maxRecDepth 100000 in
theorem w_X8_offer_45 {p : Program} {l : Launch} {e : Env} {s : State} {m : MethodId} {args : Array Value} {below : List Frame} {meth : Method} {c : Code} {dC : Nat → ClassId} {dI : Nat → Nat → Nat} {cI cJ : ClassId} {A : Nat → Prop} (cx : CX RX8 cX8_offer none 7 p s m args meth c (dC, dI) (TY cI cJ)) (hA : ∀ q, s.heap.size ≤ q → A q) {q0 : Nat → Nat} {post : Mem → Prop} : ∀ (x1 : Int32) (x2 : Int32) (x5 : Int32) (m0 : Mem) (H : Heap) (locs : List Loc) (ls : Array Slot), va_P (dC, dI) vwCl (ww_X8 cI cJ q0 m0) H → va_D A (ww_X8 cI cJ q0 m0) → va_S A s.heap H locs → lv_has ls 7 [(0, .ref (q0 0)), (1, .int x1), (2, .int x2), (5, .int x5)] → b_X8_offer_45 post x1 x2 x5 m0 → W p l e ({ frames := 0, cells := 0, slots := 0, locals := 0 }) s m args below meth c H locs 0 0 (MQ below (va_Qv (S := Mem) (fun (u : Mem) => post u) (fun u t => AT (dC, dI) (TY cI cJ) A (ww_X8 cI cJ q0 u) t) A) args s 0 0 A) (F0 m 45 ls []) := by
  obtain ⟨hx, hb, hr, hml, hown, hts, hlocks, hK⟩ := id cx
  have cx' : CX RX8 cX8_offer (meth.sig.returnType) 7 p s m args meth c (dC, dI) (TY cI cJ) := ⟨hx, hb, rfl, hml, hown, hts, hlocks, hK⟩
  intro x1 x2 x5 m0 H locs ls hP hD hS hl h
  unfold b_X8_offer_45 at h
  refine lv_iload hx hb dX8_offer_45 (lv_at hl 3 rfl) ?_
  refine lv_aload_n hx hb dX8_offer_47 rfl (lv_at hl 0 rfl) ?_
  refine gf_v (k := 2) (v := .int (m0 0 2)) cx' hP 0 i_X8 rfl rfl (by decide) kw_222 rfl rfl dX8_offer_48 ?_
  refine dia_i (ls := ls) (c0 := (m0 0 2) ≤ x5) (a := m0 0 2) (b := x5) (J := 63) (rest := []) (fun K => ?_) (fun v_2 ev_2 => ?_)
  · refine lv_icmp_ge (tgt := 59) hx hb dX8_offer_51 (by decide) (fun c_1 => ?_) (fun c_1 => ?_)
    · refine lv_aload_n hx hb dX8_offer_59 rfl (lv_at hl 0 rfl) ?_
      refine gf_v (k := 2) (v := .int (m0 0 2)) cx' hP 0 i_X8 rfl rfl (by decide) kw_222 rfl rfl dX8_offer_60 ?_
      exact K _ (Or.inl ⟨c_1, rfl⟩)
    · refine lv_iload hx hb dX8_offer_54 (lv_at hl 3 rfl) ?_
      refine lv_goto (tgt := 63) hx hb dX8_offer_56 (by decide) ?_
      exact K _ (Or.inr ⟨c_1, rfl⟩)
  have h := h v_2 ev_2
  refine lv_istore (lv' := [(6, .int v_2), (0, .ref (q0 0)), (1, .int x1), (2, .int x2), (5, .int x5)]) hx hb dX8_offer_63 hl (by decide) rfl (fun ls hl => ?_)
  refine lv_aload_n hx hb dX8_offer_65 rfl (lv_at hl 1 rfl) ?_
  refine gf_v (k := 0) (v := .ref (q0 1)) cx' hP 0 i_X8 rfl rfl (by decide) kw_216 rfl rfl dX8_offer_66 ?_
  refine lv_iload_n hx hb dX8_offer_69 rfl (lv_at hl 2 rfl) ?_
  refine lv_iload hx hb dX8_offer_70 (lv_at hl 0 rfl) ?_
  obtain ⟨m0_3, em0_3⟩ : ∃ z : Mem, z = up2 m0 1 (Int32.toNatClampNeg x1) v_2 := ⟨_, rfl⟩
  have h1 := h.1
  have h := h.2 m0_3 em0_3
  refine st_i hx hb hK hP hD hS 1 0 (ww_X8 cI cJ q0 m0_3) rfl rfl h1 dX8_offer_72 (by subst em0_3; rfl) (fun H locs hP hD hS => ?_)
  refine lv_aload_n hx hb dX8_offer_73 rfl (lv_at hl 1 rfl) ?_
  refine lv_dup hx hb dX8_offer_74 rfl ?_
  refine gf_v (k := 2) (v := .int (m0_3 0 2)) cx' hP 0 i_X8 rfl rfl (by decide) kw_222 rfl rfl dX8_offer_75 ?_
  refine lv_iload hx hb dX8_offer_78 (lv_at hl 0 rfl) ?_
  refine lv_isub hx hb dX8_offer_80 ?_
  obtain ⟨m0_4, em0_4⟩ : ∃ z : Mem, z = up2 m0_3 0 2 ((m0_3 0 2) - v_2) := ⟨_, rfl⟩
  have h := h m0_4 em0_4
  refine pf_v (k := 2) (tf := .int) cx' hP hD hS 0 (ww_X8 cI cJ q0 m0_4) i_X8 tyX8 tyX8_ok nmX8 rfl rfl (by decide) kw_222 rfl rfl rfl rfl rfl (Nat.le_of_ble_eq_true rfl) dX8_offer_81 (by subst em0_4; rfl) (fun H locs hP hD hS => ?_)
  refine lv_iload_n hx hb dX8_offer_84 rfl (lv_at hl 3 rfl) ?_
  refine lv_iconst (v := 2) hx hb dX8_offer_85 (by decide) ?_
  refine lv_icmp_ne (tgt := 102) hx hb dX8_offer_86 (by decide) (fun c_5 => ?_) (fun c_5 => ?_)
  · have h := h.1 c_5
    refine lv_iload_n hx hb dX8_offer_102 rfl (lv_at hl 3 rfl) ?_
    refine lv_iconst (v := 3) hx hb dX8_offer_103 (by decide) ?_
    refine lv_icmp_ne (tgt := 140) hx hb dX8_offer_104 (by decide) (fun c_6 => ?_) (fun c_6 => ?_)
    · have h := h.1 c_6
      exact w_X8_offer_140 cx hA x1 x2 m0_4 H locs ls hP hD hS (lv_sub hl [1, 2, 3] rfl) h
    have h := h.2 c_6
    refine lv_aload_n hx hb dX8_offer_107 rfl (lv_at hl 1 rfl) ?_
    refine gf_v (k := 2) (v := .int (m0_4 0 2)) cx' hP 0 i_X8 rfl rfl (by decide) kw_222 rfl rfl dX8_offer_108 ?_
    refine lv_if_le (tgt := 140) hx hb dX8_offer_111 (by decide) (fun c_7 => ?_) (fun c_7 => ?_)
    · have h := h.1 c_7
      exact w_X8_offer_140 cx hA x1 x2 m0_4 H locs ls hP hD hS (lv_sub hl [1, 2, 3] rfl) h
    have h := h.2 c_7
    refine lv_aload_n hx hb dX8_offer_114 rfl (lv_at hl 1 rfl) ?_
    refine lv_aload_n hx hb dX8_offer_115 rfl (lv_at hl 1 rfl) ?_
    refine gf_v (k := 2) (v := .int (m0_4 0 2)) cx' hP 0 i_X8 rfl rfl (by decide) kw_222 rfl rfl dX8_offer_116 ?_
    refine lv_iconst (v := 3) hx hb dX8_offer_119 (by decide) ?_
    refine lv_iadd hx hb dX8_offer_120 ?_
    refine lv_bipush (v := 99) hx hb dX8_offer_121 (by decide) ?_
    refine dia_i (ls := ls) (c0 := 99 ≤ ((m0_4 0 2) + 3)) (a := 99) (b := (m0_4 0 2) + 3) (J := 137) (rest := [.ref (q0 0)]) (fun K => ?_) (fun v_9 ev_9 => ?_)
    · refine lv_icmp_ge (tgt := 135) hx hb dX8_offer_123 (by decide) (fun c_8 => ?_) (fun c_8 => ?_)
      · refine lv_bipush (v := 99) hx hb dX8_offer_135 (by decide) ?_
        exact K _ (Or.inl ⟨c_8, rfl⟩)
      · refine lv_aload_n hx hb dX8_offer_126 rfl (lv_at hl 1 rfl) ?_
        refine gf_v (k := 2) (v := .int (m0_4 0 2)) cx' hP 0 i_X8 rfl rfl (by decide) kw_222 rfl rfl dX8_offer_127 ?_
        refine lv_iconst (v := 3) hx hb dX8_offer_130 (by decide) ?_
        refine lv_iadd hx hb dX8_offer_131 ?_
        refine lv_goto (tgt := 137) hx hb dX8_offer_132 (by decide) ?_
        exact K _ (Or.inr ⟨c_8, rfl⟩)
    have h := h v_9 ev_9
    obtain ⟨m0_10, em0_10⟩ : ∃ z : Mem, z = up2 m0_4 0 2 v_9 := ⟨_, rfl⟩
    have h := h m0_10 em0_10
    refine pf_v (k := 2) (tf := .int) cx' hP hD hS 0 (ww_X8 cI cJ q0 m0_10) i_X8 tyX8 tyX8_ok nmX8 rfl rfl (by decide) kw_222 rfl rfl rfl rfl rfl (Nat.le_of_ble_eq_true rfl) dX8_offer_137 (by subst em0_10; rfl) (fun H locs hP hD hS => ?_)
    exact w_X8_offer_140 cx hA x1 x2 m0_10 H locs ls hP hD hS (lv_sub hl [1, 2, 3] rfl) h
  have h := h.2 c_5
  refine lv_aload_n hx hb dX8_offer_89 rfl (lv_at hl 1 rfl) ?_
  refine lv_aload_n hx hb dX8_offer_90 rfl (lv_at hl 1 rfl) ?_
  refine gf_v (k := 2) (v := .int (m0_4 0 2)) cx' hP 0 i_X8 rfl rfl (by decide) kw_222 rfl rfl dX8_offer_91 ?_
  refine lv_iconst (v := 2) hx hb dX8_offer_94 (by decide) ?_
  refine lv_idiv hx hb dX8_offer_95 (by decide) ?_
  obtain ⟨m0_11, em0_11⟩ : ∃ z : Mem, z = up2 m0_4 0 2 ((m0_4 0 2) / 2) := ⟨_, rfl⟩
  have h := h m0_11 em0_11
  refine pf_v (k := 2) (tf := .int) cx' hP hD hS 0 (ww_X8 cI cJ q0 m0_11) i_X8 tyX8 tyX8_ok nmX8 rfl rfl (by decide) kw_222 rfl rfl rfl rfl rfl (Nat.le_of_ble_eq_true rfl) dX8_offer_96 (by subst em0_11; rfl) (fun H locs hP hD hS => ?_)
  refine lv_goto (tgt := 140) hx hb dX8_offer_99 (by decide) ?_
  exact w_X8_offer_140 cx hA x1 x2 m0_11 H locs ls hP hD hS (lv_sub hl [1, 2, 3] rfl) h
set_option maxHeartbeats 4000000 in
set_option maxRecDepth 100000 in
theorem w_X8_offer_0 {p : Program} {l : Launch} {e : Env} {s : State} {m : MethodId} {args : Array Value} {below : List Frame} {meth : Method} {c : Code} {dC : Nat → ClassId} {dI : Nat → Nat → Nat} {cI cJ : ClassId} {A : Nat → Prop} (cx : CX RX8 cX8_offer none 7 p s m args meth c (dC, dI) (TY cI cJ)) (hA : ∀ q, s.heap.size ≤ q → A q) {q0 : Nat → Nat} {post : Mem → Prop} : ∀ (x1 : Int32) (x2 : Int32) (x3 : Int32) (x4 : Int32) (m0 : Mem) (H : Heap) (locs : List Loc) (ls : Array Slot), va_P (dC, dI) vwCl (ww_X8 cI cJ q0 m0) H → va_D A (ww_X8 cI cJ q0 m0) → va_S A s.heap H locs → lv_has ls 7 [(0, .ref (q0 0)), (1, .int x1), (2, .int x2), (3, .int x3), (4, .int x4)] → b_X8_offer_0 post x1 x2 x3 x4 m0 → W p l e ({ frames := 0, cells := 0, slots := 0, locals := 0 }) s m args below meth c H locs 0 0 (MQ below (va_Qv (S := Mem) (fun (u : Mem) => post u) (fun u t => AT (dC, dI) (TY cI cJ) A (ww_X8 cI cJ q0 u) t) A) args s 0 0 A) (F0 m 0 ls []) := by
  obtain ⟨hx, hb, hr, hml, hown, hts, hlocks, hK⟩ := id cx
  have cx' : CX RX8 cX8_offer (meth.sig.returnType) 7 p s m args meth c (dC, dI) (TY cI cJ) := ⟨hx, hb, rfl, hml, hown, hts, hlocks, hK⟩
  intro x1 x2 x3 x4 m0 H locs ls hP hD hS hl h
  unfold b_X8_offer_0 at h
  refine lv_aload_n hx hb dX8_offer_0 rfl (lv_at hl 0 rfl) ?_
  refine gf_v (k := 6) (v := .int (m0 0 6)) cx' hP 0 i_X8 rfl rfl (by decide) kw_230 rfl rfl dX8_offer_1 ?_
  refine dia_i (ls := ls) (c0 := (m0 0 6) = 0) (a := x3) (b := x3 + 2) (J := 14) (rest := []) (fun K => ?_) (fun v_2 ev_2 => ?_)
  · refine lv_if_eq (tgt := 13) hx hb dX8_offer_4 (by decide) (fun c_1 => ?_) (fun c_1 => ?_)
    · refine lv_iload_n hx hb dX8_offer_13 rfl (lv_at hl 3 rfl) ?_
      exact K _ (Or.inl ⟨c_1, rfl⟩)
    · refine lv_iload_n hx hb dX8_offer_7 rfl (lv_at hl 3 rfl) ?_
      refine lv_iconst (v := 2) hx hb dX8_offer_8 (by decide) ?_
      refine lv_iadd hx hb dX8_offer_9 ?_
      refine lv_goto (tgt := 14) hx hb dX8_offer_10 (by decide) ?_
      exact K _ (Or.inr ⟨c_1, rfl⟩)
  have h := h v_2 ev_2
  refine lv_istore (lv' := [(5, .int v_2), (0, .ref (q0 0)), (1, .int x1), (2, .int x2), (3, .int x3), (4, .int x4)]) hx hb dX8_offer_14 hl (by decide) rfl (fun ls hl => ?_)
  refine lv_iload hx hb dX8_offer_16 (lv_at hl 0 rfl) ?_
  refine lv_aload_n hx hb dX8_offer_18 rfl (lv_at hl 1 rfl) ?_
  refine gf_v (k := 2) (v := .int (m0 0 2)) cx' hP 0 i_X8 rfl rfl (by decide) kw_222 rfl rfl dX8_offer_19 ?_
  refine lv_icmp_le (tgt := 45) hx hb dX8_offer_22 (by decide) (fun c_3 => ?_) (fun c_3 => ?_)
  · have h := h.1 c_3
    exact w_X8_offer_45 cx hA x1 x2 v_2 m0 H locs ls hP hD hS (lv_sub hl [1, 2, 3, 0] rfl) h
  have h := h.2 c_3
  refine lv_aload_n hx hb dX8_offer_25 rfl (lv_at hl 1 rfl) ?_
  refine gf_v (k := 3) (v := .int (m0 0 3)) cx' hP 0 i_X8 rfl rfl (by decide) kw_224 rfl rfl dX8_offer_26 ?_
  refine lv_iload hx hb dX8_offer_29 (lv_at hl 5 rfl) ?_
  refine lv_icmp_ge (tgt := 45) hx hb dX8_offer_31 (by decide) (fun c_4 => ?_) (fun c_4 => ?_)
  · have h := h.1 c_4
    exact w_X8_offer_45 cx hA x1 x2 v_2 m0 H locs ls hP hD hS (lv_sub hl [1, 2, 3, 0] rfl) h
  have h := h.2 c_4
  refine lv_aload_n hx hb dX8_offer_34 rfl (lv_at hl 1 rfl) ?_
  refine lv_dup hx hb dX8_offer_35 rfl ?_
  refine gf_v (k := 3) (v := .int (m0 0 3)) cx' hP 0 i_X8 rfl rfl (by decide) kw_224 rfl rfl dX8_offer_36 ?_
  refine lv_iconst (v := 1) hx hb dX8_offer_39 (by decide) ?_
  refine lv_iadd hx hb dX8_offer_40 ?_
  obtain ⟨m0_5, em0_5⟩ : ∃ z : Mem, z = up2 m0 0 3 ((m0 0 3) + 1) := ⟨_, rfl⟩
  have h := h m0_5 em0_5
  refine pf_v (k := 3) (tf := .int) cx' hP hD hS 0 (ww_X8 cI cJ q0 m0_5) i_X8 tyX8 tyX8_ok nmX8 rfl rfl (by decide) kw_224 rfl rfl rfl rfl rfl (Nat.le_of_ble_eq_true rfl) dX8_offer_41 (by subst em0_5; rfl) (fun H locs hP hD hS => ?_)
  exact rt_v (u := m0_5) cx hP hD hS h dX8_offer_44
set_option maxRecDepth 100000 in
theorem c_X8_offer (l : Launch) {dC : Nat → ClassId} {dI : Nat → Nat → Nat} {cI cJ : ClassId} (sz : Nat) (q0 : Nat → Nat) (m0 : Mem) (x1 : Int32) (x2 : Int32) (x3 : Int32) (x4 : Int32) (post : Mem → Prop) (h : wp_X8_offer m0 x1 x2 x3 x4 post) : Met l yX8_offer (Cond.code yX8_offer cX8_offer 7 none :: gt) ({ frames := 0, cells := 0, slots := 0, locals := 0 }) (va_Pc [.ref (q0 0), .int x1, .int x2, .int x3, .int x4] (PRE (dC, dI) (TY cI cJ) (ww_X8 cI cJ q0 m0) sz)) (va_Qv (S := Mem) (fun (u : Mem) => post u) (fun u t => AT (dC, dI) (TY cI cJ) (va_A (ww_X8 cI cJ q0 m0) sz) (ww_X8 cI cJ q0 u) t) (va_A (ww_X8 cI cJ q0 m0) sz)) 0 0 (va_A (ww_X8 cI cJ q0 m0) sz) :=
  met_of (own := RX8) (Qf := fun A => va_Qv (S := Mem) (fun (u : Mem) => post u) (fun u t => AT (dC, dI) (TY cI cJ) A (ww_X8 cI cJ q0 u) t) A) (by decide) rfl (Nat.le_of_ble_eq_true rfl) rfl (fun p e s m below meth c A cx hA ls hP hD hS hl => w_X8_offer_0 cx hA x1 x2 x3 x4 m0 _ _ ls hP hD hS hl h)
theorem mv_X8_offer : MV yX8_offer cX8_offer 7 none 4 := ⟨⟨kw_381, kw_9, by decide +kernel⟩, kw_379, kw_380⟩
set_option maxHeartbeats 4000000 in
set_option maxRecDepth 100000 in
theorem w_X8_goFrom_112 {p : Program} {l : Launch} {e : Env} {s : State} {m : MethodId} {args : Array Value} {below : List Frame} {meth : Method} {c : Code} {dC : Nat → ClassId} {dI : Nat → Nat → Nat} {cI cJ : ClassId} {A : Nat → Prop} (cx : CX RX8 cX8_goFrom none 9 p s m args meth c (dC, dI) (TY cI cJ)) (hA : ∀ q, s.heap.size ≤ q → A q) {q0 : Nat → Nat} {q1 : Nat → Nat} {q2 : Nat → Nat} {m1 : Mem} {m2 : Mem} {post : Mem → Prop} {k17 : Int32 → Int32 → Int32 → Int32 → Mem → Prop} (hk17 : ∀ (x3 : Int32) (x5 : Int32) (x6 : Int32) (x7 : Int32) (m0 : Mem) (H : Heap) (locs : List Loc) (ls : Array Slot), va_P (dC, dI) vwCl (ww_X8_X4_X2 cI cJ q0 m0 q1 m1 q2 m2) H → va_D A (ww_X8_X4_X2 cI cJ q0 m0 q1 m1 q2 m2) → va_S A s.heap H locs → lv_has ls 9 [(0, .ref (q0 0)), (1, .ref (q1 0)), (2, .ref (q2 0)), (3, .int x3), (5, .int x5), (6, .int x6), (7, .int x7)] → k17 x3 x5 x6 x7 m0 → W p l e ({ frames := 1, cells := 0, slots := 0, locals := 26 }) s m args below meth c H locs 0 0 (MQ below (va_Qv (S := Mem) (fun (u : Mem) => post u) (fun u t => AT (dC, dI) (TY cI cJ) A (ww_X8_X4_X2 cI cJ q0 u q1 m1 q2 m2) t) A) args s 0 0 A) (F0 m 17 ls [])) : ∀ (x3 : Int32) (x5 : Int32) (x6 : Int32) (x7 : Int32) (m0 : Mem) (H : Heap) (locs : List Loc) (ls : Array Slot), va_P (dC, dI) vwCl (ww_X8_X4_X2 cI cJ q0 m0 q1 m1 q2 m2) H → va_D A (ww_X8_X4_X2 cI cJ q0 m0 q1 m1 q2 m2) → va_S A s.heap H locs → lv_has ls 9 [(0, .ref (q0 0)), (1, .ref (q1 0)), (2, .ref (q2 0)), (3, .int x3), (5, .int x5), (6, .int x6), (7, .int x7)] → b_X8_goFrom_112 m1 m2 post k17 x3 x5 x6 x7 m0 → W p l e ({ frames := 1, cells := 0, slots := 0, locals := 26 }) s m args below meth c H locs 0 0 (MQ below (va_Qv (S := Mem) (fun (u : Mem) => post u) (fun u t => AT (dC, dI) (TY cI cJ) A (ww_X8_X4_X2 cI cJ q0 u q1 m1 q2 m2) t) A) args s 0 0 A) (F0 m 112 ls []) := by
  obtain ⟨hx, hb, hr, hml, hown, hts, hlocks, hK⟩ := id cx
  have cx' : CX RX8 cX8_goFrom (meth.sig.returnType) 9 p s m args meth c (dC, dI) (TY cI cJ) := ⟨hx, hb, rfl, hml, hown, hts, hlocks, hK⟩
  intro x3 x5 x6 x7 m0 H locs ls hP hD hS hl h
  unfold b_X8_goFrom_112 at h
  refine lv_iload hx hb dX8_goFrom_112 (lv_at hl 5 rfl) ?_
  refine lv_iload hx hb dX8_goFrom_114 (lv_at hl 4 rfl) ?_
  refine lv_iconst (v := 1) hx hb dX8_goFrom_116 (by decide) ?_
  refine dia_i (ls := ls) (c0 := x5 = 1) (a := 1) (b := (-1)) (J := 125) (rest := [.int x6]) (fun K => ?_) (fun v_2 ev_2 => ?_)
  · refine lv_icmp_ne (tgt := 124) hx hb dX8_goFrom_117 (by decide) (fun c_1 => ?_) (fun c_1 => ?_)
    · refine lv_iconst (v := (-1)) hx hb dX8_goFrom_124 (by decide) ?_
      exact K _ (Or.inr ⟨c_1, rfl⟩)
    · refine lv_iconst (v := 1) hx hb dX8_goFrom_120 (by decide) ?_
      refine lv_goto (tgt := 125) hx hb dX8_goFrom_121 (by decide) ?_
      exact K _ (Or.inl ⟨c_1, rfl⟩)
  have h := h v_2 ev_2
  refine lv_iadd hx hb dX8_goFrom_125 ?_
  refine lv_topi (fun x6_3 ex6_3 => ?_)
  have h := h x6_3 ex6_3
  refine lv_istore (lv' := [(6, .int x6_3), (0, .ref (q0 0)), (1, .ref (q1 0)), (2, .ref (q2 0)), (3, .int x3), (5, .int x5), (7, .int x7)]) hx hb dX8_goFrom_126 hl (by decide) rfl (fun ls hl => ?_)
  obtain ⟨x7_4, ex7_4⟩ : ∃ z : Int32, z = x7 + 1 := ⟨_, rfl⟩
  have h := h x7_4 ex7_4
  refine lv_iinc (v := x7_4) (lv' := [(7, .int x7_4), (6, .int x6_3), (0, .ref (q0 0)), (1, .ref (q1 0)), (2, .ref (q2 0)), (3, .int x3), (5, .int x5)]) hx hb dX8_goFrom_128 hl (k := 6) rfl (by rw [ex7_4]; rfl) (by decide) rfl (fun ls hl => ?_)
  refine lv_goto (tgt := 17) hx hb dX8_goFrom_131 (by decide) ?_
  exact hk17 x3 x5 x6_3 x7_4 m0 H locs ls hP hD hS (lv_sub hl [2, 3, 4, 5, 6, 1, 0] rfl) h
set_option maxHeartbeats 4000000 in
set_option maxRecDepth 100000 in
theorem w_X8_goFrom_17 {p : Program} {l : Launch} {e : Env} {s : State} {m : MethodId} {args : Array Value} {below : List Frame} {meth : Method} {c : Code} {dC : Nat → ClassId} {dI : Nat → Nat → Nat} {cI cJ : ClassId} {A : Nat → Prop} (cx : CX RX8 cX8_goFrom none 9 p s m args meth c (dC, dI) (TY cI cJ)) (hA : ∀ q, s.heap.size ≤ q → A q) {q0 : Nat → Nat} {q1 : Nat → Nat} {q2 : Nat → Nat} {m1 : Mem} {m2 : Mem} {post : Mem → Prop} : ∀ (n : Nat) (x3 : Int32) (x5 : Int32) (x6 : Int32) (x7 : Int32) (m0 : Mem) (H : Heap) (locs : List Loc) (ls : Array Slot), va_P (dC, dI) vwCl (ww_X8_X4_X2 cI cJ q0 m0 q1 m1 q2 m2) H → va_D A (ww_X8_X4_X2 cI cJ q0 m0 q1 m1 q2 m2) → va_S A s.heap H locs → lv_has ls 9 [(0, .ref (q0 0)), (1, .ref (q1 0)), (2, .ref (q2 0)), (3, .int x3), (5, .int x5), (6, .int x6), (7, .int x7)] → b_X8_goFrom_17 m1 m2 post n x3 x5 x6 x7 m0 → W p l e ({ frames := 1, cells := 0, slots := 0, locals := 26 }) s m args below meth c H locs 0 0 (MQ below (va_Qv (S := Mem) (fun (u : Mem) => post u) (fun u t => AT (dC, dI) (TY cI cJ) A (ww_X8_X4_X2 cI cJ q0 u q1 m1 q2 m2) t) A) args s 0 0 A) (F0 m 17 ls []) := by
  obtain ⟨hx, hb, hr, hml, hown, hts, hlocks, hK⟩ := id cx
  have cx' : CX RX8 cX8_goFrom (meth.sig.returnType) 9 p s m args meth c (dC, dI) (TY cI cJ) := ⟨hx, hb, rfl, hml, hown, hts, hlocks, hK⟩
  intro n
  induction n with
  | zero =>
    intro x3 x5 x6 x7 m0 H locs ls hP hD hS hl h
    exact False.elim h
  | succ n ih =>
    intro x3 x5 x6 x7 m0 H locs ls hP hD hS hl h
    unfold b_X8_goFrom_17 at h
    refine lv_iload hx hb dX8_goFrom_17 (lv_at hl 6 rfl) ?_
    refine lv_bipush (v := 8) hx hb dX8_goFrom_19 (by decide) ?_
    refine lv_icmp_ge (tgt := 134) hx hb dX8_goFrom_21 (by decide) (fun c_1 => ?_) (fun c_1 => ?_)
    · have h := h.1 c_1
      exact rt_v (u := m0) cx hP hD hS h dX8_goFrom_134
    have h := h.2 c_1
    refine lv_aload_n hx hb dX8_goFrom_24 rfl (lv_at hl 0 rfl) ?_
    refine gf_v (k := 2) (v := .int (m0 0 2)) cx' hP 0 i_X8 rfl rfl (by decide) kw_222 rfl rfl dX8_goFrom_25 ?_
    refine lv_if_le (tgt := 134) hx hb dX8_goFrom_28 (by decide) (fun c_2 => ?_) (fun c_2 => ?_)
    · have h := h.1 c_2
      exact rt_v (u := m0) cx hP hD hS h dX8_goFrom_134
    have h := h.2 c_2
    refine lv_iload hx hb dX8_goFrom_31 (lv_at hl 5 rfl) ?_
    refine lv_if_lt (tgt := 134) hx hb dX8_goFrom_33 (by decide) (fun c_3 => ?_) (fun c_3 => ?_)
    · have h := h.1 c_3
      exact rt_v (u := m0) cx hP hD hS h dX8_goFrom_134
    have h := h.2 c_3
    refine lv_iload hx hb dX8_goFrom_36 (lv_at hl 5 rfl) ?_
    refine lv_aload_n hx hb dX8_goFrom_38 rfl (lv_at hl 1 rfl) ?_
    refine gf_v (k := 4) (v := .int (m1 0 4)) cx' hP 2 i_X4 rfl rfl (by decide) kw_63 rfl rfl dX8_goFrom_39 ?_
    refine lv_icmp_ge (tgt := 134) hx hb dX8_goFrom_42 (by decide) (fun c_4 => ?_) (fun c_4 => ?_)
    · have h := h.1 c_4
      exact rt_v (u := m0) cx hP hD hS h dX8_goFrom_134
    have h := h.2 c_4
    refine lv_aload_n hx hb dX8_goFrom_45 rfl (lv_at hl 1 rfl) ?_
    refine gf_v (k := 3) (v := .ref (q1 4)) cx' hP 2 i_X4 rfl rfl (by decide) kw_60 rfl rfl dX8_goFrom_46 ?_
    refine lv_iload hx hb dX8_goFrom_49 (lv_at hl 5 rfl) ?_
    refine va_iald hx hb hK hP 6 0 rfl rfl h.1 dX8_goFrom_51 ?_
    have h := h.2
    refine lv_topi (fun x8_5 ex8_5 => ?_)
    have h := h x8_5 ex8_5
    refine lv_istore (lv' := [(8, .int x8_5), (0, .ref (q0 0)), (1, .ref (q1 0)), (2, .ref (q2 0)), (3, .int x3), (5, .int x5), (6, .int x6), (7, .int x7)]) hx hb dX8_goFrom_52 hl (by decide) rfl (fun ls hl => ?_)
    refine lv_aload_n hx hb dX8_goFrom_54 rfl (lv_at hl 1 rfl) ?_
    refine lv_dup hx hb dX8_goFrom_55 rfl ?_
    refine gf_v (k := 4) (v := .int (m0 0 4)) cx' hP 0 i_X8 rfl rfl (by decide) kw_226 rfl rfl dX8_goFrom_56 ?_
    refine lv_iconst (v := 1) hx hb dX8_goFrom_59 (by decide) ?_
    refine lv_iadd hx hb dX8_goFrom_60 ?_
    obtain ⟨m0_6, em0_6⟩ : ∃ z : Mem, z = up2 m0 0 4 ((m0 0 4) + 1) := ⟨_, rfl⟩
    have h := h m0_6 em0_6
    refine pf_v (k := 4) (tf := .int) cx' hP hD hS 0 (ww_X8_X4_X2 cI cJ q0 m0_6 q1 m1 q2 m2) i_X8 tyX8 tyX8_ok nmX8 rfl rfl (by decide) kw_226 rfl rfl rfl rfl rfl (Nat.le_of_ble_eq_true rfl) dX8_goFrom_61 (by subst em0_6; rfl) (fun H locs hP hD hS => ?_)
    refine lv_aload_n hx hb dX8_goFrom_64 rfl (lv_at hl 1 rfl) ?_
    refine lv_dup hx hb dX8_goFrom_65 rfl ?_
    refine gf_v (k := 5) (v := .int (m0_6 0 5)) cx' hP 0 i_X8 rfl rfl (by decide) kw_228 rfl rfl dX8_goFrom_66 ?_
    refine lv_iconst (v := 1) hx hb dX8_goFrom_69 (by decide) ?_
    refine lv_iload hx hb dX8_goFrom_70 (lv_at hl 0 rfl) ?_
    refine lv_ishl hx hb dX8_goFrom_72 ?_
    refine lv_ior hx hb dX8_goFrom_73 ?_
    obtain ⟨m0_7, em0_7⟩ : ∃ z : Mem, z = up2 m0_6 0 5 ((m0_6 0 5) ||| (1 <<< (x8_5 &&& 31))) := ⟨_, rfl⟩
    have h := h m0_7 em0_7
    refine pf_v (k := 5) (tf := .int) cx' hP hD hS 0 (ww_X8_X4_X2 cI cJ q0 m0_7 q1 m1 q2 m2) i_X8 tyX8 tyX8_ok nmX8 rfl rfl (by decide) kw_228 rfl rfl rfl rfl rfl (Nat.le_of_ble_eq_true rfl) dX8_goFrom_74 (by subst em0_7; rfl) (fun H locs hP hD hS => ?_)
    refine lv_aload_n hx hb dX8_goFrom_77 rfl (lv_at hl 2 rfl) ?_
    refine lv_iload hx hb dX8_goFrom_78 (lv_at hl 0 rfl) ?_
    refine callP_i (wc := ww_X4 cI cJ q1 m1) (wr_X8_X4_X2_0_1_7_8_9_10_11 cI cJ q0 m0_7 q1 m1 q2 m2) (fun (_u : Unit) => ww_X8_X4_X2 cI cJ q0 m0_7 q1 m1 q2 m2) [2, 3, 4, 5, 6] [0, 1, 7, 8, 9, 10, 11] [0, 1, 7, 8, 9, 10, 11, 2, 3, 4, 5, 6] rfl rfl rfl (by decide) (fun _ => rfl) rfl hP hD hS hA (fun hPc hDc => run_V (As := [.int x8_5]) (rest := []) cx' (c_X4_isEmpty l H.size q1 m1 x8_5 _ h) mv_X4_isEmpty kw_374 rfl rfl ⟨Nat.le_of_ble_eq_true rfl, Nat.le_of_ble_eq_true rfl⟩ hPc hDc rfl rfl rfl hl.1 rfl (Nat.le_of_ble_eq_true rfl) dX8_goFrom_80 ⟨Nat.zero_le _, Nat.zero_le _⟩) rfl (fun r_8 u9 H locs hP hD hS h => ?_)
    have hP : va_P (dC, dI) vwCl (ww_X8_X4_X2 cI cJ q0 m0_7 q1 m1 q2 m2) H := hP
    have hD : va_D A (ww_X8_X4_X2 cI cJ q0 m0_7 q1 m1 q2 m2) := hD
    refine lv_if_ne (tgt := 112) hx hb dX8_goFrom_83 (by decide) (fun c_9 => ?_) (fun c_9 => ?_)
    · have h := h.1 c_9
      exact w_X8_goFrom_112 cx hA ih x3 x5 x6 x7 m0_7 H locs ls hP hD hS (lv_sub hl [1, 2, 3, 4, 5, 6, 7] rfl) h
    have h := h.2 c_9
    refine lv_aload_n hx hb dX8_goFrom_86 rfl (lv_at hl 1 rfl) ?_
    refine lv_iload hx hb dX8_goFrom_87 (lv_at hl 0 rfl) ?_
    refine lv_aload_n hx hb dX8_goFrom_89 rfl (lv_at hl 2 rfl) ?_
    refine gf_v (k := 0) (v := .ref (q1 1)) cx' hP 2 i_X4 rfl rfl (by decide) kw_52 rfl rfl dX8_goFrom_90 ?_
    refine lv_iload hx hb dX8_goFrom_93 (lv_at hl 0 rfl) ?_
    refine va_iald hx hb hK hP 3 0 rfl rfl h.1 dX8_goFrom_95 ?_
    have h := h.2
    refine lv_aload_n hx hb dX8_goFrom_96 rfl (lv_at hl 2 rfl) ?_
    refine gf_v (k := 1) (v := .ref (q1 2)) cx' hP 2 i_X4 rfl rfl (by decide) kw_55 rfl rfl dX8_goFrom_97 ?_
    refine lv_iload hx hb dX8_goFrom_100 (lv_at hl 0 rfl) ?_
    refine va_iald hx hb hK hP 4 0 rfl rfl h.1 dX8_goFrom_102 ?_
    have h := h.2
    refine lv_aload_n hx hb dX8_goFrom_103 rfl (lv_at hl 3 rfl) ?_
    refine gf_v (k := 3) (v := .ref (q2 4)) cx' hP 7 i_X2 rfl rfl (by decide) kw_100 rfl rfl dX8_goFrom_104 ?_
    refine lv_iload_n hx hb dX8_goFrom_107 rfl (lv_at hl 4 rfl) ?_
    refine va_iald hx hb hK hP 11 0 rfl rfl h.1 dX8_goFrom_108 ?_
    have h := h.2
    refine callP_v (wc := ww_X8 cI cJ q0 m0_7) (wr_X8_X4_X2_2_3_4_5_6_7_8_9_10_11 cI cJ q0 m0_7 q1 m1 q2 m2) (fun (u : Mem) => ww_X8_X4_X2 cI cJ q0 u q1 m1 q2 m2) [0, 1] [2, 3, 4, 5, 6, 7, 8, 9, 10, 11] [10, 11, 0, 1, 2, 3, 4, 5, 6, 7, 8, 9] rfl rfl rfl (by decide) (fun _ => rfl) rfl hP hD hS hA (fun hPc hDc => run_V (As := [.int x8_5, .int (m1 1 (Int32.toNatClampNeg x8_5)), .int (m1 2 (Int32.toNatClampNeg x8_5)), .int (m2 4 (Int32.toNatClampNeg x3))]) (rest := []) cx' (c_X8_offer l H.size q0 m0_7 x8_5 (m1 1 (Int32.toNatClampNeg x8_5)) (m1 2 (Int32.toNatClampNeg x8_5)) (m2 4 (Int32.toNatClampNeg x3)) _ h) mv_X8_offer kw_378 rfl rfl ⟨Nat.le_of_ble_eq_true rfl, Nat.le_of_ble_eq_true rfl⟩ hPc hDc rfl rfl rfl hl.1 rfl (Nat.le_of_ble_eq_true rfl) dX8_goFrom_109 ⟨Nat.zero_le _, Nat.zero_le _⟩) rfl (fun u9 H locs hP hD hS h => ?_)
    obtain ⟨m0_10, rfl⟩ : ∃ z, z = u9 := ⟨_, rfl⟩
    have hP : va_P (dC, dI) vwCl (ww_X8_X4_X2 cI cJ q0 m0_10 q1 m1 q2 m2) H := hP
    have hD : va_D A (ww_X8_X4_X2 cI cJ q0 m0_10 q1 m1 q2 m2) := hD
    exact w_X8_goFrom_112 cx hA ih x3 x5 x6 x7 m0_10 H locs ls hP hD hS (lv_sub hl [1, 2, 3, 4, 5, 6, 7] rfl) h
set_option maxHeartbeats 4000000 in
set_option maxRecDepth 100000 in
theorem w_X8_goFrom_0 {p : Program} {l : Launch} {e : Env} {s : State} {m : MethodId} {args : Array Value} {below : List Frame} {meth : Method} {c : Code} {dC : Nat → ClassId} {dI : Nat → Nat → Nat} {cI cJ : ClassId} {A : Nat → Prop} (cx : CX RX8 cX8_goFrom none 9 p s m args meth c (dC, dI) (TY cI cJ)) (hA : ∀ q, s.heap.size ≤ q → A q) {q0 : Nat → Nat} {q1 : Nat → Nat} {q2 : Nat → Nat} {m1 : Mem} {m2 : Mem} {post : Mem → Prop} : ∀ (x3 : Int32) (x4 : Int32) (x5 : Int32) (m0 : Mem) (H : Heap) (locs : List Loc) (ls : Array Slot), va_P (dC, dI) vwCl (ww_X8_X4_X2 cI cJ q0 m0 q1 m1 q2 m2) H → va_D A (ww_X8_X4_X2 cI cJ q0 m0 q1 m1 q2 m2) → va_S A s.heap H locs → lv_has ls 9 [(0, .ref (q0 0)), (1, .ref (q1 0)), (2, .ref (q2 0)), (3, .int x3), (4, .int x4), (5, .int x5)] → b_X8_goFrom_0 m1 m2 post x3 x4 x5 m0 → W p l e ({ frames := 1, cells := 0, slots := 0, locals := 26 }) s m args below meth c H locs 0 0 (MQ below (va_Qv (S := Mem) (fun (u : Mem) => post u) (fun u t => AT (dC, dI) (TY cI cJ) A (ww_X8_X4_X2 cI cJ q0 u q1 m1 q2 m2) t) A) args s 0 0 A) (F0 m 0 ls []) := by
  obtain ⟨hx, hb, hr, hml, hown, hts, hlocks, hK⟩ := id cx
  have cx' : CX RX8 cX8_goFrom (meth.sig.returnType) 9 p s m args meth c (dC, dI) (TY cI cJ) := ⟨hx, hb, rfl, hml, hown, hts, hlocks, hK⟩
  intro x3 x4 x5 m0 H locs ls hP hD hS hl h
  unfold b_X8_goFrom_0 at h
  refine lv_aload_n hx hb dX8_goFrom_0 rfl (lv_at hl 0 rfl) ?_
  refine lv_aload_n hx hb dX8_goFrom_1 rfl (lv_at hl 2 rfl) ?_
  refine gf_v (k := 0) (v := .ref (q2 1)) cx' hP 7 i_X2 rfl rfl (by decide) kw_91 rfl rfl dX8_goFrom_2 ?_
  refine lv_iload_n hx hb dX8_goFrom_5 rfl (lv_at hl 3 rfl) ?_
  refine va_iald hx hb hK hP 8 0 rfl rfl h.1 dX8_goFrom_6 ?_
  have h := h.2
  refine callP_v (wc := ww_X8 cI cJ q0 m0) (wr_X8_X4_X2_2_3_4_5_6_7_8_9_10_11 cI cJ q0 m0 q1 m1 q2 m2) (fun (u : Mem) => ww_X8_X4_X2 cI cJ q0 u q1 m1 q2 m2) [0, 1] [2, 3, 4, 5, 6, 7, 8, 9, 10, 11] [10, 11, 0, 1, 2, 3, 4, 5, 6, 7, 8, 9] rfl rfl rfl (by decide) (fun _ => rfl) rfl hP hD hS hA (fun hPc hDc => run_V (As := [.int (m2 1 (Int32.toNatClampNeg x3))]) (rest := []) cx' (c_X8_clear l H.size q0 m0 (m2 1 (Int32.toNatClampNeg x3)) _ h) mv_X8_clear kw_370 rfl rfl ⟨Nat.le_of_ble_eq_true rfl, Nat.le_of_ble_eq_true rfl⟩ hPc hDc rfl rfl rfl hl.1 rfl (Nat.le_of_ble_eq_true rfl) dX8_goFrom_7 ⟨Nat.zero_le _, Nat.zero_le _⟩) rfl (fun u9 H locs hP hD hS h => ?_)
  obtain ⟨m0_1, rfl⟩ : ∃ z, z = u9 := ⟨_, rfl⟩
  have hP : va_P (dC, dI) vwCl (ww_X8_X4_X2 cI cJ q0 m0_1 q1 m1 q2 m2) H := hP
  have hD : va_D A (ww_X8_X4_X2 cI cJ q0 m0_1 q1 m1 q2 m2) := hD
  refine lv_iload hx hb dX8_goFrom_10 (lv_at hl 4 rfl) ?_
  refine lv_istore (lv' := [(6, .int x4), (0, .ref (q0 0)), (1, .ref (q1 0)), (2, .ref (q2 0)), (3, .int x3), (4, .int x4), (5, .int x5)]) hx hb dX8_goFrom_12 hl (by decide) rfl (fun ls hl => ?_)
  refine lv_iconst (v := 0) hx hb dX8_goFrom_14 (by decide) ?_
  refine lv_istore (lv' := [(7, .int 0), (6, .int x4), (0, .ref (q0 0)), (1, .ref (q1 0)), (2, .ref (q2 0)), (3, .int x3), (4, .int x4), (5, .int x5)]) hx hb dX8_goFrom_15 hl (by decide) rfl (fun ls hl => ?_)
  obtain ⟨n_2, h⟩ := h
  exact w_X8_goFrom_17 cx hA n_2 x3 x5 x4 0 m0_1 H locs ls hP hD hS (lv_sub hl [2, 3, 4, 5, 7, 1, 0] rfl) h
set_option maxRecDepth 100000 in
theorem c_X8_goFrom (l : Launch) {dC : Nat → ClassId} {dI : Nat → Nat → Nat} {cI cJ : ClassId} (sz : Nat) (q0 : Nat → Nat) (m0 : Mem) (q1 : Nat → Nat) (m1 : Mem) (q2 : Nat → Nat) (m2 : Mem) (x3 : Int32) (x4 : Int32) (x5 : Int32) (post : Mem → Prop) (h : wp_X8_goFrom m0 m1 m2 x3 x4 x5 post) : Met l yX8_goFrom (Cond.code yX8_goFrom cX8_goFrom 9 none :: gt) ({ frames := 1, cells := 0, slots := 0, locals := 26 }) (va_Pc [.ref (q0 0), .ref (q1 0), .ref (q2 0), .int x3, .int x4, .int x5] (PRE (dC, dI) (TY cI cJ) (ww_X8_X4_X2 cI cJ q0 m0 q1 m1 q2 m2) sz)) (va_Qv (S := Mem) (fun (u : Mem) => post u) (fun u t => AT (dC, dI) (TY cI cJ) (va_A (ww_X8_X4_X2 cI cJ q0 m0 q1 m1 q2 m2) sz) (ww_X8_X4_X2 cI cJ q0 u q1 m1 q2 m2) t) (va_A (ww_X8_X4_X2 cI cJ q0 m0 q1 m1 q2 m2) sz)) 0 0 (va_A (ww_X8_X4_X2 cI cJ q0 m0 q1 m1 q2 m2) sz) :=
  met_of (own := RX8) (Qf := fun A => va_Qv (S := Mem) (fun (u : Mem) => post u) (fun u t => AT (dC, dI) (TY cI cJ) A (ww_X8_X4_X2 cI cJ q0 u q1 m1 q2 m2) t) A) (by decide) rfl (Nat.le_of_ble_eq_true rfl) rfl (fun p e s m below meth c A cx hA ls hP hD hS hl => w_X8_goFrom_0 cx hA x3 x4 x5 m0 _ _ ls hP hD hS hl h)
theorem mv_X8_goFrom : MV yX8_goFrom cX8_goFrom 9 none 5 := ⟨⟨kw_369, kw_9, by decide +kernel⟩, kw_367, kw_368⟩
set_option maxHeartbeats 4000000 in
set_option maxRecDepth 100000 in
theorem w_X8_go_0 {p : Program} {l : Launch} {e : Env} {s : State} {m : MethodId} {args : Array Value} {below : List Frame} {meth : Method} {c : Code} {dC : Nat → ClassId} {dI : Nat → Nat → Nat} {cI cJ : ClassId} {A : Nat → Prop} (cx : CX RX8 cX8_go none 4 p s m args meth c (dC, dI) (TY cI cJ)) (hA : ∀ q, s.heap.size ≤ q → A q) {q0 : Nat → Nat} {q1 : Nat → Nat} {q2 : Nat → Nat} {m1 : Mem} {m2 : Mem} {post : Mem → Prop} : ∀ (x3 : Int32) (m0 : Mem) (H : Heap) (locs : List Loc) (ls : Array Slot), va_P (dC, dI) vwCl (ww_X8_X4_X2 cI cJ q0 m0 q1 m1 q2 m2) H → va_D A (ww_X8_X4_X2 cI cJ q0 m0 q1 m1 q2 m2) → va_S A s.heap H locs → lv_has ls 4 [(0, .ref (q0 0)), (1, .ref (q1 0)), (2, .ref (q2 0)), (3, .int x3)] → b_X8_go_0 m1 m2 post x3 m0 → W p l e ({ frames := 2, cells := 0, slots := 0, locals := 54 }) s m args below meth c H locs 0 0 (MQ below (va_Qv (S := Mem) (fun (u : Mem) => post u) (fun u t => AT (dC, dI) (TY cI cJ) A (ww_X8_X4_X2 cI cJ q0 u q1 m1 q2 m2) t) A) args s 0 0 A) (F0 m 0 ls []) := by
  obtain ⟨hx, hb, hr, hml, hown, hts, hlocks, hK⟩ := id cx
  have cx' : CX RX8 cX8_go (meth.sig.returnType) 4 p s m args meth c (dC, dI) (TY cI cJ) := ⟨hx, hb, rfl, hml, hown, hts, hlocks, hK⟩
  intro x3 m0 H locs ls hP hD hS hl h
  unfold b_X8_go_0 at h
  refine lv_aload_n hx hb dX8_go_0 rfl (lv_at hl 0 rfl) ?_
  refine lv_aload_n hx hb dX8_go_1 rfl (lv_at hl 1 rfl) ?_
  refine lv_aload_n hx hb dX8_go_2 rfl (lv_at hl 2 rfl) ?_
  refine lv_iload_n hx hb dX8_go_3 rfl (lv_at hl 3 rfl) ?_
  refine lv_aload_n hx hb dX8_go_4 rfl (lv_at hl 2 rfl) ?_
  refine gf_v (k := 1) (v := .ref (q2 2)) cx' hP 7 i_X2 rfl rfl (by decide) kw_94 rfl rfl dX8_go_5 ?_
  refine lv_iload_n hx hb dX8_go_8 rfl (lv_at hl 3 rfl) ?_
  refine va_iald hx hb hK hP 9 0 rfl rfl h.1 dX8_go_9 ?_
  have h := h.2
  refine lv_aload_n hx hb dX8_go_10 rfl (lv_at hl 2 rfl) ?_
  refine gf_v (k := 2) (v := .ref (q2 3)) cx' hP 7 i_X2 rfl rfl (by decide) kw_97 rfl rfl dX8_go_11 ?_
  refine lv_iload_n hx hb dX8_go_14 rfl (lv_at hl 3 rfl) ?_
  refine va_iald hx hb hK hP 10 0 rfl rfl h.1 dX8_go_15 ?_
  have h := h.2
  refine call_v (run_V (As := [.ref (q1 0), .ref (q2 0), .int x3, .int (m2 2 (Int32.toNatClampNeg x3)), .int (m2 3 (Int32.toNatClampNeg x3))]) (rest := []) cx' (c_X8_goFrom l H.size q0 m0 q1 m1 q2 m2 x3 (m2 2 (Int32.toNatClampNeg x3)) (m2 3 (Int32.toNatClampNeg x3)) _ h) mv_X8_goFrom kw_366 rfl rfl ⟨Nat.le_of_ble_eq_true rfl, Nat.le_of_ble_eq_true rfl⟩ hP hD rfl rfl rfl hl.1 rfl (Nat.le_of_ble_eq_true rfl) dX8_go_16 ⟨Nat.zero_le _, Nat.zero_le _⟩) hD hS hA (fun u9 H locs hP hD hS h => ?_)
  obtain ⟨m0_1, rfl⟩ : ∃ z, z = u9 := ⟨_, rfl⟩
  have hP : va_P (dC, dI) vwCl (ww_X8_X4_X2 cI cJ q0 m0_1 q1 m1 q2 m2) H := hP
  have hD : va_D A (ww_X8_X4_X2 cI cJ q0 m0_1 q1 m1 q2 m2) := hD
  exact rt_v (u := m0_1) cx hP hD hS h dX8_go_19
set_option maxRecDepth 100000 in
theorem c_X8_go (l : Launch) {dC : Nat → ClassId} {dI : Nat → Nat → Nat} {cI cJ : ClassId} (sz : Nat) (q0 : Nat → Nat) (m0 : Mem) (q1 : Nat → Nat) (m1 : Mem) (q2 : Nat → Nat) (m2 : Mem) (x3 : Int32) (post : Mem → Prop) (h : wp_X8_go m0 m1 m2 x3 post) : Met l yX8_go (Cond.code yX8_go cX8_go 4 none :: gt) ({ frames := 2, cells := 0, slots := 0, locals := 54 }) (va_Pc [.ref (q0 0), .ref (q1 0), .ref (q2 0), .int x3] (PRE (dC, dI) (TY cI cJ) (ww_X8_X4_X2 cI cJ q0 m0 q1 m1 q2 m2) sz)) (va_Qv (S := Mem) (fun (u : Mem) => post u) (fun u t => AT (dC, dI) (TY cI cJ) (va_A (ww_X8_X4_X2 cI cJ q0 m0 q1 m1 q2 m2) sz) (ww_X8_X4_X2 cI cJ q0 u q1 m1 q2 m2) t) (va_A (ww_X8_X4_X2 cI cJ q0 m0 q1 m1 q2 m2) sz)) 0 0 (va_A (ww_X8_X4_X2 cI cJ q0 m0 q1 m1 q2 m2) sz) :=
  met_of (own := RX8) (Qf := fun A => va_Qv (S := Mem) (fun (u : Mem) => post u) (fun u t => AT (dC, dI) (TY cI cJ) A (ww_X8_X4_X2 cI cJ q0 u q1 m1 q2 m2) t) A) (by decide) rfl (Nat.le_of_ble_eq_true rfl) rfl (fun p e s m below meth c A cx hA ls hP hD hS hl => w_X8_go_0 cx hA x3 m0 _ _ ls hP hD hS hl h)
theorem mv_X8_go : MV yX8_go cX8_go 4 none 3 := ⟨⟨kw_365, kw_9, by decide +kernel⟩, kw_363, kw_364⟩
set_option maxHeartbeats 4000000 in
set_option maxRecDepth 100000 in
theorem w_X1_hold_40 {p : Program} {l : Launch} {e : Env} {s : State} {m : MethodId} {args : Array Value} {below : List Frame} {meth : Method} {c : Code} {dC : Nat → ClassId} {dI : Nat → Nat → Nat} {cI cJ : ClassId} {A : Nat → Prop} (cx : CX RX1 cX1_hold none 5 p s m args meth c (dC, dI) (TY cI cJ)) (hA : ∀ q, s.heap.size ≤ q → A q) {q0 : Nat → Nat} {q1 : Nat → Nat} {q2 : Nat → Nat} {q3 : Nat → Nat} {m1 : Mem} {m2 : Mem} {post : Mem → Mem → Prop} : ∀ (n : Nat) (x4 : Int32) (m0 : Mem) (m3 : Mem) (H : Heap) (locs : List Loc) (ls : Array Slot), va_P (dC, dI) vwCl (ww_X1_X4_X2_X8 cI cJ q0 m0 q1 m1 q2 m2 q3 m3) H → va_D A (ww_X1_X4_X2_X8 cI cJ q0 m0 q1 m1 q2 m2 q3 m3) → va_S A s.heap H locs → lv_has ls 5 [(0, .ref (q0 0)), (1, .ref (q1 0)), (2, .ref (q2 0)), (3, .ref (q3 0)), (4, .int x4)] → b_X1_hold_40 m1 m2 post n x4 m0 m3 → W p l e ({ frames := 3, cells := 0, slots := 0, locals := 77 }) s m args below meth c H locs 0 0 (MQ below (va_Qv (S := Mem × Mem) (fun (u : Mem × Mem) => post u.1 u.2) (fun u t => AT (dC, dI) (TY cI cJ) A (ww_X1_X4_X2_X8 cI cJ q0 (u.1) q1 m1 q2 m2 q3 (u.2)) t) A) args s 0 0 A) (F0 m 40 ls []) := by
  obtain ⟨hx, hb, hr, hml, hown, hts, hlocks, hK⟩ := id cx
  have cx' : CX RX1 cX1_hold (meth.sig.returnType) 5 p s m args meth c (dC, dI) (TY cI cJ) := ⟨hx, hb, rfl, hml, hown, hts, hlocks, hK⟩
  intro n
  induction n with
  | zero =>
    intro x4 m0 m3 H locs ls hP hD hS hl h
    exact False.elim h
  | succ n ih =>
    intro x4 m0 m3 H locs ls hP hD hS hl h
    unfold b_X1_hold_40 at h
    refine lv_iload hx hb dX1_hold_40 (lv_at hl 4 rfl) ?_
    refine lv_aload_n hx hb dX1_hold_42 rfl (lv_at hl 2 rfl) ?_
    refine gf_v (k := 4) (v := .int (m2 0 4)) cx' hP 13 i_X2 rfl rfl (by decide) kw_103 rfl rfl dX1_hold_43 ?_
    refine lv_icmp_ge (tgt := 70) hx hb dX1_hold_46 (by decide) (fun c_1 => ?_) (fun c_1 => ?_)
    · have h := h.1 c_1
      exact rt_v (u := (m0, m3)) cx hP hD hS h dX1_hold_70
    have h := h.2 c_1
    refine lv_aload_n hx hb dX1_hold_49 rfl (lv_at hl 3 rfl) ?_
    refine lv_aload_n hx hb dX1_hold_50 rfl (lv_at hl 1 rfl) ?_
    refine lv_aload_n hx hb dX1_hold_51 rfl (lv_at hl 2 rfl) ?_
    refine lv_iload hx hb dX1_hold_52 (lv_at hl 4 rfl) ?_
    refine callP_v (wc := ww_X8_X4_X2 cI cJ q3 m3 q1 m1 q2 m2) (wr_X1_X4_X2_X8_0_1_2_3_4_5_6_7 cI cJ q0 m0 q1 m1 q2 m2 q3 m3) (fun (u : Mem) => ww_X1_X4_X2_X8 cI cJ q0 m0 q1 m1 q2 m2 q3 u) [18, 19, 8, 9, 10, 11, 12, 13, 14, 15, 16, 17] [0, 1, 2, 3, 4, 5, 6, 7] [0, 1, 2, 3, 4, 5, 6, 7, 10, 11, 12, 13, 14, 15, 16, 17, 18, 19, 8, 9] rfl rfl rfl (by decide) (fun _ => rfl) rfl hP hD hS hA (fun hPc hDc => run_V (As := [.ref (q1 0), .ref (q2 0), .int x4]) (rest := []) cx' (c_X8_go l H.size q3 m3 q1 m1 q2 m2 x4 _ h) mv_X8_go kw_362 rfl rfl ⟨Nat.le_of_ble_eq_true rfl, Nat.le_of_ble_eq_true rfl⟩ hPc hDc rfl rfl rfl hl.1 rfl (Nat.le_of_ble_eq_true rfl) dX1_hold_54 ⟨Nat.zero_le _, Nat.zero_le _⟩) rfl (fun u9 H locs hP hD hS h => ?_)
    obtain ⟨m3_2, rfl⟩ : ∃ z, z = u9 := ⟨_, rfl⟩
    have hP : va_P (dC, dI) vwCl (ww_X1_X4_X2_X8 cI cJ q0 m0 q1 m1 q2 m2 q3 m3_2) H := hP
    have hD : va_D A (ww_X1_X4_X2_X8 cI cJ q0 m0 q1 m1 q2 m2 q3 m3_2) := hD
    refine lv_aload_n hx hb dX1_hold_57 rfl (lv_at hl 0 rfl) ?_
    refine lv_iload hx hb dX1_hold_58 (lv_at hl 4 rfl) ?_
    refine lv_aload_n hx hb dX1_hold_60 rfl (lv_at hl 3 rfl) ?_
    refine callP_v (wc := ww_X1_X8 cI cJ q0 m0 q3 m3_2) (wr_X1_X4_X2_X8_8_9_10_11_12_13_14_15_16_17 cI cJ q0 m0 q1 m1 q2 m2 q3 m3_2) (fun (u : Mem) => ww_X1_X4_X2_X8 cI cJ q0 u q1 m1 q2 m2 q3 m3_2) [0, 1, 2, 3, 4, 5, 6, 7, 18, 19] [8, 9, 10, 11, 12, 13, 14, 15, 16, 17] [10, 11, 12, 13, 14, 15, 16, 17, 0, 1, 2, 3, 4, 5, 6, 7, 8, 9, 18, 19] rfl rfl rfl (by decide) (fun _ => rfl) rfl hP hD hS hA (fun hPc hDc => run_V (As := [.int x4, .ref (q3 0)]) (rest := []) cx' (c_X1_enter l H.size q0 m0 q3 m3_2 x4 _ h) mv_X1_enter kw_382 rfl rfl ⟨Nat.le_of_ble_eq_true rfl, Nat.le_of_ble_eq_true rfl⟩ hPc hDc rfl rfl rfl hl.1 rfl (Nat.le_of_ble_eq_true rfl) dX1_hold_61 ⟨Nat.zero_le _, Nat.zero_le _⟩) rfl (fun u9 H locs hP hD hS h => ?_)
    obtain ⟨m0_3, rfl⟩ : ∃ z, z = u9 := ⟨_, rfl⟩
    have hP : va_P (dC, dI) vwCl (ww_X1_X4_X2_X8 cI cJ q0 m0_3 q1 m1 q2 m2 q3 m3_2) H := hP
    have hD : va_D A (ww_X1_X4_X2_X8 cI cJ q0 m0_3 q1 m1 q2 m2 q3 m3_2) := hD
    obtain ⟨x4_4, ex4_4⟩ : ∃ z : Int32, z = x4 + 1 := ⟨_, rfl⟩
    have h := h x4_4 ex4_4
    refine lv_iinc (v := x4_4) (lv' := [(4, .int x4_4), (0, .ref (q0 0)), (1, .ref (q1 0)), (2, .ref (q2 0)), (3, .ref (q3 0))]) hx hb dX1_hold_64 hl (k := 4) rfl (by rw [ex4_4]; rfl) (by decide) rfl (fun ls hl => ?_)
    refine lv_goto (tgt := 40) hx hb dX1_hold_67 (by decide) ?_
    exact ih x4_4 m0_3 m3_2 H locs ls hP hD hS (lv_sub hl [1, 2, 3, 4, 0] rfl) h
set_option maxHeartbeats 4000000 in
set_option maxRecDepth 100000 in
theorem w_X1_hold_8 {p : Program} {l : Launch} {e : Env} {s : State} {m : MethodId} {args : Array Value} {below : List Frame} {meth : Method} {c : Code} {dC : Nat → ClassId} {dI : Nat → Nat → Nat} {cI cJ : ClassId} {A : Nat → Prop} (cx : CX RX1 cX1_hold none 5 p s m args meth c (dC, dI) (TY cI cJ)) (hA : ∀ q, s.heap.size ≤ q → A q) {q0 : Nat → Nat} {q1 : Nat → Nat} {q2 : Nat → Nat} {q3 : Nat → Nat} {m1 : Mem} {m2 : Mem} {post : Mem → Mem → Prop} : ∀ (n : Nat) (x4 : Int32) (m0 : Mem) (m3 : Mem) (H : Heap) (locs : List Loc) (ls : Array Slot), va_P (dC, dI) vwCl (ww_X1_X4_X2_X8 cI cJ q0 m0 q1 m1 q2 m2 q3 m3) H → va_D A (ww_X1_X4_X2_X8 cI cJ q0 m0 q1 m1 q2 m2 q3 m3) → va_S A s.heap H locs → lv_has ls 5 [(0, .ref (q0 0)), (1, .ref (q1 0)), (2, .ref (q2 0)), (3, .ref (q3 0)), (4, .int x4)] → b_X1_hold_8 m1 m2 post n x4 m0 m3 → W p l e ({ frames := 3, cells := 0, slots := 0, locals := 77 }) s m args below meth c H locs 0 0 (MQ below (va_Qv (S := Mem × Mem) (fun (u : Mem × Mem) => post u.1 u.2) (fun u t => AT (dC, dI) (TY cI cJ) A (ww_X1_X4_X2_X8 cI cJ q0 (u.1) q1 m1 q2 m2 q3 (u.2)) t) A) args s 0 0 A) (F0 m 8 ls []) := by
  obtain ⟨hx, hb, hr, hml, hown, hts, hlocks, hK⟩ := id cx
  have cx' : CX RX1 cX1_hold (meth.sig.returnType) 5 p s m args meth c (dC, dI) (TY cI cJ) := ⟨hx, hb, rfl, hml, hown, hts, hlocks, hK⟩
  intro n
  induction n with
  | zero =>
    intro x4 m0 m3 H locs ls hP hD hS hl h
    exact False.elim h
  | succ n ih =>
    intro x4 m0 m3 H locs ls hP hD hS hl h
    unfold b_X1_hold_8 at h
    refine lv_iload hx hb dX1_hold_8 (lv_at hl 4 rfl) ?_
    refine lv_bipush (v := 8) hx hb dX1_hold_10 (by decide) ?_
    refine lv_icmp_ge (tgt := 37) hx hb dX1_hold_12 (by decide) (fun c_1 => ?_) (fun c_1 => ?_)
    · have h := h.1 c_1
      refine lv_iconst (v := 0) hx hb dX1_hold_37 (by decide) ?_
      refine lv_istore (lv' := [(4, .int 0), (0, .ref (q0 0)), (1, .ref (q1 0)), (2, .ref (q2 0)), (3, .ref (q3 0))]) hx hb dX1_hold_38 hl (by decide) rfl (fun ls hl => ?_)
      obtain ⟨n_2, h⟩ := h
      exact w_X1_hold_40 cx hA n_2 0 m0 m3 H locs ls hP hD hS (lv_sub hl [1, 2, 3, 4, 0] rfl) h
    have h := h.2 c_1
    refine lv_aload_n hx hb dX1_hold_15 rfl (lv_at hl 0 rfl) ?_
    refine gf_v (k := 5) (v := .ref (q0 6)) cx' hP 0 i_X1 rfl rfl (by decide) kw_131 rfl rfl dX1_hold_16 ?_
    refine lv_iload hx hb dX1_hold_19 (lv_at hl 4 rfl) ?_
    refine lv_iconst (v := 0) hx hb dX1_hold_21 (by decide) ?_
    obtain ⟨m0_3, em0_3⟩ : ∃ z : Mem, z = up2 m0 6 (Int32.toNatClampNeg x4) 0 := ⟨_, rfl⟩
    have h1 := h.1
    have h := h.2 m0_3 em0_3
    refine st_i hx hb hK hP hD hS 6 0 (ww_X1_X4_X2_X8 cI cJ q0 m0_3 q1 m1 q2 m2 q3 m3) rfl rfl h1 dX1_hold_22 (by subst em0_3; rfl) (fun H locs hP hD hS => ?_)
    refine lv_aload_n hx hb dX1_hold_23 rfl (lv_at hl 0 rfl) ?_
    refine gf_v (k := 6) (v := .ref (q0 7)) cx' hP 0 i_X1 rfl rfl (by decide) kw_133 rfl rfl dX1_hold_24 ?_
    refine lv_iload hx hb dX1_hold_27 (lv_at hl 4 rfl) ?_
    refine lv_iconst (v := 0) hx hb dX1_hold_29 (by decide) ?_
    obtain ⟨m0_4, em0_4⟩ : ∃ z : Mem, z = up2 m0_3 7 (Int32.toNatClampNeg x4) 0 := ⟨_, rfl⟩
    have h1 := h.1
    have h := h.2 m0_4 em0_4
    refine st_i hx hb hK hP hD hS 7 0 (ww_X1_X4_X2_X8 cI cJ q0 m0_4 q1 m1 q2 m2 q3 m3) rfl rfl h1 dX1_hold_30 (by subst em0_4; rfl) (fun H locs hP hD hS => ?_)
    obtain ⟨x4_5, ex4_5⟩ : ∃ z : Int32, z = x4 + 1 := ⟨_, rfl⟩
    have h := h x4_5 ex4_5
    refine lv_iinc (v := x4_5) (lv' := [(4, .int x4_5), (0, .ref (q0 0)), (1, .ref (q1 0)), (2, .ref (q2 0)), (3, .ref (q3 0))]) hx hb dX1_hold_31 hl (k := 4) rfl (by rw [ex4_5]; rfl) (by decide) rfl (fun ls hl => ?_)
    refine lv_goto (tgt := 8) hx hb dX1_hold_34 (by decide) ?_
    exact ih x4_5 m0_4 m3 H locs ls hP hD hS (lv_sub hl [1, 2, 3, 4, 0] rfl) h
set_option maxHeartbeats 4000000 in
set_option maxRecDepth 100000 in
theorem w_X1_hold_0 {p : Program} {l : Launch} {e : Env} {s : State} {m : MethodId} {args : Array Value} {below : List Frame} {meth : Method} {c : Code} {dC : Nat → ClassId} {dI : Nat → Nat → Nat} {cI cJ : ClassId} {A : Nat → Prop} (cx : CX RX1 cX1_hold none 5 p s m args meth c (dC, dI) (TY cI cJ)) (hA : ∀ q, s.heap.size ≤ q → A q) {q0 : Nat → Nat} {q1 : Nat → Nat} {q2 : Nat → Nat} {q3 : Nat → Nat} {m1 : Mem} {m2 : Mem} {post : Mem → Mem → Prop} : ∀ (m0 : Mem) (m3 : Mem) (H : Heap) (locs : List Loc) (ls : Array Slot), va_P (dC, dI) vwCl (ww_X1_X4_X2_X8 cI cJ q0 m0 q1 m1 q2 m2 q3 m3) H → va_D A (ww_X1_X4_X2_X8 cI cJ q0 m0 q1 m1 q2 m2 q3 m3) → va_S A s.heap H locs → lv_has ls 5 [(0, .ref (q0 0)), (1, .ref (q1 0)), (2, .ref (q2 0)), (3, .ref (q3 0))] → b_X1_hold_0 m1 m2 post m0 m3 → W p l e ({ frames := 3, cells := 0, slots := 0, locals := 77 }) s m args below meth c H locs 0 0 (MQ below (va_Qv (S := Mem × Mem) (fun (u : Mem × Mem) => post u.1 u.2) (fun u t => AT (dC, dI) (TY cI cJ) A (ww_X1_X4_X2_X8 cI cJ q0 (u.1) q1 m1 q2 m2 q3 (u.2)) t) A) args s 0 0 A) (F0 m 0 ls []) := by
  obtain ⟨hx, hb, hr, hml, hown, hts, hlocks, hK⟩ := id cx
  have cx' : CX RX1 cX1_hold (meth.sig.returnType) 5 p s m args meth c (dC, dI) (TY cI cJ) := ⟨hx, hb, rfl, hml, hown, hts, hlocks, hK⟩
  intro m0 m3 H locs ls hP hD hS hl h
  unfold b_X1_hold_0 at h
  refine lv_aload_n hx hb dX1_hold_0 rfl (lv_at hl 0 rfl) ?_
  refine lv_iconst (v := 0) hx hb dX1_hold_1 (by decide) ?_
  obtain ⟨m0_1, em0_1⟩ : ∃ z : Mem, z = up2 m0 0 7 0 := ⟨_, rfl⟩
  have h := h m0_1 em0_1
  refine pf_v (k := 7) (tf := .int) cx' hP hD hS 0 (ww_X1_X4_X2_X8 cI cJ q0 m0_1 q1 m1 q2 m2 q3 m3) i_X1 tyX1 tyX1_ok nmX1 rfl rfl (by decide) kw_135 rfl rfl rfl rfl rfl (Nat.le_of_ble_eq_true rfl) dX1_hold_2 (by subst em0_1; rfl) (fun H locs hP hD hS => ?_)
  refine lv_iconst (v := 0) hx hb dX1_hold_5 (by decide) ?_
  refine lv_istore (lv' := [(4, .int 0), (0, .ref (q0 0)), (1, .ref (q1 0)), (2, .ref (q2 0)), (3, .ref (q3 0))]) hx hb dX1_hold_6 hl (by decide) rfl (fun ls hl => ?_)
  obtain ⟨n_2, h⟩ := h
  exact w_X1_hold_8 cx hA n_2 0 m0_1 m3 H locs ls hP hD hS (lv_sub hl [1, 2, 3, 4, 0] rfl) h
set_option maxRecDepth 100000 in
theorem c_X1_hold (l : Launch) {dC : Nat → ClassId} {dI : Nat → Nat → Nat} {cI cJ : ClassId} (sz : Nat) (q0 : Nat → Nat) (m0 : Mem) (q1 : Nat → Nat) (m1 : Mem) (q2 : Nat → Nat) (m2 : Mem) (q3 : Nat → Nat) (m3 : Mem) (post : Mem → Mem → Prop) (h : wp_X1_hold m0 m1 m2 m3 post) : Met l yX1_hold (Cond.code yX1_hold cX1_hold 5 none :: gt) ({ frames := 3, cells := 0, slots := 0, locals := 77 }) (va_Pc [.ref (q0 0), .ref (q1 0), .ref (q2 0), .ref (q3 0)] (PRE (dC, dI) (TY cI cJ) (ww_X1_X4_X2_X8 cI cJ q0 m0 q1 m1 q2 m2 q3 m3) sz)) (va_Qv (S := Mem × Mem) (fun (u : Mem × Mem) => post u.1 u.2) (fun u t => AT (dC, dI) (TY cI cJ) (va_A (ww_X1_X4_X2_X8 cI cJ q0 m0 q1 m1 q2 m2 q3 m3) sz) (ww_X1_X4_X2_X8 cI cJ q0 (u.1) q1 m1 q2 m2 q3 (u.2)) t) (va_A (ww_X1_X4_X2_X8 cI cJ q0 m0 q1 m1 q2 m2 q3 m3) sz)) 0 0 (va_A (ww_X1_X4_X2_X8 cI cJ q0 m0 q1 m1 q2 m2 q3 m3) sz) :=
  met_of (own := RX1) (Qf := fun A => va_Qv (S := Mem × Mem) (fun (u : Mem × Mem) => post u.1 u.2) (fun u t => AT (dC, dI) (TY cI cJ) A (ww_X1_X4_X2_X8 cI cJ q0 (u.1) q1 m1 q2 m2 q3 (u.2)) t) A) (by decide) rfl (Nat.le_of_ble_eq_true rfl) rfl (fun p e s m below meth c A cx hA ls hP hD hS hl => w_X1_hold_0 cx hA m0 m3 _ _ ls hP hD hS hl h)
theorem mv_X1_hold : MV yX1_hold cX1_hold 5 none 3 := ⟨⟨kw_361, kw_5, by decide +kernel⟩, kw_359, kw_360⟩

set_option maxHeartbeats 4000000 in
set_option maxRecDepth 100000 in
theorem w_X7_byteOf_0 {p : Program} {l : Launch} {e : Env} {s : State} {m : MethodId} {args : Array Value} {below : List Frame} {meth : Method} {c : Code} {dC : Nat → ClassId} {dI : Nat → Nat → Nat} {cI cJ : ClassId} {A : Nat → Prop} (cx : CX RX7 cX7_byteOf (some .int) 4 p s m args meth c (dC, dI) (TY cI cJ)) (hA : ∀ q, s.heap.size ≤ q → A q) {q0 : Nat → Nat} {n0 : Nat} {m0 : Mem} {post : Int32 → Prop} : ∀ (x1 : Int32) (x2 : Int32) (H : Heap) (locs : List Loc) (ls : Array Slot), va_P (dC, dI) vwCl (ww_X7 cI cJ n0 q0 m0) H → va_D A (ww_X7 cI cJ n0 q0 m0) → va_S A s.heap H locs → lv_has ls 4 [(0, .ref (q0 0)), (1, .int x1), (2, .int x2)] → b_X7_byteOf_0 n0 m0 post x1 x2 → W p l e ({ frames := 0, cells := 0, slots := 0, locals := 0 }) s m args below meth c H locs 0 0 (MQ below (va_Qi (S := Unit) (fun (r : Int32) (_u : Unit) => post r) (fun _u t => AT (dC, dI) (TY cI cJ) A (ww_X7 cI cJ n0 q0 m0) t) A) args s 0 0 A) (F0 m 0 ls []) := by
  obtain ⟨hx, hb, hr, hml, hown, hts, hlocks, hK⟩ := id cx
  have cx' : CX RX7 cX7_byteOf (meth.sig.returnType) 4 p s m args meth c (dC, dI) (TY cI cJ) := ⟨hx, hb, rfl, hml, hown, hts, hlocks, hK⟩
  intro x1 x2 H locs ls hP hD hS hl h
  unfold b_X7_byteOf_0 at h
  refine lv_iload_n hx hb dX7_byteOf_0 rfl (lv_at hl 1 rfl) ?_
  refine lv_aload_n hx hb dX7_byteOf_1 rfl (lv_at hl 0 rfl) ?_
  refine gf_v (k := 1) (v := .int (m0 0 1)) cx' hP 0 i_X7 rfl rfl (by decide) kw_30 rfl rfl dX7_byteOf_2 ?_
  refine lv_imul hx hb dX7_byteOf_5 ?_
  refine lv_iload_n hx hb dX7_byteOf_6 rfl (lv_at hl 2 rfl) ?_
  refine lv_iadd hx hb dX7_byteOf_7 ?_
  refine lv_topi (fun x3_1 ex3_1 => ?_)
  have h := h x3_1 ex3_1
  refine lv_istore_n (lv' := [(3, .int x3_1), (0, .ref (q0 0)), (1, .int x1), (2, .int x2)]) hx hb dX7_byteOf_8 rfl hl (by decide) rfl (fun ls hl => ?_)
  refine lv_iload_n hx hb dX7_byteOf_9 rfl (lv_at hl 0 rfl) ?_
  refine lv_if_lt (tgt := 30) hx hb dX7_byteOf_10 (by decide) (fun c_2 => ?_) (fun c_2 => ?_)
  · have h := h.1 c_2
    refine lv_iconst (v := 0) hx hb dX7_byteOf_30 (by decide) ?_
    exact rt_i (v := 0) (u := ()) cx hP hD hS h dX7_byteOf_31
  have h := h.2 c_2
  refine lv_iload_n hx hb dX7_byteOf_13 rfl (lv_at hl 0 rfl) ?_
  refine lv_aload_n hx hb dX7_byteOf_14 rfl (lv_at hl 1 rfl) ?_
  refine gf_v (k := 3) (v := .int (m0 0 3)) cx' hP 0 i_X7 rfl rfl (by decide) kw_33 rfl rfl dX7_byteOf_15 ?_
  refine lv_icmp_ge (tgt := 30) hx hb dX7_byteOf_18 (by decide) (fun c_3 => ?_) (fun c_3 => ?_)
  · have h := h.1 c_3
    refine lv_iconst (v := 0) hx hb dX7_byteOf_30 (by decide) ?_
    exact rt_i (v := 0) (u := ()) cx hP hD hS h dX7_byteOf_31
  have h := h.2 c_3
  refine lv_aload_n hx hb dX7_byteOf_21 rfl (lv_at hl 1 rfl) ?_
  refine gf_v (k := 2) (v := .ref (q0 1)) cx' hP 0 i_X7 rfl rfl (by decide) kw_31 rfl rfl dX7_byteOf_22 ?_
  refine lv_iload_n hx hb dX7_byteOf_25 rfl (lv_at hl 0 rfl) ?_
  refine va_iald hx hb hK hP 1 0 rfl rfl h.1 dX7_byteOf_26 ?_
  have h := h.2
  refine lv_goto (tgt := 31) hx hb dX7_byteOf_27 (by decide) ?_
  exact rt_i (v := m0 1 (Int32.toNatClampNeg x3_1)) (u := ()) cx hP hD hS h dX7_byteOf_31
set_option maxRecDepth 100000 in
theorem c_X7_byteOf (l : Launch) {dC : Nat → ClassId} {dI : Nat → Nat → Nat} {cI cJ : ClassId} (sz : Nat) (n0 : Nat) (q0 : Nat → Nat) (m0 : Mem) (x1 : Int32) (x2 : Int32) (post : Int32 → Prop) (h : wp_X7_byteOf n0 m0 x1 x2 post) : Met l yX7_byteOf (Cond.code yX7_byteOf cX7_byteOf 4 (some .int) :: gt) ({ frames := 0, cells := 0, slots := 0, locals := 0 }) (va_Pc [.ref (q0 0), .int x1, .int x2] (PRE (dC, dI) (TY cI cJ) (ww_X7 cI cJ n0 q0 m0) sz)) (va_Qi (S := Unit) (fun (r : Int32) (_u : Unit) => post r) (fun _u t => AT (dC, dI) (TY cI cJ) (va_A (ww_X7 cI cJ n0 q0 m0) sz) (ww_X7 cI cJ n0 q0 m0) t) (va_A (ww_X7 cI cJ n0 q0 m0) sz)) 0 0 (va_A (ww_X7 cI cJ n0 q0 m0) sz) :=
  met_of (own := RX7) (Qf := fun A => va_Qi (S := Unit) (fun (r : Int32) (_u : Unit) => post r) (fun _u t => AT (dC, dI) (TY cI cJ) A (ww_X7 cI cJ n0 q0 m0) t) A) (by decide) rfl (Nat.le_of_ble_eq_true rfl) rfl (fun p e s m below meth c A cx hA ls hP hD hS hl => w_X7_byteOf_0 cx hA x1 x2 _ _ ls hP hD hS hl h)
theorem mv_X7_byteOf : MV yX7_byteOf cX7_byteOf 4 (some .int) 2 := ⟨⟨kw_343, kw_2, by decide +kernel⟩, kw_341, kw_342⟩
set_option maxHeartbeats 4000000 in
set_option maxRecDepth 100000 in
theorem w_X7_figureOf_0 {p : Program} {l : Launch} {e : Env} {s : State} {m : MethodId} {args : Array Value} {below : List Frame} {meth : Method} {c : Code} {dC : Nat → ClassId} {dI : Nat → Nat → Nat} {cI cJ : ClassId} {A : Nat → Prop} (cx : CX RX7 cX7_figureOf (some .int) 3 p s m args meth c (dC, dI) (TY cI cJ)) (hA : ∀ q, s.heap.size ≤ q → A q) {q0 : Nat → Nat} {n0 : Nat} {m0 : Mem} {post : Int32 → Prop} : ∀ (x1 : Int32) (x2 : Int32) (H : Heap) (locs : List Loc) (ls : Array Slot), va_P (dC, dI) vwCl (ww_X7 cI cJ n0 q0 m0) H → va_D A (ww_X7 cI cJ n0 q0 m0) → va_S A s.heap H locs → lv_has ls 3 [(0, .ref (q0 0)), (1, .int x1), (2, .int x2)] → b_X7_figureOf_0 n0 m0 post x1 x2 → W p l e ({ frames := 1, cells := 0, slots := 0, locals := 23 }) s m args below meth c H locs 0 0 (MQ below (va_Qi (S := Unit) (fun (r : Int32) (_u : Unit) => post r) (fun _u t => AT (dC, dI) (TY cI cJ) A (ww_X7 cI cJ n0 q0 m0) t) A) args s 0 0 A) (F0 m 0 ls []) := by
  obtain ⟨hx, hb, hr, hml, hown, hts, hlocks, hK⟩ := id cx
  have cx' : CX RX7 cX7_figureOf (meth.sig.returnType) 3 p s m args meth c (dC, dI) (TY cI cJ) := ⟨hx, hb, rfl, hml, hown, hts, hlocks, hK⟩
  intro x1 x2 H locs ls hP hD hS hl h
  unfold b_X7_figureOf_0 at h
  refine lv_aload_n hx hb dX7_figureOf_0 rfl (lv_at hl 0 rfl) ?_
  refine lv_iload_n hx hb dX7_figureOf_1 rfl (lv_at hl 1 rfl) ?_
  refine lv_iload_n hx hb dX7_figureOf_2 rfl (lv_at hl 2 rfl) ?_
  refine call_i (run_V (As := [.int x1, .int x2]) (rest := []) cx' (c_X7_byteOf l H.size n0 q0 m0 x1 x2 _ h) mv_X7_byteOf kw_349 rfl rfl ⟨Nat.le_of_ble_eq_true rfl, Nat.le_of_ble_eq_true rfl⟩ hP hD rfl rfl rfl hl.1 rfl (Nat.le_of_ble_eq_true rfl) dX7_figureOf_3 ⟨Nat.zero_le _, Nat.zero_le _⟩) hD hS hA (fun r_1 u9 H locs hP hD hS h => ?_)
  have hP : va_P (dC, dI) vwCl (ww_X7 cI cJ n0 q0 m0) H := hP
  have hD : va_D A (ww_X7 cI cJ n0 q0 m0) := hD
  refine lv_bipush (v := 48) hx hb dX7_figureOf_6 (by decide) ?_
  refine lv_isub hx hb dX7_figureOf_8 ?_
  exact rt_i (v := r_1 - 48) (u := ()) cx hP hD hS h dX7_figureOf_9
set_option maxRecDepth 100000 in
theorem c_X7_figureOf (l : Launch) {dC : Nat → ClassId} {dI : Nat → Nat → Nat} {cI cJ : ClassId} (sz : Nat) (n0 : Nat) (q0 : Nat → Nat) (m0 : Mem) (x1 : Int32) (x2 : Int32) (post : Int32 → Prop) (h : wp_X7_figureOf n0 m0 x1 x2 post) : Met l yX7_figureOf (Cond.code yX7_figureOf cX7_figureOf 3 (some .int) :: gt) ({ frames := 1, cells := 0, slots := 0, locals := 23 }) (va_Pc [.ref (q0 0), .int x1, .int x2] (PRE (dC, dI) (TY cI cJ) (ww_X7 cI cJ n0 q0 m0) sz)) (va_Qi (S := Unit) (fun (r : Int32) (_u : Unit) => post r) (fun _u t => AT (dC, dI) (TY cI cJ) (va_A (ww_X7 cI cJ n0 q0 m0) sz) (ww_X7 cI cJ n0 q0 m0) t) (va_A (ww_X7 cI cJ n0 q0 m0) sz)) 0 0 (va_A (ww_X7 cI cJ n0 q0 m0) sz) :=
  met_of (own := RX7) (Qf := fun A => va_Qi (S := Unit) (fun (r : Int32) (_u : Unit) => post r) (fun _u t => AT (dC, dI) (TY cI cJ) A (ww_X7 cI cJ n0 q0 m0) t) A) (by decide) rfl (Nat.le_of_ble_eq_true rfl) rfl (fun p e s m below meth c A cx hA ls hP hD hS hl => w_X7_figureOf_0 cx hA x1 x2 _ _ ls hP hD hS hl h)
theorem mv_X7_figureOf : MV yX7_figureOf cX7_figureOf 3 (some .int) 2 := ⟨⟨kw_348, kw_2, by decide +kernel⟩, kw_346, kw_347⟩
set_option maxHeartbeats 4000000 in
set_option maxRecDepth 100000 in
theorem w_X7_fitsGuest_0 {p : Program} {l : Launch} {e : Env} {s : State} {m : MethodId} {args : Array Value} {below : List Frame} {meth : Method} {c : Code} {dC : Nat → ClassId} {dI : Nat → Nat → Nat} {cI cJ : ClassId} {A : Nat → Prop} (cx : CX RX7 cX7_fitsGuest (some .boolean) 2 p s m args meth c (dC, dI) (TY cI cJ)) (hA : ∀ q, s.heap.size ≤ q → A q) {post : Int32 → Prop} : ∀ (x0 : Int32) (x1 : Int32) (H : Heap) (locs : List Loc) (ls : Array Slot), va_P (dC, dI) vwCl ([]) H → va_D A ([]) → va_S A s.heap H locs → lv_has ls 2 [(0, .int x0), (1, .int x1)] → b_X7_fitsGuest_0 post x0 x1 → W p l e ({ frames := 0, cells := 0, slots := 0, locals := 0 }) s m args below meth c H locs 0 0 (MQ below (va_Qi (S := Unit) (fun (r : Int32) (_u : Unit) => post r) (fun _u t => AT (dC, dI) (TY cI cJ) A ([]) t) A) args s 0 0 A) (F0 m 0 ls []) := by
  obtain ⟨hx, hb, hr, hml, hown, hts, hlocks, hK⟩ := id cx
  have cx' : CX RX7 cX7_fitsGuest (meth.sig.returnType) 2 p s m args meth c (dC, dI) (TY cI cJ) := ⟨hx, hb, rfl, hml, hown, hts, hlocks, hK⟩
  intro x0 x1 H locs ls hP hD hS hl h
  unfold b_X7_fitsGuest_0 at h
  refine lv_iload_n hx hb dX7_fitsGuest_0 rfl (lv_at hl 0 rfl) ?_
  by_cases c_1 : x0 = 0 ∨ x0 = 1 ∨ x0 = 4
  · have h := h.1 c_1
    refine lv_tableIn (off := 35) (tgt := 36) hx hb dX7_fitsGuest_1 (by rcases c_1 with e9 | e9 | e9 <;> (rw [e9]; decide)) (by rcases c_1 with e9 | e9 | e9 <;> (rw [e9]; decide)) (by rcases c_1 with e9 | e9 | e9 <;> (rw [e9]; rfl)) (by decide) ?_
    refine lv_iload_n hx hb dX7_fitsGuest_36 rfl (lv_at hl 1 rfl) ?_
    refine lv_bipush (v := 48) hx hb dX7_fitsGuest_37 (by decide) ?_
    refine lv_icmp_lt (tgt := 52) hx hb dX7_fitsGuest_39 (by decide) (fun c_2 => ?_) (fun c_2 => ?_)
    · have h := h.1 c_2
      refine lv_iconst (v := 0) hx hb dX7_fitsGuest_52 (by decide) ?_
      exact rt_z (v := 0) (u := ()) cx (Or.inl rfl) hP hD hS h dX7_fitsGuest_53
    have h := h.2 c_2
    refine lv_iload_n hx hb dX7_fitsGuest_42 rfl (lv_at hl 1 rfl) ?_
    refine lv_bipush (v := 57) hx hb dX7_fitsGuest_43 (by decide) ?_
    refine lv_icmp_gt (tgt := 52) hx hb dX7_fitsGuest_45 (by decide) (fun c_3 => ?_) (fun c_3 => ?_)
    · have h := h.1 c_3
      refine lv_iconst (v := 0) hx hb dX7_fitsGuest_52 (by decide) ?_
      exact rt_z (v := 0) (u := ()) cx (Or.inl rfl) hP hD hS h dX7_fitsGuest_53
    have h := h.2 c_3
    refine lv_iconst (v := 1) hx hb dX7_fitsGuest_48 (by decide) ?_
    refine lv_goto (tgt := 53) hx hb dX7_fitsGuest_49 (by decide) ?_
    exact rt_z (v := 1) (u := ()) cx (Or.inr rfl) hP hD hS h dX7_fitsGuest_53
  have h := h.2 c_1
  by_cases c_4 : x0 = 2
  · have h := h.1 c_4
    refine lv_tableIn (off := 53) (tgt := 54) hx hb dX7_fitsGuest_1 (by have e9 := c_4; (rw [e9]; decide)) (by have e9 := c_4; (rw [e9]; decide)) (by have e9 := c_4; (rw [e9]; rfl)) (by decide) ?_
    refine lv_iload_n hx hb dX7_fitsGuest_54 rfl (lv_at hl 1 rfl) ?_
    refine lv_bipush (v := 48) hx hb dX7_fitsGuest_55 (by decide) ?_
    refine lv_icmp_lt (tgt := 70) hx hb dX7_fitsGuest_57 (by decide) (fun c_5 => ?_) (fun c_5 => ?_)
    · have h := h.1 c_5
      refine lv_iconst (v := 0) hx hb dX7_fitsGuest_70 (by decide) ?_
      exact rt_z (v := 0) (u := ()) cx (Or.inl rfl) hP hD hS h dX7_fitsGuest_71
    have h := h.2 c_5
    refine lv_iload_n hx hb dX7_fitsGuest_60 rfl (lv_at hl 1 rfl) ?_
    refine lv_bipush (v := 55) hx hb dX7_fitsGuest_61 (by decide) ?_
    refine lv_icmp_gt (tgt := 70) hx hb dX7_fitsGuest_63 (by decide) (fun c_6 => ?_) (fun c_6 => ?_)
    · have h := h.1 c_6
      refine lv_iconst (v := 0) hx hb dX7_fitsGuest_70 (by decide) ?_
      exact rt_z (v := 0) (u := ()) cx (Or.inl rfl) hP hD hS h dX7_fitsGuest_71
    have h := h.2 c_6
    refine lv_iconst (v := 1) hx hb dX7_fitsGuest_66 (by decide) ?_
    refine lv_goto (tgt := 71) hx hb dX7_fitsGuest_67 (by decide) ?_
    exact rt_z (v := 1) (u := ()) cx (Or.inr rfl) hP hD hS h dX7_fitsGuest_71
  have h := h.2 c_4
  by_cases c_7 : x0 = 3
  · have h := h.1 c_7
    refine lv_tableIn (off := 71) (tgt := 72) hx hb dX7_fitsGuest_1 (by have e9 := c_7; (rw [e9]; decide)) (by have e9 := c_7; (rw [e9]; decide)) (by have e9 := c_7; (rw [e9]; rfl)) (by decide) ?_
    refine lv_iload_n hx hb dX7_fitsGuest_72 rfl (lv_at hl 1 rfl) ?_
    refine lv_bipush (v := 117) hx hb dX7_fitsGuest_73 (by decide) ?_
    refine lv_icmp_eq (tgt := 84) hx hb dX7_fitsGuest_75 (by decide) (fun c_8 => ?_) (fun c_8 => ?_)
    · have h := h.1 c_8
      refine lv_iconst (v := 1) hx hb dX7_fitsGuest_84 (by decide) ?_
      refine lv_goto (tgt := 89) hx hb dX7_fitsGuest_85 (by decide) ?_
      exact rt_z (v := 1) (u := ()) cx (Or.inr rfl) hP hD hS h dX7_fitsGuest_89
    have h := h.2 c_8
    refine lv_iload_n hx hb dX7_fitsGuest_78 rfl (lv_at hl 1 rfl) ?_
    refine lv_bipush (v := 100) hx hb dX7_fitsGuest_79 (by decide) ?_
    refine lv_icmp_ne (tgt := 88) hx hb dX7_fitsGuest_81 (by decide) (fun c_9 => ?_) (fun c_9 => ?_)
    · have h := h.1 c_9
      refine lv_iconst (v := 0) hx hb dX7_fitsGuest_88 (by decide) ?_
      exact rt_z (v := 0) (u := ()) cx (Or.inl rfl) hP hD hS h dX7_fitsGuest_89
    have h := h.2 c_9
    refine lv_iconst (v := 1) hx hb dX7_fitsGuest_84 (by decide) ?_
    refine lv_goto (tgt := 89) hx hb dX7_fitsGuest_85 (by decide) ?_
    exact rt_z (v := 1) (u := ()) cx (Or.inr rfl) hP hD hS h dX7_fitsGuest_89
  have h := h.2 c_7
  refine tsw_def (tgt := 90) hx hb dX7_fitsGuest_1 (fun j hj hle => ?_) (by decide) ?_
  · have hj9 : j = 0 ∨ j = 1 ∨ j = 2 ∨ j = 3 ∨ j = 4 := by omega
    rcases hj9 with rfl | rfl | rfl | rfl | rfl
    · exact absurd (have e9 : x0 = 0 := Int32.toInt_inj.mp (by rw [hj]; rfl); Or.inl e9) c_1
    · exact absurd (have e9 : x0 = 1 := Int32.toInt_inj.mp (by rw [hj]; rfl); Or.inr (Or.inl e9)) c_1
    · exact absurd (have e9 : x0 = 2 := Int32.toInt_inj.mp (by rw [hj]; rfl); e9) c_4
    · exact absurd (have e9 : x0 = 3 := Int32.toInt_inj.mp (by rw [hj]; rfl); e9) c_7
    · exact absurd (have e9 : x0 = 4 := Int32.toInt_inj.mp (by rw [hj]; rfl); Or.inr (Or.inr (e9))) c_1
  refine lv_iload_n hx hb dX7_fitsGuest_90 rfl (lv_at hl 1 rfl) ?_
  refine lv_bipush (v := 59) hx hb dX7_fitsGuest_91 (by decide) ?_
  refine dia_i (ls := ls) (c0 := x1 = 59) (a := 1) (b := 0) (J := 101) (rest := []) (fun K => ?_) (fun v_11 ev_11 => ?_)
  · refine lv_icmp_ne (tgt := 100) hx hb dX7_fitsGuest_93 (by decide) (fun c_10 => ?_) (fun c_10 => ?_)
    · refine lv_iconst (v := 0) hx hb dX7_fitsGuest_100 (by decide) ?_
      exact K _ (Or.inr ⟨c_10, rfl⟩)
    · refine lv_iconst (v := 1) hx hb dX7_fitsGuest_96 (by decide) ?_
      refine lv_goto (tgt := 101) hx hb dX7_fitsGuest_97 (by decide) ?_
      exact K _ (Or.inl ⟨c_10, rfl⟩)
  have h := h v_11 ev_11
  exact rt_z (v := v_11) (u := ()) cx h.1 hP hD hS h.2 dX7_fitsGuest_101
set_option maxRecDepth 100000 in
theorem c_X7_fitsGuest (l : Launch) {dC : Nat → ClassId} {dI : Nat → Nat → Nat} {cI cJ : ClassId} (sz : Nat) (x0 : Int32) (x1 : Int32) (post : Int32 → Prop) (h : wp_X7_fitsGuest x0 x1 post) : Met l yX7_fitsGuest (Cond.code yX7_fitsGuest cX7_fitsGuest 2 (some .boolean) :: gt) ({ frames := 0, cells := 0, slots := 0, locals := 0 }) (va_Pc [.int x0, .int x1] (PRE (dC, dI) (TY cI cJ) ([]) sz)) (va_Qi (S := Unit) (fun (r : Int32) (_u : Unit) => post r) (fun _u t => AT (dC, dI) (TY cI cJ) (va_A ([]) sz) ([]) t) (va_A ([]) sz)) 0 0 (va_A ([]) sz) :=
  met_of (own := RX7) (Qf := fun A => va_Qi (S := Unit) (fun (r : Int32) (_u : Unit) => post r) (fun _u t => AT (dC, dI) (TY cI cJ) A ([]) t) A) (by decide) rfl (Nat.le_of_ble_eq_true rfl) rfl (fun p e s m below meth c A cx hA ls hP hD hS hl => w_X7_fitsGuest_0 cx hA x0 x1 _ _ ls hP hD hS hl h)
theorem ms_X7_fitsGuest : MS yX7_fitsGuest cX7_fitsGuest 2 (some .boolean) 2 := ⟨⟨kw_336, kw_2, by decide +kernel⟩, kw_335⟩
set_option maxHeartbeats 4000000 in
set_option maxRecDepth 100000 in
theorem w_X7_kindOf_0 {p : Program} {l : Launch} {e : Env} {s : State} {m : MethodId} {args : Array Value} {below : List Frame} {meth : Method} {c : Code} {dC : Nat → ClassId} {dI : Nat → Nat → Nat} {cI cJ : ClassId} {A : Nat → Prop} (cx : CX RX7 cX7_kindOf (some .int) 1 p s m args meth c (dC, dI) (TY cI cJ)) (hA : ∀ q, s.heap.size ≤ q → A q) {post : Int32 → Prop} : ∀ (x0 : Int32) (H : Heap) (locs : List Loc) (ls : Array Slot), va_P (dC, dI) vwCl ([]) H → va_D A ([]) → va_S A s.heap H locs → lv_has ls 1 [(0, .int x0)] → b_X7_kindOf_0 post x0 → W p l e ({ frames := 0, cells := 0, slots := 0, locals := 0 }) s m args below meth c H locs 0 0 (MQ below (va_Qi (S := Unit) (fun (r : Int32) (_u : Unit) => post r) (fun _u t => AT (dC, dI) (TY cI cJ) A ([]) t) A) args s 0 0 A) (F0 m 0 ls []) := by
  obtain ⟨hx, hb, hr, hml, hown, hts, hlocks, hK⟩ := id cx
  have cx' : CX RX7 cX7_kindOf (meth.sig.returnType) 1 p s m args meth c (dC, dI) (TY cI cJ) := ⟨hx, hb, rfl, hml, hown, hts, hlocks, hK⟩
  intro x0 H locs ls hP hD hS hl h
  unfold b_X7_kindOf_0 at h
  refine lv_iload_n hx hb dX7_kindOf_0 rfl (lv_at hl 0 rfl) ?_
  by_cases c_1 : x0 = 112
  · have h := h.1 c_1
    refine lv_tableIn (off := 47) (tgt := 48) hx hb dX7_kindOf_1 (by have e9 := c_1; (rw [e9]; decide)) (by have e9 := c_1; (rw [e9]; decide)) (by have e9 := c_1; (rw [e9]; rfl)) (by decide) ?_
    refine lv_iconst (v := 0) hx hb dX7_kindOf_48 (by decide) ?_
    exact rt_i (v := 0) (u := ()) cx hP hD hS h dX7_kindOf_49
  have h := h.2 c_1
  by_cases c_2 : x0 = 115
  · have h := h.1 c_2
    refine lv_tableIn (off := 49) (tgt := 50) hx hb dX7_kindOf_1 (by have e9 := c_2; (rw [e9]; decide)) (by have e9 := c_2; (rw [e9]; decide)) (by have e9 := c_2; (rw [e9]; rfl)) (by decide) ?_
    refine lv_iconst (v := 1) hx hb dX7_kindOf_50 (by decide) ?_
    exact rt_i (v := 1) (u := ()) cx hP hD hS h dX7_kindOf_51
  have h := h.2 c_2
  by_cases c_3 : x0 = 118
  · have h := h.1 c_3
    refine lv_tableIn (off := 53) (tgt := 54) hx hb dX7_kindOf_1 (by have e9 := c_3; (rw [e9]; decide)) (by have e9 := c_3; (rw [e9]; decide)) (by have e9 := c_3; (rw [e9]; rfl)) (by decide) ?_
    refine lv_iconst (v := 3) hx hb dX7_kindOf_54 (by decide) ?_
    exact rt_i (v := 3) (u := ()) cx hP hD hS h dX7_kindOf_55
  have h := h.2 c_3
  by_cases c_4 : x0 = 119
  · have h := h.1 c_4
    refine lv_tableIn (off := 51) (tgt := 52) hx hb dX7_kindOf_1 (by have e9 := c_4; (rw [e9]; decide)) (by have e9 := c_4; (rw [e9]; decide)) (by have e9 := c_4; (rw [e9]; rfl)) (by decide) ?_
    refine lv_iconst (v := 2) hx hb dX7_kindOf_52 (by decide) ?_
    exact rt_i (v := 2) (u := ()) cx hP hD hS h dX7_kindOf_53
  have h := h.2 c_4
  refine tsw_def (tgt := 56) hx hb dX7_kindOf_1 (fun j hj hle => ?_) (by decide) ?_
  · have hj9 : j = 0 ∨ j = 1 ∨ j = 2 ∨ j = 3 ∨ j = 4 ∨ j = 5 ∨ j = 6 ∨ j = 7 := by omega
    rcases hj9 with rfl | rfl | rfl | rfl | rfl | rfl | rfl | rfl
    · exact absurd (have e9 : x0 = 112 := Int32.toInt_inj.mp (by rw [hj]; rfl); e9) c_1
    · rfl
    · rfl
    · exact absurd (have e9 : x0 = 115 := Int32.toInt_inj.mp (by rw [hj]; rfl); e9) c_2
    · rfl
    · rfl
    · exact absurd (have e9 : x0 = 118 := Int32.toInt_inj.mp (by rw [hj]; rfl); e9) c_3
    · exact absurd (have e9 : x0 = 119 := Int32.toInt_inj.mp (by rw [hj]; rfl); e9) c_4
  refine lv_iconst (v := (-1)) hx hb dX7_kindOf_56 (by decide) ?_
  exact rt_i (v := (-1)) (u := ()) cx hP hD hS h dX7_kindOf_57
set_option maxRecDepth 100000 in
theorem c_X7_kindOf (l : Launch) {dC : Nat → ClassId} {dI : Nat → Nat → Nat} {cI cJ : ClassId} (sz : Nat) (x0 : Int32) (post : Int32 → Prop) (h : wp_X7_kindOf x0 post) : Met l yX7_kindOf (Cond.code yX7_kindOf cX7_kindOf 1 (some .int) :: gt) ({ frames := 0, cells := 0, slots := 0, locals := 0 }) (va_Pc [.int x0] (PRE (dC, dI) (TY cI cJ) ([]) sz)) (va_Qi (S := Unit) (fun (r : Int32) (_u : Unit) => post r) (fun _u t => AT (dC, dI) (TY cI cJ) (va_A ([]) sz) ([]) t) (va_A ([]) sz)) 0 0 (va_A ([]) sz) :=
  met_of (own := RX7) (Qf := fun A => va_Qi (S := Unit) (fun (r : Int32) (_u : Unit) => post r) (fun _u t => AT (dC, dI) (TY cI cJ) A ([]) t) A) (by decide) rfl (Nat.le_of_ble_eq_true rfl) rfl (fun p e s m below meth c A cx hA ls hP hD hS hl => w_X7_kindOf_0 cx hA x0 _ _ ls hP hD hS hl h)
theorem ms_X7_kindOf : MS yX7_kindOf cX7_kindOf 1 (some .int) 1 := ⟨⟨kw_333, kw_2, by decide +kernel⟩, kw_332⟩
set_option maxHeartbeats 4000000 in
set_option maxRecDepth 100000 in
theorem w_X7_fitsHouse_0 {p : Program} {l : Launch} {e : Env} {s : State} {m : MethodId} {args : Array Value} {below : List Frame} {meth : Method} {c : Code} {dC : Nat → ClassId} {dI : Nat → Nat → Nat} {cI cJ : ClassId} {A : Nat → Prop} (cx : CX RX7 cX7_fitsHouse (some .boolean) 2 p s m args meth c (dC, dI) (TY cI cJ)) (hA : ∀ q, s.heap.size ≤ q → A q) {post : Int32 → Prop} : ∀ (x0 : Int32) (x1 : Int32) (H : Heap) (locs : List Loc) (ls : Array Slot), va_P (dC, dI) vwCl ([]) H → va_D A ([]) → va_S A s.heap H locs → lv_has ls 2 [(0, .int x0), (1, .int x1)] → b_X7_fitsHouse_0 post x0 x1 → W p l e ({ frames := 1, cells := 0, slots := 0, locals := 20 }) s m args below meth c H locs 0 0 (MQ below (va_Qi (S := Unit) (fun (r : Int32) (_u : Unit) => post r) (fun _u t => AT (dC, dI) (TY cI cJ) A ([]) t) A) args s 0 0 A) (F0 m 0 ls []) := by
  obtain ⟨hx, hb, hr, hml, hown, hts, hlocks, hK⟩ := id cx
  have cx' : CX RX7 cX7_fitsHouse (meth.sig.returnType) 2 p s m args meth c (dC, dI) (TY cI cJ) := ⟨hx, hb, rfl, hml, hown, hts, hlocks, hK⟩
  intro x0 x1 H locs ls hP hD hS hl h
  unfold b_X7_fitsHouse_0 at h
  refine lv_iload_n hx hb dX7_fitsHouse_0 rfl (lv_at hl 0 rfl) ?_
  by_cases c_1 : x0 = 0
  · have h := h.1 c_1
    refine lv_tableIn (off := 27) (tgt := 28) hx hb dX7_fitsHouse_1 (by have e9 := c_1; (rw [e9]; decide)) (by have e9 := c_1; (rw [e9]; decide)) (by have e9 := c_1; (rw [e9]; rfl)) (by decide) ?_
    refine lv_iload_n hx hb dX7_fitsHouse_28 rfl (lv_at hl 1 rfl) ?_
    refine callN_i (run_S (As := [.int x1]) (rest := []) (wc := []) cx' (c_X7_kindOf l H.size x1 _ h) ms_X7_kindOf kw_331 rfl rfl ⟨Nat.le_of_ble_eq_true rfl, Nat.le_of_ble_eq_true rfl⟩ nilP nilD (A := A) rfl hl.1 rfl (Nat.le_of_ble_eq_true rfl) dX7_fitsHouse_29 ⟨Nat.zero_le _, Nat.zero_le _⟩) hP hS hA (fun r_2 H locs hP hS h => ?_)
    refine lv_iconst (v := (-1)) hx hb dX7_fitsHouse_32 (by decide) ?_
    refine dia_i (ls := ls) (c0 := r_2 = (-1)) (a := 0) (b := 1) (J := 41) (rest := []) (fun K => ?_) (fun v_4 ev_4 => ?_)
    · refine lv_icmp_eq (tgt := 40) hx hb dX7_fitsHouse_33 (by decide) (fun c_3 => ?_) (fun c_3 => ?_)
      · refine lv_iconst (v := 0) hx hb dX7_fitsHouse_40 (by decide) ?_
        exact K _ (Or.inl ⟨c_3, rfl⟩)
      · refine lv_iconst (v := 1) hx hb dX7_fitsHouse_36 (by decide) ?_
        refine lv_goto (tgt := 41) hx hb dX7_fitsHouse_37 (by decide) ?_
        exact K _ (Or.inr ⟨c_3, rfl⟩)
    have h := h v_4 ev_4
    exact rt_z (v := v_4) (u := ()) cx h.1 hP hD hS h.2 dX7_fitsHouse_41
  have h := h.2 c_1
  by_cases c_5 : x0 = 1
  · have h := h.1 c_5
    refine lv_tableIn (off := 41) (tgt := 42) hx hb dX7_fitsHouse_1 (by have e9 := c_5; (rw [e9]; decide)) (by have e9 := c_5; (rw [e9]; decide)) (by have e9 := c_5; (rw [e9]; rfl)) (by decide) ?_
    refine lv_iload_n hx hb dX7_fitsHouse_42 rfl (lv_at hl 1 rfl) ?_
    refine lv_bipush (v := 49) hx hb dX7_fitsHouse_43 (by decide) ?_
    refine lv_icmp_lt (tgt := 58) hx hb dX7_fitsHouse_45 (by decide) (fun c_6 => ?_) (fun c_6 => ?_)
    · have h := h.1 c_6
      refine lv_iconst (v := 0) hx hb dX7_fitsHouse_58 (by decide) ?_
      exact rt_z (v := 0) (u := ()) cx (Or.inl rfl) hP hD hS h dX7_fitsHouse_59
    have h := h.2 c_6
    refine lv_iload_n hx hb dX7_fitsHouse_48 rfl (lv_at hl 1 rfl) ?_
    refine lv_bipush (v := 57) hx hb dX7_fitsHouse_49 (by decide) ?_
    refine lv_icmp_gt (tgt := 58) hx hb dX7_fitsHouse_51 (by decide) (fun c_7 => ?_) (fun c_7 => ?_)
    · have h := h.1 c_7
      refine lv_iconst (v := 0) hx hb dX7_fitsHouse_58 (by decide) ?_
      exact rt_z (v := 0) (u := ()) cx (Or.inl rfl) hP hD hS h dX7_fitsHouse_59
    have h := h.2 c_7
    refine lv_iconst (v := 1) hx hb dX7_fitsHouse_54 (by decide) ?_
    refine lv_goto (tgt := 59) hx hb dX7_fitsHouse_55 (by decide) ?_
    exact rt_z (v := 1) (u := ()) cx (Or.inr rfl) hP hD hS h dX7_fitsHouse_59
  have h := h.2 c_5
  by_cases c_8 : x0 = 2
  · have h := h.1 c_8
    refine lv_tableIn (off := 59) (tgt := 60) hx hb dX7_fitsHouse_1 (by have e9 := c_8; (rw [e9]; decide)) (by have e9 := c_8; (rw [e9]; decide)) (by have e9 := c_8; (rw [e9]; rfl)) (by decide) ?_
    refine lv_iload_n hx hb dX7_fitsHouse_60 rfl (lv_at hl 1 rfl) ?_
    refine lv_bipush (v := 48) hx hb dX7_fitsHouse_61 (by decide) ?_
    refine lv_icmp_lt (tgt := 76) hx hb dX7_fitsHouse_63 (by decide) (fun c_9 => ?_) (fun c_9 => ?_)
    · have h := h.1 c_9
      refine lv_iconst (v := 0) hx hb dX7_fitsHouse_76 (by decide) ?_
      exact rt_z (v := 0) (u := ()) cx (Or.inl rfl) hP hD hS h dX7_fitsHouse_77
    have h := h.2 c_9
    refine lv_iload_n hx hb dX7_fitsHouse_66 rfl (lv_at hl 1 rfl) ?_
    refine lv_bipush (v := 57) hx hb dX7_fitsHouse_67 (by decide) ?_
    refine lv_icmp_gt (tgt := 76) hx hb dX7_fitsHouse_69 (by decide) (fun c_10 => ?_) (fun c_10 => ?_)
    · have h := h.1 c_10
      refine lv_iconst (v := 0) hx hb dX7_fitsHouse_76 (by decide) ?_
      exact rt_z (v := 0) (u := ()) cx (Or.inl rfl) hP hD hS h dX7_fitsHouse_77
    have h := h.2 c_10
    refine lv_iconst (v := 1) hx hb dX7_fitsHouse_72 (by decide) ?_
    refine lv_goto (tgt := 77) hx hb dX7_fitsHouse_73 (by decide) ?_
    exact rt_z (v := 1) (u := ()) cx (Or.inr rfl) hP hD hS h dX7_fitsHouse_77
  have h := h.2 c_8
  refine tsw_def (tgt := 78) hx hb dX7_fitsHouse_1 (fun j hj hle => ?_) (by decide) ?_
  · have hj9 : j = 0 ∨ j = 1 ∨ j = 2 := by omega
    rcases hj9 with rfl | rfl | rfl
    · exact absurd (have e9 : x0 = 0 := Int32.toInt_inj.mp (by rw [hj]; rfl); e9) c_1
    · exact absurd (have e9 : x0 = 1 := Int32.toInt_inj.mp (by rw [hj]; rfl); e9) c_5
    · exact absurd (have e9 : x0 = 2 := Int32.toInt_inj.mp (by rw [hj]; rfl); e9) c_8
  refine lv_iload_n hx hb dX7_fitsHouse_78 rfl (lv_at hl 1 rfl) ?_
  refine lv_bipush (v := 59) hx hb dX7_fitsHouse_79 (by decide) ?_
  refine dia_i (ls := ls) (c0 := x1 = 59) (a := 1) (b := 0) (J := 89) (rest := []) (fun K => ?_) (fun v_12 ev_12 => ?_)
  · refine lv_icmp_ne (tgt := 88) hx hb dX7_fitsHouse_81 (by decide) (fun c_11 => ?_) (fun c_11 => ?_)
    · refine lv_iconst (v := 0) hx hb dX7_fitsHouse_88 (by decide) ?_
      exact K _ (Or.inr ⟨c_11, rfl⟩)
    · refine lv_iconst (v := 1) hx hb dX7_fitsHouse_84 (by decide) ?_
      refine lv_goto (tgt := 89) hx hb dX7_fitsHouse_85 (by decide) ?_
      exact K _ (Or.inl ⟨c_11, rfl⟩)
  have h := h v_12 ev_12
  exact rt_z (v := v_12) (u := ()) cx h.1 hP hD hS h.2 dX7_fitsHouse_89
set_option maxRecDepth 100000 in
theorem c_X7_fitsHouse (l : Launch) {dC : Nat → ClassId} {dI : Nat → Nat → Nat} {cI cJ : ClassId} (sz : Nat) (x0 : Int32) (x1 : Int32) (post : Int32 → Prop) (h : wp_X7_fitsHouse x0 x1 post) : Met l yX7_fitsHouse (Cond.code yX7_fitsHouse cX7_fitsHouse 2 (some .boolean) :: gt) ({ frames := 1, cells := 0, slots := 0, locals := 20 }) (va_Pc [.int x0, .int x1] (PRE (dC, dI) (TY cI cJ) ([]) sz)) (va_Qi (S := Unit) (fun (r : Int32) (_u : Unit) => post r) (fun _u t => AT (dC, dI) (TY cI cJ) (va_A ([]) sz) ([]) t) (va_A ([]) sz)) 0 0 (va_A ([]) sz) :=
  met_of (own := RX7) (Qf := fun A => va_Qi (S := Unit) (fun (r : Int32) (_u : Unit) => post r) (fun _u t => AT (dC, dI) (TY cI cJ) A ([]) t) A) (by decide) rfl (Nat.le_of_ble_eq_true rfl) rfl (fun p e s m below meth c A cx hA ls hP hD hS hl => w_X7_fitsHouse_0 cx hA x0 x1 _ _ ls hP hD hS hl h)
theorem ms_X7_fitsHouse : MS yX7_fitsHouse cX7_fitsHouse 2 (some .boolean) 2 := ⟨⟨kw_330, kw_2, by decide +kernel⟩, kw_329⟩
