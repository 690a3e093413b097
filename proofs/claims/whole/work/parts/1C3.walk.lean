set_option maxHeartbeats 4000000 in
set_option maxRecDepth 100000 in
theorem w_X10_isSeen_62 {p : Program} {l : Launch} {e : Env} {s : State} {m : MethodId} {args : Array Value} {below : List Frame} {meth : Method} {c : Code} {dC : Nat → ClassId} {dI : Nat → Nat → Nat} {cI cJ : ClassId} {A : Nat → Prop} (cx : CX RX10 cX10_isSeen (some .boolean) 4 p s m args meth c (dC, dI) (TY cI cJ)) (hA : ∀ q, s.heap.size ≤ q → A q) {q0 : Nat → Nat} {m0 : Mem} {post : Int32 → Prop} {k4 : Int32 → Int32 → Int32 → Prop} (hk4 : ∀ (x1 : Int32) (x2 : Int32) (x3 : Int32) (H : Heap) (locs : List Loc) (ls : Array Slot), va_P (dC, dI) vwCl (ww_X10 cI cJ q0 m0) H → va_D A (ww_X10 cI cJ q0 m0) → va_S A s.heap H locs → lv_has ls 4 [(0, .ref (q0 0)), (1, .int x1), (2, .int x2), (3, .int x3)] → k4 x1 x2 x3 → W p l e ({ frames := 2, cells := 0, slots := 0, locals := 46 }) s m args below meth c H locs 0 0 (MQ below (va_Qi (S := Unit) (fun (r : Int32) (_u : Unit) => post r) (fun _u t => AT (dC, dI) (TY cI cJ) A (ww_X10 cI cJ q0 m0) t) A) args s 0 0 A) (F0 m 4 ls [])) : ∀ (x1 : Int32) (x3 : Int32) (z0 : Int32) (H : Heap) (locs : List Loc) (ls : Array Slot), va_P (dC, dI) vwCl (ww_X10 cI cJ q0 m0) H → va_D A (ww_X10 cI cJ q0 m0) → va_S A s.heap H locs → lv_has ls 4 [(0, .ref (q0 0)), (1, .int x1), (3, .int x3)] → b_X10_isSeen_62 m0 post k4 x1 x3 z0 → W p l e ({ frames := 2, cells := 0, slots := 0, locals := 46 }) s m args below meth c H locs 0 0 (MQ below (va_Qi (S := Unit) (fun (r : Int32) (_u : Unit) => post r) (fun _u t => AT (dC, dI) (TY cI cJ) A (ww_X10 cI cJ q0 m0) t) A) args s 0 0 A) (F0 m 62 ls [.int z0]) := by
  obtain ⟨hx, hb, hr, hml, hown, hts, hlocks, hK⟩ := id cx
  have cx' : CX RX10 cX10_isSeen (meth.sig.returnType) 4 p s m args meth c (dC, dI) (TY cI cJ) := ⟨hx, hb, rfl, hml, hown, hts, hlocks, hK⟩
  intro x1 x3 z0 H locs ls hP hD hS hl h
  unfold b_X10_isSeen_62 at h
  refine lv_istore_n (lv' := [(2, .int z0), (0, .ref (q0 0)), (1, .int x1), (3, .int x3)]) hx hb dX10_isSeen_62 rfl hl (by decide) rfl (fun ls hl => ?_)
  obtain ⟨x3_1, ex3_1⟩ : ∃ z : Int32, z = x3 + 1 := ⟨_, rfl⟩
  have h := h x3_1 ex3_1
  refine lv_iinc (v := x3_1) (lv' := [(3, .int x3_1), (2, .int z0), (0, .ref (q0 0)), (1, .int x1)]) hx hb dX10_isSeen_63 hl (k := 3) rfl (by rw [ex3_1]; rfl) (by decide) rfl (fun ls hl => ?_)
  refine lv_goto (tgt := 4) hx hb dX10_isSeen_66 (by decide) ?_
  exact hk4 x1 z0 x3_1 H locs ls hP hD hS (lv_sub hl [2, 3, 1, 0] rfl) h
set_option maxHeartbeats 4000000 in
set_option maxRecDepth 100000 in
theorem w_X10_isSeen_61 {p : Program} {l : Launch} {e : Env} {s : State} {m : MethodId} {args : Array Value} {below : List Frame} {meth : Method} {c : Code} {dC : Nat → ClassId} {dI : Nat → Nat → Nat} {cI cJ : ClassId} {A : Nat → Prop} (cx : CX RX10 cX10_isSeen (some .boolean) 4 p s m args meth c (dC, dI) (TY cI cJ)) (hA : ∀ q, s.heap.size ≤ q → A q) {q0 : Nat → Nat} {m0 : Mem} {post : Int32 → Prop} {k4 : Int32 → Int32 → Int32 → Prop} (hk4 : ∀ (x1 : Int32) (x2 : Int32) (x3 : Int32) (H : Heap) (locs : List Loc) (ls : Array Slot), va_P (dC, dI) vwCl (ww_X10 cI cJ q0 m0) H → va_D A (ww_X10 cI cJ q0 m0) → va_S A s.heap H locs → lv_has ls 4 [(0, .ref (q0 0)), (1, .int x1), (2, .int x2), (3, .int x3)] → k4 x1 x2 x3 → W p l e ({ frames := 2, cells := 0, slots := 0, locals := 46 }) s m args below meth c H locs 0 0 (MQ below (va_Qi (S := Unit) (fun (r : Int32) (_u : Unit) => post r) (fun _u t => AT (dC, dI) (TY cI cJ) A (ww_X10 cI cJ q0 m0) t) A) args s 0 0 A) (F0 m 4 ls [])) : ∀ (x1 : Int32) (x3 : Int32) (H : Heap) (locs : List Loc) (ls : Array Slot), va_P (dC, dI) vwCl (ww_X10 cI cJ q0 m0) H → va_D A (ww_X10 cI cJ q0 m0) → va_S A s.heap H locs → lv_has ls 4 [(0, .ref (q0 0)), (1, .int x1), (3, .int x3)] → b_X10_isSeen_61 m0 post k4 x1 x3 → W p l e ({ frames := 2, cells := 0, slots := 0, locals := 46 }) s m args below meth c H locs 0 0 (MQ below (va_Qi (S := Unit) (fun (r : Int32) (_u : Unit) => post r) (fun _u t => AT (dC, dI) (TY cI cJ) A (ww_X10 cI cJ q0 m0) t) A) args s 0 0 A) (F0 m 61 ls []) := by
  obtain ⟨hx, hb, hr, hml, hown, hts, hlocks, hK⟩ := id cx
  have cx' : CX RX10 cX10_isSeen (meth.sig.returnType) 4 p s m args meth c (dC, dI) (TY cI cJ) := ⟨hx, hb, rfl, hml, hown, hts, hlocks, hK⟩
  intro x1 x3 H locs ls hP hD hS hl h
  unfold b_X10_isSeen_61 at h
  refine lv_iconst (v := 0) hx hb dX10_isSeen_61 (by decide) ?_
  exact w_X10_isSeen_62 cx hA hk4 x1 x3 0 H locs ls hP hD hS (lv_sub hl [0, 1, 2] rfl) h
set_option maxHeartbeats 4000000 in
set_option maxRecDepth 100000 in
theorem w_X10_isSeen_4 {p : Program} {l : Launch} {e : Env} {s : State} {m : MethodId} {args : Array Value} {below : List Frame} {meth : Method} {c : Code} {dC : Nat → ClassId} {dI : Nat → Nat → Nat} {cI cJ : ClassId} {A : Nat → Prop} (cx : CX RX10 cX10_isSeen (some .boolean) 4 p s m args meth c (dC, dI) (TY cI cJ)) (hA : ∀ q, s.heap.size ≤ q → A q) {q0 : Nat → Nat} {m0 : Mem} {post : Int32 → Prop} : ∀ (n : Nat) (x1 : Int32) (x2 : Int32) (x3 : Int32) (H : Heap) (locs : List Loc) (ls : Array Slot), va_P (dC, dI) vwCl (ww_X10 cI cJ q0 m0) H → va_D A (ww_X10 cI cJ q0 m0) → va_S A s.heap H locs → lv_has ls 4 [(0, .ref (q0 0)), (1, .int x1), (2, .int x2), (3, .int x3)] → b_X10_isSeen_4 m0 post n x1 x2 x3 → W p l e ({ frames := 2, cells := 0, slots := 0, locals := 46 }) s m args below meth c H locs 0 0 (MQ below (va_Qi (S := Unit) (fun (r : Int32) (_u : Unit) => post r) (fun _u t => AT (dC, dI) (TY cI cJ) A (ww_X10 cI cJ q0 m0) t) A) args s 0 0 A) (F0 m 4 ls []) := by
  obtain ⟨hx, hb, hr, hml, hown, hts, hlocks, hK⟩ := id cx
  have cx' : CX RX10 cX10_isSeen (meth.sig.returnType) 4 p s m args meth c (dC, dI) (TY cI cJ) := ⟨hx, hb, rfl, hml, hown, hts, hlocks, hK⟩
  intro n
  induction n with
  | zero =>
    intro x1 x2 x3 H locs ls hP hD hS hl h
    exact False.elim h
  | succ n ih =>
    intro x1 x2 x3 H locs ls hP hD hS hl h
    unfold b_X10_isSeen_4 at h
    refine lv_iload_n hx hb dX10_isSeen_4 rfl (lv_at hl 3 rfl) ?_
    refine lv_aload_n hx hb dX10_isSeen_5 rfl (lv_at hl 0 rfl) ?_
    refine gf_v (k := 21) (v := .int (m0 0 21)) cx' hP 0 i_X10 rfl rfl (by decide) kw_736 rfl rfl dX10_isSeen_6 ?_
    refine lv_icmp_ge (tgt := 69) hx hb dX10_isSeen_9 (by decide) (fun c_1 => ?_) (fun c_1 => ?_)
    · have h := h.1 c_1
      refine lv_iload_n hx hb dX10_isSeen_69 rfl (lv_at hl 2 rfl) ?_
      exact rt_z (v := x2) (u := ()) cx h.1 hP hD hS h.2 dX10_isSeen_70
    have h := h.2 c_1
    refine lv_iload_n hx hb dX10_isSeen_12 rfl (lv_at hl 2 rfl) ?_
    refine lv_if_eq (tgt := 69) hx hb dX10_isSeen_13 (by decide) (fun c_2 => ?_) (fun c_2 => ?_)
    · have h := h.1 c_2
      refine lv_iload_n hx hb dX10_isSeen_69 rfl (lv_at hl 2 rfl) ?_
      exact rt_z (v := x2) (u := ()) cx h.1 hP hD hS h.2 dX10_isSeen_70
    have h := h.2 c_2
    refine lv_aload_n hx hb dX10_isSeen_16 rfl (lv_at hl 0 rfl) ?_
    refine lv_aload_n hx hb dX10_isSeen_17 rfl (lv_at hl 0 rfl) ?_
    refine gf_v (k := 22) (v := .ref (q0 16)) cx' hP 0 i_X10 rfl rfl (by decide) kw_737 rfl rfl dX10_isSeen_18 ?_
    refine lv_iconst (v := 2) hx hb dX10_isSeen_21 (by decide) ?_
    refine lv_iload_n hx hb dX10_isSeen_22 rfl (lv_at hl 3 rfl) ?_
    refine lv_imul hx hb dX10_isSeen_23 ?_
    refine va_iald hx hb hK hP 16 0 rfl rfl h.1 dX10_isSeen_24 ?_
    have h := h.2
    refine call_i (run_V (As := [.int (m0 16 (Int32.toNatClampNeg (2 * x3)))]) (rest := []) cx' (c_X10_isHouse l H.size q0 m0 (m0 16 (Int32.toNatClampNeg (2 * x3))) _ h) mv_X10_isHouse kw_873 rfl rfl ⟨Nat.le_of_ble_eq_true rfl, Nat.le_of_ble_eq_true rfl⟩ hP hD rfl rfl rfl hl.1 rfl (Nat.le_of_ble_eq_true rfl) dX10_isSeen_25 ⟨Nat.zero_le _, Nat.zero_le _⟩) hD hS hA (fun r_3 u9 H locs hP hD hS h => ?_)
    have hP : va_P (dC, dI) vwCl (ww_X10 cI cJ q0 m0) H := hP
    have hD : va_D A (ww_X10 cI cJ q0 m0) := hD
    refine lv_if_eq (tgt := 61) hx hb dX10_isSeen_28 (by decide) (fun c_4 => ?_) (fun c_4 => ?_)
    · have h := h.1 c_4
      exact w_X10_isSeen_61 cx hA ih x1 x3 H locs ls hP hD hS (lv_sub hl [0, 1, 3] rfl) h
    have h := h.2 c_4
    refine lv_aload_n hx hb dX10_isSeen_31 rfl (lv_at hl 0 rfl) ?_
    refine lv_aload_n hx hb dX10_isSeen_32 rfl (lv_at hl 0 rfl) ?_
    refine gf_v (k := 22) (v := .ref (q0 16)) cx' hP 0 i_X10 rfl rfl (by decide) kw_737 rfl rfl dX10_isSeen_33 ?_
    refine lv_iconst (v := 2) hx hb dX10_isSeen_36 (by decide) ?_
    refine lv_iload_n hx hb dX10_isSeen_37 rfl (lv_at hl 3 rfl) ?_
    refine lv_imul hx hb dX10_isSeen_38 ?_
    refine va_iald hx hb hK hP 16 0 rfl rfl h.1 dX10_isSeen_39 ?_
    have h := h.2
    refine lv_iload_n hx hb dX10_isSeen_40 rfl (lv_at hl 1 rfl) ?_
    refine call_i (run_V (As := [.int (m0 16 (Int32.toNatClampNeg (2 * x3))), .int x1]) (rest := []) cx' (c_X10_givesBy l H.size q0 m0 (m0 16 (Int32.toNatClampNeg (2 * x3))) x1 _ h) mv_X10_givesBy kw_1036 rfl rfl ⟨Nat.le_of_ble_eq_true rfl, Nat.le_of_ble_eq_true rfl⟩ hP hD rfl rfl rfl hl.1 rfl (Nat.le_of_ble_eq_true rfl) dX10_isSeen_41 ⟨Nat.zero_le _, Nat.zero_le _⟩) hD hS hA (fun r_5 u9 H locs hP hD hS h => ?_)
    have hP : va_P (dC, dI) vwCl (ww_X10 cI cJ q0 m0) H := hP
    have hD : va_D A (ww_X10 cI cJ q0 m0) := hD
    refine lv_aload_n hx hb dX10_isSeen_44 rfl (lv_at hl 0 rfl) ?_
    refine gf_v (k := 22) (v := .ref (q0 16)) cx' hP 0 i_X10 rfl rfl (by decide) kw_737 rfl rfl dX10_isSeen_45 ?_
    refine lv_iconst (v := 2) hx hb dX10_isSeen_48 (by decide) ?_
    refine lv_iload_n hx hb dX10_isSeen_49 rfl (lv_at hl 3 rfl) ?_
    refine lv_imul hx hb dX10_isSeen_50 ?_
    refine lv_iconst (v := 1) hx hb dX10_isSeen_51 (by decide) ?_
    refine lv_iadd hx hb dX10_isSeen_52 ?_
    refine va_iald hx hb hK hP 16 0 rfl rfl h.1 dX10_isSeen_53 ?_
    have h := h.2
    refine lv_icmp_ne (tgt := 61) hx hb dX10_isSeen_54 (by decide) (fun c_6 => ?_) (fun c_6 => ?_)
    · have h := h.1 c_6
      exact w_X10_isSeen_61 cx hA ih x1 x3 H locs ls hP hD hS (lv_sub hl [0, 1, 3] rfl) h
    have h := h.2 c_6
    refine lv_iconst (v := 1) hx hb dX10_isSeen_57 (by decide) ?_
    refine lv_goto (tgt := 62) hx hb dX10_isSeen_58 (by decide) ?_
    exact w_X10_isSeen_62 cx hA ih x1 x3 1 H locs ls hP hD hS (lv_sub hl [0, 1, 3] rfl) h
set_option maxHeartbeats 4000000 in
set_option maxRecDepth 100000 in
theorem w_X10_isSeen_0 {p : Program} {l : Launch} {e : Env} {s : State} {m : MethodId} {args : Array Value} {below : List Frame} {meth : Method} {c : Code} {dC : Nat → ClassId} {dI : Nat → Nat → Nat} {cI cJ : ClassId} {A : Nat → Prop} (cx : CX RX10 cX10_isSeen (some .boolean) 4 p s m args meth c (dC, dI) (TY cI cJ)) (hA : ∀ q, s.heap.size ≤ q → A q) {q0 : Nat → Nat} {m0 : Mem} {post : Int32 → Prop} : ∀ (x1 : Int32) (H : Heap) (locs : List Loc) (ls : Array Slot), va_P (dC, dI) vwCl (ww_X10 cI cJ q0 m0) H → va_D A (ww_X10 cI cJ q0 m0) → va_S A s.heap H locs → lv_has ls 4 [(0, .ref (q0 0)), (1, .int x1)] → b_X10_isSeen_0 m0 post x1 → W p l e ({ frames := 2, cells := 0, slots := 0, locals := 46 }) s m args below meth c H locs 0 0 (MQ below (va_Qi (S := Unit) (fun (r : Int32) (_u : Unit) => post r) (fun _u t => AT (dC, dI) (TY cI cJ) A (ww_X10 cI cJ q0 m0) t) A) args s 0 0 A) (F0 m 0 ls []) := by
  obtain ⟨hx, hb, hr, hml, hown, hts, hlocks, hK⟩ := id cx
  have cx' : CX RX10 cX10_isSeen (meth.sig.returnType) 4 p s m args meth c (dC, dI) (TY cI cJ) := ⟨hx, hb, rfl, hml, hown, hts, hlocks, hK⟩
  intro x1 H locs ls hP hD hS hl h
  unfold b_X10_isSeen_0 at h
  refine lv_iconst (v := 1) hx hb dX10_isSeen_0 (by decide) ?_
  refine lv_istore_n (lv' := [(2, .int 1), (0, .ref (q0 0)), (1, .int x1)]) hx hb dX10_isSeen_1 rfl hl (by decide) rfl (fun ls hl => ?_)
  refine lv_iconst (v := 0) hx hb dX10_isSeen_2 (by decide) ?_
  refine lv_istore_n (lv' := [(3, .int 0), (2, .int 1), (0, .ref (q0 0)), (1, .int x1)]) hx hb dX10_isSeen_3 rfl hl (by decide) rfl (fun ls hl => ?_)
  obtain ⟨n_1, h⟩ := h
  exact w_X10_isSeen_4 cx hA n_1 x1 1 0 H locs ls hP hD hS (lv_sub hl [2, 3, 1, 0] rfl) h
set_option maxRecDepth 100000 in
theorem c_X10_isSeen (l : Launch) {dC : Nat → ClassId} {dI : Nat → Nat → Nat} {cI cJ : ClassId} (sz : Nat) (q0 : Nat → Nat) (m0 : Mem) (x1 : Int32) (post : Int32 → Prop) (h : wp_X10_isSeen m0 x1 post) : Met l yX10_isSeen (Cond.code yX10_isSeen cX10_isSeen 4 (some .boolean) :: gt) ({ frames := 2, cells := 0, slots := 0, locals := 46 }) (va_Pc [.ref (q0 0), .int x1] (PRE (dC, dI) (TY cI cJ) (ww_X10 cI cJ q0 m0) sz)) (va_Qi (S := Unit) (fun (r : Int32) (_u : Unit) => post r) (fun _u t => AT (dC, dI) (TY cI cJ) (va_A (ww_X10 cI cJ q0 m0) sz) (ww_X10 cI cJ q0 m0) t) (va_A (ww_X10 cI cJ q0 m0) sz)) 0 0 (va_A (ww_X10 cI cJ q0 m0) sz) :=
  met_of (own := RX10) (Qf := fun A => va_Qi (S := Unit) (fun (r : Int32) (_u : Unit) => post r) (fun _u t => AT (dC, dI) (TY cI cJ) A (ww_X10 cI cJ q0 m0) t) A) (by decide) rfl (Nat.le_of_ble_eq_true rfl) rfl (fun p e s m below meth c A cx hA ls hP hD hS hl => w_X10_isSeen_0 cx hA x1 _ _ ls hP hD hS hl h)
theorem mv_X10_isSeen : MV yX10_isSeen cX10_isSeen 4 (some .boolean) 1 := ⟨⟨kw_1035, kw_11, by decide +kernel⟩, kw_1034, ksel_44⟩
set_option maxHeartbeats 4000000 in
set_option maxRecDepth 100000 in
theorem w_X10_twiceNow_28 {p : Program} {l : Launch} {e : Env} {s : State} {m : MethodId} {args : Array Value} {below : List Frame} {meth : Method} {c : Code} {dC : Nat → ClassId} {dI : Nat → Nat → Nat} {cI cJ : ClassId} {A : Nat → Prop} (cx : CX RX10 cX10_twiceNow (some .int) 3 p s m args meth c (dC, dI) (TY cI cJ)) (hA : ∀ q, s.heap.size ≤ q → A q) {q0 : Nat → Nat} {m0 : Mem} {post : Int32 → Prop} {k4 : Int32 → Int32 → Prop} (hk4 : ∀ (x1 : Int32) (x2 : Int32) (H : Heap) (locs : List Loc) (ls : Array Slot), va_P (dC, dI) vwCl (ww_X10 cI cJ q0 m0) H → va_D A (ww_X10 cI cJ q0 m0) → va_S A s.heap H locs → lv_has ls 3 [(0, .ref (q0 0)), (1, .int x1), (2, .int x2)] → k4 x1 x2 → W p l e ({ frames := 3, cells := 0, slots := 0, locals := 69 }) s m args below meth c H locs 0 0 (MQ below (va_Qi (S := Unit) (fun (r : Int32) (_u : Unit) => post r) (fun _u t => AT (dC, dI) (TY cI cJ) A (ww_X10 cI cJ q0 m0) t) A) args s 0 0 A) (F0 m 4 ls [])) : ∀ (x2 : Int32) (z0 : Int32) (z1 : Int32) (H : Heap) (locs : List Loc) (ls : Array Slot), va_P (dC, dI) vwCl (ww_X10 cI cJ q0 m0) H → va_D A (ww_X10 cI cJ q0 m0) → va_S A s.heap H locs → lv_has ls 3 [(0, .ref (q0 0)), (2, .int x2)] → b_X10_twiceNow_28 m0 post k4 x2 z0 z1 → W p l e ({ frames := 3, cells := 0, slots := 0, locals := 69 }) s m args below meth c H locs 0 0 (MQ below (va_Qi (S := Unit) (fun (r : Int32) (_u : Unit) => post r) (fun _u t => AT (dC, dI) (TY cI cJ) A (ww_X10 cI cJ q0 m0) t) A) args s 0 0 A) (F0 m 28 ls [.int z0, .int z1]) := by
  obtain ⟨hx, hb, hr, hml, hown, hts, hlocks, hK⟩ := id cx
  have cx' : CX RX10 cX10_twiceNow (meth.sig.returnType) 3 p s m args meth c (dC, dI) (TY cI cJ) := ⟨hx, hb, rfl, hml, hown, hts, hlocks, hK⟩
  intro x2 z0 z1 H locs ls hP hD hS hl h
  unfold b_X10_twiceNow_28 at h
  refine lv_ior hx hb dX10_twiceNow_28 ?_
  refine lv_topi (fun x1_1 ex1_1 => ?_)
  have h := h x1_1 ex1_1
  refine lv_istore_n (lv' := [(1, .int x1_1), (0, .ref (q0 0)), (2, .int x2)]) hx hb dX10_twiceNow_29 rfl hl (by decide) rfl (fun ls hl => ?_)
  obtain ⟨x2_2, ex2_2⟩ : ∃ z : Int32, z = x2 + 1 := ⟨_, rfl⟩
  have h := h x2_2 ex2_2
  refine lv_iinc (v := x2_2) (lv' := [(2, .int x2_2), (1, .int x1_1), (0, .ref (q0 0))]) hx hb dX10_twiceNow_30 hl (k := 2) rfl (by rw [ex2_2]; rfl) (by decide) rfl (fun ls hl => ?_)
  refine lv_goto (tgt := 4) hx hb dX10_twiceNow_33 (by decide) ?_
  exact hk4 x1_1 x2_2 H locs ls hP hD hS (lv_sub hl [2, 1, 0] rfl) h
set_option maxHeartbeats 4000000 in
set_option maxRecDepth 100000 in
theorem w_X10_twiceNow_4 {p : Program} {l : Launch} {e : Env} {s : State} {m : MethodId} {args : Array Value} {below : List Frame} {meth : Method} {c : Code} {dC : Nat → ClassId} {dI : Nat → Nat → Nat} {cI cJ : ClassId} {A : Nat → Prop} (cx : CX RX10 cX10_twiceNow (some .int) 3 p s m args meth c (dC, dI) (TY cI cJ)) (hA : ∀ q, s.heap.size ≤ q → A q) {q0 : Nat → Nat} {m0 : Mem} {post : Int32 → Prop} : ∀ (n : Nat) (x1 : Int32) (x2 : Int32) (H : Heap) (locs : List Loc) (ls : Array Slot), va_P (dC, dI) vwCl (ww_X10 cI cJ q0 m0) H → va_D A (ww_X10 cI cJ q0 m0) → va_S A s.heap H locs → lv_has ls 3 [(0, .ref (q0 0)), (1, .int x1), (2, .int x2)] → b_X10_twiceNow_4 m0 post n x1 x2 → W p l e ({ frames := 3, cells := 0, slots := 0, locals := 69 }) s m args below meth c H locs 0 0 (MQ below (va_Qi (S := Unit) (fun (r : Int32) (_u : Unit) => post r) (fun _u t => AT (dC, dI) (TY cI cJ) A (ww_X10 cI cJ q0 m0) t) A) args s 0 0 A) (F0 m 4 ls []) := by
  obtain ⟨hx, hb, hr, hml, hown, hts, hlocks, hK⟩ := id cx
  have cx' : CX RX10 cX10_twiceNow (meth.sig.returnType) 3 p s m args meth c (dC, dI) (TY cI cJ) := ⟨hx, hb, rfl, hml, hown, hts, hlocks, hK⟩
  intro n
  induction n with
  | zero =>
    intro x1 x2 H locs ls hP hD hS hl h
    exact False.elim h
  | succ n ih =>
    intro x1 x2 H locs ls hP hD hS hl h
    unfold b_X10_twiceNow_4 at h
    refine lv_iload_n hx hb dX10_twiceNow_4 rfl (lv_at hl 2 rfl) ?_
    refine lv_aload_n hx hb dX10_twiceNow_5 rfl (lv_at hl 0 rfl) ?_
    refine gf_v (k := 9) (v := .int (m0 0 9)) cx' hP 0 i_X10 rfl rfl (by decide) kw_724 rfl rfl dX10_twiceNow_6 ?_
    refine lv_icmp_ge (tgt := 36) hx hb dX10_twiceNow_9 (by decide) (fun c_1 => ?_) (fun c_1 => ?_)
    · have h := h.1 c_1
      refine lv_iload_n hx hb dX10_twiceNow_36 rfl (lv_at hl 1 rfl) ?_
      exact rt_i (v := x1) (u := ()) cx hP hD hS h dX10_twiceNow_37
    have h := h.2 c_1
    refine lv_iload_n hx hb dX10_twiceNow_12 rfl (lv_at hl 1 rfl) ?_
    refine lv_aload_n hx hb dX10_twiceNow_13 rfl (lv_at hl 0 rfl) ?_
    refine lv_iload_n hx hb dX10_twiceNow_14 rfl (lv_at hl 2 rfl) ?_
    refine call_i (run_V (As := [.int x2]) (rest := [.int x1]) cx' (c_X10_isSeen l H.size q0 m0 x2 _ h) mv_X10_isSeen kw_1032 rfl rfl ⟨Nat.le_of_ble_eq_true rfl, Nat.le_of_ble_eq_true rfl⟩ hP hD rfl rfl rfl hl.1 rfl (Nat.le_of_ble_eq_true rfl) dX10_twiceNow_15 ⟨Nat.zero_le _, Nat.zero_le _⟩) hD hS hA (fun r_2 u9 H locs hP hD hS h => ?_)
    have hP : va_P (dC, dI) vwCl (ww_X10 cI cJ q0 m0) H := hP
    have hD : va_D A (ww_X10 cI cJ q0 m0) := hD
    refine lv_if_eq (tgt := 27) hx hb dX10_twiceNow_18 (by decide) (fun c_3 => ?_) (fun c_3 => ?_)
    · have h := h.1 c_3
      refine lv_iconst (v := 0) hx hb dX10_twiceNow_27 (by decide) ?_
      exact w_X10_twiceNow_28 cx hA ih x2 0 x1 H locs ls hP hD hS (lv_sub hl [0, 2] rfl) h
    have h := h.2 c_3
    refine lv_iconst (v := 1) hx hb dX10_twiceNow_21 (by decide) ?_
    refine lv_iload_n hx hb dX10_twiceNow_22 rfl (lv_at hl 2 rfl) ?_
    refine lv_ishl hx hb dX10_twiceNow_23 ?_
    refine lv_goto (tgt := 28) hx hb dX10_twiceNow_24 (by decide) ?_
    exact w_X10_twiceNow_28 cx hA ih x2 (1 <<< (x2 &&& 31)) x1 H locs ls hP hD hS (lv_sub hl [0, 2] rfl) h
set_option maxHeartbeats 4000000 in
set_option maxRecDepth 100000 in
theorem w_X10_twiceNow_0 {p : Program} {l : Launch} {e : Env} {s : State} {m : MethodId} {args : Array Value} {below : List Frame} {meth : Method} {c : Code} {dC : Nat → ClassId} {dI : Nat → Nat → Nat} {cI cJ : ClassId} {A : Nat → Prop} (cx : CX RX10 cX10_twiceNow (some .int) 3 p s m args meth c (dC, dI) (TY cI cJ)) (hA : ∀ q, s.heap.size ≤ q → A q) {q0 : Nat → Nat} {m0 : Mem} {post : Int32 → Prop} : ∀  (H : Heap) (locs : List Loc) (ls : Array Slot), va_P (dC, dI) vwCl (ww_X10 cI cJ q0 m0) H → va_D A (ww_X10 cI cJ q0 m0) → va_S A s.heap H locs → lv_has ls 3 [(0, .ref (q0 0))] → b_X10_twiceNow_0 m0 post  → W p l e ({ frames := 3, cells := 0, slots := 0, locals := 69 }) s m args below meth c H locs 0 0 (MQ below (va_Qi (S := Unit) (fun (r : Int32) (_u : Unit) => post r) (fun _u t => AT (dC, dI) (TY cI cJ) A (ww_X10 cI cJ q0 m0) t) A) args s 0 0 A) (F0 m 0 ls []) := by
  obtain ⟨hx, hb, hr, hml, hown, hts, hlocks, hK⟩ := id cx
  have cx' : CX RX10 cX10_twiceNow (meth.sig.returnType) 3 p s m args meth c (dC, dI) (TY cI cJ) := ⟨hx, hb, rfl, hml, hown, hts, hlocks, hK⟩
  intro H locs ls hP hD hS hl h
  unfold b_X10_twiceNow_0 at h
  refine lv_iconst (v := 0) hx hb dX10_twiceNow_0 (by decide) ?_
  refine lv_istore_n (lv' := [(1, .int 0), (0, .ref (q0 0))]) hx hb dX10_twiceNow_1 rfl hl (by decide) rfl (fun ls hl => ?_)
  refine lv_iconst (v := 0) hx hb dX10_twiceNow_2 (by decide) ?_
  refine lv_istore_n (lv' := [(2, .int 0), (1, .int 0), (0, .ref (q0 0))]) hx hb dX10_twiceNow_3 rfl hl (by decide) rfl (fun ls hl => ?_)
  obtain ⟨n_1, h⟩ := h
  exact w_X10_twiceNow_4 cx hA n_1 0 0 H locs ls hP hD hS (lv_sub hl [2, 1, 0] rfl) h
set_option maxRecDepth 100000 in
theorem c_X10_twiceNow (l : Launch) {dC : Nat → ClassId} {dI : Nat → Nat → Nat} {cI cJ : ClassId} (sz : Nat) (q0 : Nat → Nat) (m0 : Mem) (post : Int32 → Prop) (h : wp_X10_twiceNow m0 post) : Met l yX10_twiceNow (Cond.code yX10_twiceNow cX10_twiceNow 3 (some .int) :: gt) ({ frames := 3, cells := 0, slots := 0, locals := 69 }) (va_Pc [.ref (q0 0)] (PRE (dC, dI) (TY cI cJ) (ww_X10 cI cJ q0 m0) sz)) (va_Qi (S := Unit) (fun (r : Int32) (_u : Unit) => post r) (fun _u t => AT (dC, dI) (TY cI cJ) (va_A (ww_X10 cI cJ q0 m0) sz) (ww_X10 cI cJ q0 m0) t) (va_A (ww_X10 cI cJ q0 m0) sz)) 0 0 (va_A (ww_X10 cI cJ q0 m0) sz) :=
  met_of (own := RX10) (Qf := fun A => va_Qi (S := Unit) (fun (r : Int32) (_u : Unit) => post r) (fun _u t => AT (dC, dI) (TY cI cJ) A (ww_X10 cI cJ q0 m0) t) A) (by decide) rfl (Nat.le_of_ble_eq_true rfl) rfl (fun p e s m below meth c A cx hA ls hP hD hS hl => w_X10_twiceNow_0 cx hA  _ _ ls hP hD hS hl h)
theorem mv_X10_twiceNow : MV yX10_twiceNow cX10_twiceNow 3 (some .int) 0 := ⟨⟨kw_1031, kw_11, by decide +kernel⟩, kw_1030, ksel_43⟩
set_option maxHeartbeats 4000000 in
set_option maxRecDepth 100000 in
theorem w_X10_twice_0 {p : Program} {l : Launch} {e : Env} {s : State} {m : MethodId} {args : Array Value} {below : List Frame} {meth : Method} {c : Code} {dC : Nat → ClassId} {dI : Nat → Nat → Nat} {cI cJ : ClassId} {A : Nat → Prop} (cx : CX RX10 cX10_twice (some .int) 1 p s m args meth c (dC, dI) (TY cI cJ)) (hA : ∀ q, s.heap.size ≤ q → A q) {q0 : Nat → Nat} {post : Int32 → Mem → Prop} : ∀ (m0 : Mem) (H : Heap) (locs : List Loc) (ls : Array Slot), va_P (dC, dI) vwCl (ww_X10 cI cJ q0 m0) H → va_D A (ww_X10 cI cJ q0 m0) → va_S A s.heap H locs → lv_has ls 1 [(0, .ref (q0 0))] → b_X10_twice_0 post m0 → W p l e ({ frames := 6, cells := 0, slots := 0, locals := 132 }) s m args below meth c H locs 0 0 (MQ below (va_Qi (S := Mem) (fun (r : Int32) (u : Mem) => post r u) (fun u t => AT (dC, dI) (TY cI cJ) A (ww_X10 cI cJ q0 u) t) A) args s 0 0 A) (F0 m 0 ls []) := by
  obtain ⟨hx, hb, hr, hml, hown, hts, hlocks, hK⟩ := id cx
  have cx' : CX RX10 cX10_twice (meth.sig.returnType) 1 p s m args meth c (dC, dI) (TY cI cJ) := ⟨hx, hb, rfl, hml, hown, hts, hlocks, hK⟩
  intro m0 H locs ls hP hD hS hl h
  unfold b_X10_twice_0 at h
  refine lv_aload_n hx hb dX10_twice_0 rfl (lv_at hl 0 rfl) ?_
  refine call_v (run_V (As := []) (rest := []) cx' (c_X10_find l H.size q0 m0 _ h) mv_X10_find kw_906 rfl rfl ⟨Nat.le_of_ble_eq_true rfl, Nat.le_of_ble_eq_true rfl⟩ hP hD rfl rfl rfl hl.1 rfl (Nat.le_of_ble_eq_true rfl) dX10_twice_1 ⟨Nat.zero_le _, Nat.zero_le _⟩) hD hS hA (fun u9 H locs hP hD hS h => ?_)
  obtain ⟨m0_1, rfl⟩ : ∃ z, z = u9 := ⟨_, rfl⟩
  have hP : va_P (dC, dI) vwCl (ww_X10 cI cJ q0 m0_1) H := hP
  have hD : va_D A (ww_X10 cI cJ q0 m0_1) := hD
  refine lv_aload_n hx hb dX10_twice_4 rfl (lv_at hl 0 rfl) ?_
  refine call_i (run_V (As := []) (rest := []) cx' (c_X10_twiceNow l H.size q0 m0_1 _ h) mv_X10_twiceNow kw_1028 rfl rfl ⟨Nat.le_of_ble_eq_true rfl, Nat.le_of_ble_eq_true rfl⟩ hP hD rfl rfl rfl hl.1 rfl (Nat.le_of_ble_eq_true rfl) dX10_twice_5 ⟨Nat.zero_le _, Nat.zero_le _⟩) hD hS hA (fun r_2 u9 H locs hP hD hS h => ?_)
  have hP : va_P (dC, dI) vwCl (ww_X10 cI cJ q0 m0_1) H := hP
  have hD : va_D A (ww_X10 cI cJ q0 m0_1) := hD
  exact rt_i (v := r_2) (u := m0_1) cx hP hD hS h dX10_twice_8
set_option maxRecDepth 100000 in
theorem c_X10_twice (l : Launch) {dC : Nat → ClassId} {dI : Nat → Nat → Nat} {cI cJ : ClassId} (sz : Nat) (q0 : Nat → Nat) (m0 : Mem) (post : Int32 → Mem → Prop) (h : wp_X10_twice m0 post) : Met l yX10_twice (Cond.code yX10_twice cX10_twice 1 (some .int) :: gt) ({ frames := 6, cells := 0, slots := 0, locals := 132 }) (va_Pc [.ref (q0 0)] (PRE (dC, dI) (TY cI cJ) (ww_X10 cI cJ q0 m0) sz)) (va_Qi (S := Mem) (fun (r : Int32) (u : Mem) => post r u) (fun u t => AT (dC, dI) (TY cI cJ) (va_A (ww_X10 cI cJ q0 m0) sz) (ww_X10 cI cJ q0 u) t) (va_A (ww_X10 cI cJ q0 m0) sz)) 0 0 (va_A (ww_X10 cI cJ q0 m0) sz) :=
  met_of (own := RX10) (Qf := fun A => va_Qi (S := Mem) (fun (r : Int32) (u : Mem) => post r u) (fun u t => AT (dC, dI) (TY cI cJ) A (ww_X10 cI cJ q0 u) t) A) (by decide) rfl (Nat.le_of_ble_eq_true rfl) rfl (fun p e s m below meth c A cx hA ls hP hD hS hl => w_X10_twice_0 cx hA m0 _ _ ls hP hD hS hl h)
theorem mv_X10_twice : MV yX10_twice cX10_twice 1 (some .int) 0 := ⟨⟨kw_1027, kw_11, by decide +kernel⟩, kw_1025, kw_1026⟩
set_option maxHeartbeats 4000000 in
set_option maxRecDepth 100000 in
theorem w_X10_beganOf_86 {p : Program} {l : Launch} {e : Env} {s : State} {m : MethodId} {args : Array Value} {below : List Frame} {meth : Method} {c : Code} {dC : Nat → ClassId} {dI : Nat → Nat → Nat} {cI cJ : ClassId} {A : Nat → Prop} (cx : CX RX10 cX10_beganOf (some .int) 6 p s m args meth c (dC, dI) (TY cI cJ)) (hA : ∀ q, s.heap.size ≤ q → A q) {q0 : Nat → Nat} {post : Int32 → Mem → Prop} {k28 : Int32 → Int32 → Int32 → Int32 → Int32 → Mem → Prop} (hk28 : ∀ (x1 : Int32) (x2 : Int32) (x3 : Int32) (x4 : Int32) (x5 : Int32) (m0 : Mem) (H : Heap) (locs : List Loc) (ls : Array Slot), va_P (dC, dI) vwCl (ww_X10 cI cJ q0 m0) H → va_D A (ww_X10 cI cJ q0 m0) → va_S A s.heap H locs → lv_has ls 6 [(0, .ref (q0 0)), (1, .int x1), (2, .int x2), (3, .int x3), (4, .int x4), (5, .int x5)] → k28 x1 x2 x3 x4 x5 m0 → W p l e ({ frames := 3, cells := 0, slots := 0, locals := 69 }) s m args below meth c H locs 0 0 (MQ below (va_Qi (S := Mem) (fun (r : Int32) (u : Mem) => post r u) (fun u t => AT (dC, dI) (TY cI cJ) A (ww_X10 cI cJ q0 u) t) A) args s 0 0 A) (F0 m 28 ls [])) : ∀ (x1 : Int32) (x2 : Int32) (x3 : Int32) (x5 : Int32) (z0 : Int32) (z1 : Int32) (m0 : Mem) (H : Heap) (locs : List Loc) (ls : Array Slot), va_P (dC, dI) vwCl (ww_X10 cI cJ q0 m0) H → va_D A (ww_X10 cI cJ q0 m0) → va_S A s.heap H locs → lv_has ls 6 [(0, .ref (q0 0)), (1, .int x1), (2, .int x2), (3, .int x3), (5, .int x5)] → b_X10_beganOf_86 post k28 x1 x2 x3 x5 z0 z1 m0 → W p l e ({ frames := 3, cells := 0, slots := 0, locals := 69 }) s m args below meth c H locs 0 0 (MQ below (va_Qi (S := Mem) (fun (r : Int32) (u : Mem) => post r u) (fun u t => AT (dC, dI) (TY cI cJ) A (ww_X10 cI cJ q0 u) t) A) args s 0 0 A) (F0 m 86 ls [.int z0, .int z1]) := by
  obtain ⟨hx, hb, hr, hml, hown, hts, hlocks, hK⟩ := id cx
  have cx' : CX RX10 cX10_beganOf (meth.sig.returnType) 6 p s m args meth c (dC, dI) (TY cI cJ) := ⟨hx, hb, rfl, hml, hown, hts, hlocks, hK⟩
  intro x1 x2 x3 x5 z0 z1 m0 H locs ls hP hD hS hl h
  unfold b_X10_beganOf_86 at h
  refine lv_ior hx hb dX10_beganOf_86 ?_
  refine lv_topi (fun x4_1 ex4_1 => ?_)
  have h := h x4_1 ex4_1
  refine lv_istore (lv' := [(4, .int x4_1), (0, .ref (q0 0)), (1, .int x1), (2, .int x2), (3, .int x3), (5, .int x5)]) hx hb dX10_beganOf_87 hl (by decide) rfl (fun ls hl => ?_)
  obtain ⟨x5_2, ex5_2⟩ : ∃ z : Int32, z = x5 + 1 := ⟨_, rfl⟩
  have h := h x5_2 ex5_2
  refine lv_iinc (v := x5_2) (lv' := [(5, .int x5_2), (4, .int x4_1), (0, .ref (q0 0)), (1, .int x1), (2, .int x2), (3, .int x3)]) hx hb dX10_beganOf_89 hl (k := 5) rfl (by rw [ex5_2]; rfl) (by decide) rfl (fun ls hl => ?_)
  refine lv_goto (tgt := 28) hx hb dX10_beganOf_92 (by decide) ?_
  exact hk28 x1 x2 x3 x4_1 x5_2 m0 H locs ls hP hD hS (lv_sub hl [2, 3, 4, 5, 1, 0] rfl) h
set_option maxHeartbeats 4000000 in
set_option maxRecDepth 100000 in
theorem w_X10_beganOf_28 {p : Program} {l : Launch} {e : Env} {s : State} {m : MethodId} {args : Array Value} {below : List Frame} {meth : Method} {c : Code} {dC : Nat → ClassId} {dI : Nat → Nat → Nat} {cI cJ : ClassId} {A : Nat → Prop} (cx : CX RX10 cX10_beganOf (some .int) 6 p s m args meth c (dC, dI) (TY cI cJ)) (hA : ∀ q, s.heap.size ≤ q → A q) {q0 : Nat → Nat} {post : Int32 → Mem → Prop} : ∀ (n : Nat) (x1 : Int32) (x2 : Int32) (x3 : Int32) (x4 : Int32) (x5 : Int32) (m0 : Mem) (H : Heap) (locs : List Loc) (ls : Array Slot), va_P (dC, dI) vwCl (ww_X10 cI cJ q0 m0) H → va_D A (ww_X10 cI cJ q0 m0) → va_S A s.heap H locs → lv_has ls 6 [(0, .ref (q0 0)), (1, .int x1), (2, .int x2), (3, .int x3), (4, .int x4), (5, .int x5)] → b_X10_beganOf_28 post n x1 x2 x3 x4 x5 m0 → W p l e ({ frames := 3, cells := 0, slots := 0, locals := 69 }) s m args below meth c H locs 0 0 (MQ below (va_Qi (S := Mem) (fun (r : Int32) (u : Mem) => post r u) (fun u t => AT (dC, dI) (TY cI cJ) A (ww_X10 cI cJ q0 u) t) A) args s 0 0 A) (F0 m 28 ls []) := by
  obtain ⟨hx, hb, hr, hml, hown, hts, hlocks, hK⟩ := id cx
  have cx' : CX RX10 cX10_beganOf (meth.sig.returnType) 6 p s m args meth c (dC, dI) (TY cI cJ) := ⟨hx, hb, rfl, hml, hown, hts, hlocks, hK⟩
  intro n
  induction n with
  | zero =>
    intro x1 x2 x3 x4 x5 m0 H locs ls hP hD hS hl h
    exact False.elim h
  | succ n ih =>
    intro x1 x2 x3 x4 x5 m0 H locs ls hP hD hS hl h
    unfold b_X10_beganOf_28 at h
    refine lv_iload hx hb dX10_beganOf_28 (lv_at hl 5 rfl) ?_
    refine lv_bipush (v := 16) hx hb dX10_beganOf_30 (by decide) ?_
    refine lv_icmp_ge (tgt := 95) hx hb dX10_beganOf_32 (by decide) (fun c_1 => ?_) (fun c_1 => ?_)
    · have h := h.1 c_1
      refine lv_aload_n hx hb dX10_beganOf_95 rfl (lv_at hl 0 rfl) ?_
      refine gf_v (k := 10) (v := .ref (q0 8)) cx' hP 0 i_X10 rfl rfl (by decide) kw_725 rfl rfl dX10_beganOf_96 ?_
      refine lv_iconst (v := 4) hx hb dX10_beganOf_99 (by decide) ?_
      refine lv_iload_n hx hb dX10_beganOf_100 rfl (lv_at hl 1 rfl) ?_
      refine lv_imul hx hb dX10_beganOf_101 ?_
      refine lv_iconst (v := 1) hx hb dX10_beganOf_102 (by decide) ?_
      refine lv_iadd hx hb dX10_beganOf_103 ?_
      refine lv_iload_n hx hb dX10_beganOf_104 rfl (lv_at hl 2 rfl) ?_
      obtain ⟨m0_2, em0_2⟩ : ∃ z : Mem, z = up2 m0 8 (Int32.toNatClampNeg ((4 * x1) + 1)) x2 := ⟨_, rfl⟩
      have h1 := h.1
      have h := h.2 m0_2 em0_2
      refine st_i hx hb hK hP hD hS 8 0 (ww_X10 cI cJ q0 m0_2) rfl rfl h1 dX10_beganOf_105 (by subst em0_2; rfl) (fun H locs hP hD hS => ?_)
      refine lv_aload_n hx hb dX10_beganOf_106 rfl (lv_at hl 0 rfl) ?_
      refine gf_v (k := 10) (v := .ref (q0 8)) cx' hP 0 i_X10 rfl rfl (by decide) kw_725 rfl rfl dX10_beganOf_107 ?_
      refine lv_iconst (v := 4) hx hb dX10_beganOf_110 (by decide) ?_
      refine lv_iload_n hx hb dX10_beganOf_111 rfl (lv_at hl 1 rfl) ?_
      refine lv_imul hx hb dX10_beganOf_112 ?_
      refine lv_iconst (v := 2) hx hb dX10_beganOf_113 (by decide) ?_
      refine lv_iadd hx hb dX10_beganOf_114 ?_
      refine lv_iload_n hx hb dX10_beganOf_115 rfl (lv_at hl 3 rfl) ?_
      obtain ⟨m0_3, em0_3⟩ : ∃ z : Mem, z = up2 m0_2 8 (Int32.toNatClampNeg ((4 * x1) + 2)) x3 := ⟨_, rfl⟩
      have h1 := h.1
      have h := h.2 m0_3 em0_3
      refine st_i hx hb hK hP hD hS 8 0 (ww_X10 cI cJ q0 m0_3) rfl rfl h1 dX10_beganOf_116 (by subst em0_3; rfl) (fun H locs hP hD hS => ?_)
      refine lv_aload_n hx hb dX10_beganOf_117 rfl (lv_at hl 0 rfl) ?_
      refine lv_iload_n hx hb dX10_beganOf_118 rfl (lv_at hl 1 rfl) ?_
      refine call_v (run_V (As := [.int x1]) (rest := []) cx' (c_X10_feeds l H.size q0 m0_3 x1 _ h) mv_X10_feeds kw_914 rfl rfl ⟨Nat.le_of_ble_eq_true rfl, Nat.le_of_ble_eq_true rfl⟩ hP hD rfl rfl rfl hl.1 rfl (Nat.le_of_ble_eq_true rfl) dX10_beganOf_119 ⟨Nat.zero_le _, Nat.zero_le _⟩) hD hS hA (fun u9 H locs hP hD hS h => ?_)
      obtain ⟨m0_4, rfl⟩ : ∃ z, z = u9 := ⟨_, rfl⟩
      have hP : va_P (dC, dI) vwCl (ww_X10 cI cJ q0 m0_4) H := hP
      have hD : va_D A (ww_X10 cI cJ q0 m0_4) := hD
      refine lv_iload hx hb dX10_beganOf_122 (lv_at hl 4 rfl) ?_
      exact rt_i (v := x4) (u := m0_4) cx hP hD hS h dX10_beganOf_124
    have h := h.2 c_1
    refine lv_aload_n hx hb dX10_beganOf_35 rfl (lv_at hl 0 rfl) ?_
    refine gf_v (k := 10) (v := .ref (q0 8)) cx' hP 0 i_X10 rfl rfl (by decide) kw_725 rfl rfl dX10_beganOf_36 ?_
    refine lv_iconst (v := 4) hx hb dX10_beganOf_39 (by decide) ?_
    refine lv_iload_n hx hb dX10_beganOf_40 rfl (lv_at hl 1 rfl) ?_
    refine lv_imul hx hb dX10_beganOf_41 ?_
    refine lv_iconst (v := 1) hx hb dX10_beganOf_42 (by decide) ?_
    refine lv_iadd hx hb dX10_beganOf_43 ?_
    refine lv_iload hx hb dX10_beganOf_44 (lv_at hl 5 rfl) ?_
    refine lv_iconst (v := 2) hx hb dX10_beganOf_46 (by decide) ?_
    refine lv_idiv hx hb dX10_beganOf_47 (by decide) ?_
    obtain ⟨m0_5, em0_5⟩ : ∃ z : Mem, z = up2 m0 8 (Int32.toNatClampNeg ((4 * x1) + 1)) (x5 / 2) := ⟨_, rfl⟩
    have h1 := h.1
    have h := h.2 m0_5 em0_5
    refine st_i hx hb hK hP hD hS 8 0 (ww_X10 cI cJ q0 m0_5) rfl rfl h1 dX10_beganOf_48 (by subst em0_5; rfl) (fun H locs hP hD hS => ?_)
    refine lv_aload_n hx hb dX10_beganOf_49 rfl (lv_at hl 0 rfl) ?_
    refine gf_v (k := 10) (v := .ref (q0 8)) cx' hP 0 i_X10 rfl rfl (by decide) kw_725 rfl rfl dX10_beganOf_50 ?_
    refine lv_iconst (v := 4) hx hb dX10_beganOf_53 (by decide) ?_
    refine lv_iload_n hx hb dX10_beganOf_54 rfl (lv_at hl 1 rfl) ?_
    refine lv_imul hx hb dX10_beganOf_55 ?_
    refine lv_iconst (v := 2) hx hb dX10_beganOf_56 (by decide) ?_
    refine lv_iadd hx hb dX10_beganOf_57 ?_
    refine lv_iload hx hb dX10_beganOf_58 (lv_at hl 5 rfl) ?_
    refine lv_iconst (v := 2) hx hb dX10_beganOf_60 (by decide) ?_
    refine lv_irem hx hb dX10_beganOf_61 (by decide) ?_
    obtain ⟨m0_6, em0_6⟩ : ∃ z : Mem, z = up2 m0_5 8 (Int32.toNatClampNeg ((4 * x1) + 2)) (x5 - x5 / 2 * 2) := ⟨_, rfl⟩
    have h1 := h.1
    have h := h.2 m0_6 em0_6
    refine st_i hx hb hK hP hD hS 8 0 (ww_X10 cI cJ q0 m0_6) rfl rfl h1 dX10_beganOf_62 (by subst em0_6; rfl) (fun H locs hP hD hS => ?_)
    refine lv_aload_n hx hb dX10_beganOf_63 rfl (lv_at hl 0 rfl) ?_
    refine lv_iload_n hx hb dX10_beganOf_64 rfl (lv_at hl 1 rfl) ?_
    refine call_v (run_V (As := [.int x1]) (rest := []) cx' (c_X10_feeds l H.size q0 m0_6 x1 _ h) mv_X10_feeds kw_914 rfl rfl ⟨Nat.le_of_ble_eq_true rfl, Nat.le_of_ble_eq_true rfl⟩ hP hD rfl rfl rfl hl.1 rfl (Nat.le_of_ble_eq_true rfl) dX10_beganOf_65 ⟨Nat.zero_le _, Nat.zero_le _⟩) hD hS hA (fun u9 H locs hP hD hS h => ?_)
    obtain ⟨m0_7, rfl⟩ : ∃ z, z = u9 := ⟨_, rfl⟩
    have hP : va_P (dC, dI) vwCl (ww_X10 cI cJ q0 m0_7) H := hP
    have hD : va_D A (ww_X10 cI cJ q0 m0_7) := hD
    refine lv_iload hx hb dX10_beganOf_68 (lv_at hl 4 rfl) ?_
    refine lv_aload_n hx hb dX10_beganOf_70 rfl (lv_at hl 0 rfl) ?_
    refine lv_iconst (v := (-1)) hx hb dX10_beganOf_71 (by decide) ?_
    refine call_i (run_V (As := [.int (-1)]) (rest := [.int x4]) cx' (c_X10_isSeen l H.size q0 m0_7 (-1) _ h) mv_X10_isSeen kw_1032 rfl rfl ⟨Nat.le_of_ble_eq_true rfl, Nat.le_of_ble_eq_true rfl⟩ hP hD rfl rfl rfl hl.1 rfl (Nat.le_of_ble_eq_true rfl) dX10_beganOf_72 ⟨Nat.zero_le _, Nat.zero_le _⟩) hD hS hA (fun r_8 u9 H locs hP hD hS h => ?_)
    have hP : va_P (dC, dI) vwCl (ww_X10 cI cJ q0 m0_7) H := hP
    have hD : va_D A (ww_X10 cI cJ q0 m0_7) := hD
    refine lv_if_eq (tgt := 85) hx hb dX10_beganOf_75 (by decide) (fun c_9 => ?_) (fun c_9 => ?_)
    · have h := h.1 c_9
      refine lv_iconst (v := 0) hx hb dX10_beganOf_85 (by decide) ?_
      exact w_X10_beganOf_86 cx hA ih x1 x2 x3 x5 0 x4 m0_7 H locs ls hP hD hS (lv_sub hl [0, 1, 2, 3, 5] rfl) h
    have h := h.2 c_9
    refine lv_iconst (v := 1) hx hb dX10_beganOf_78 (by decide) ?_
    refine lv_iload hx hb dX10_beganOf_79 (lv_at hl 5 rfl) ?_
    refine lv_ishl hx hb dX10_beganOf_81 ?_
    refine lv_goto (tgt := 86) hx hb dX10_beganOf_82 (by decide) ?_
    exact w_X10_beganOf_86 cx hA ih x1 x2 x3 x5 (1 <<< (x5 &&& 31)) x4 m0_7 H locs ls hP hD hS (lv_sub hl [0, 1, 2, 3, 5] rfl) h
set_option maxHeartbeats 4000000 in
set_option maxRecDepth 100000 in
theorem w_X10_beganOf_0 {p : Program} {l : Launch} {e : Env} {s : State} {m : MethodId} {args : Array Value} {below : List Frame} {meth : Method} {c : Code} {dC : Nat → ClassId} {dI : Nat → Nat → Nat} {cI cJ : ClassId} {A : Nat → Prop} (cx : CX RX10 cX10_beganOf (some .int) 6 p s m args meth c (dC, dI) (TY cI cJ)) (hA : ∀ q, s.heap.size ≤ q → A q) {q0 : Nat → Nat} {post : Int32 → Mem → Prop} : ∀ (x1 : Int32) (m0 : Mem) (H : Heap) (locs : List Loc) (ls : Array Slot), va_P (dC, dI) vwCl (ww_X10 cI cJ q0 m0) H → va_D A (ww_X10 cI cJ q0 m0) → va_S A s.heap H locs → lv_has ls 6 [(0, .ref (q0 0)), (1, .int x1)] → b_X10_beganOf_0 post x1 m0 → W p l e ({ frames := 3, cells := 0, slots := 0, locals := 69 }) s m args below meth c H locs 0 0 (MQ below (va_Qi (S := Mem) (fun (r : Int32) (u : Mem) => post r u) (fun u t => AT (dC, dI) (TY cI cJ) A (ww_X10 cI cJ q0 u) t) A) args s 0 0 A) (F0 m 0 ls []) := by
  obtain ⟨hx, hb, hr, hml, hown, hts, hlocks, hK⟩ := id cx
  have cx' : CX RX10 cX10_beganOf (meth.sig.returnType) 6 p s m args meth c (dC, dI) (TY cI cJ) := ⟨hx, hb, rfl, hml, hown, hts, hlocks, hK⟩
  intro x1 m0 H locs ls hP hD hS hl h
  unfold b_X10_beganOf_0 at h
  refine lv_aload_n hx hb dX10_beganOf_0 rfl (lv_at hl 0 rfl) ?_
  refine gf_v (k := 10) (v := .ref (q0 8)) cx' hP 0 i_X10 rfl rfl (by decide) kw_725 rfl rfl dX10_beganOf_1 ?_
  refine lv_iconst (v := 4) hx hb dX10_beganOf_4 (by decide) ?_
  refine lv_iload_n hx hb dX10_beganOf_5 rfl (lv_at hl 1 rfl) ?_
  refine lv_imul hx hb dX10_beganOf_6 ?_
  refine lv_iconst (v := 1) hx hb dX10_beganOf_7 (by decide) ?_
  refine lv_iadd hx hb dX10_beganOf_8 ?_
  refine va_iald hx hb hK hP 8 0 rfl rfl h.1 dX10_beganOf_9 ?_
  have h := h.2
  refine lv_topi (fun x2_1 ex2_1 => ?_)
  have h := h x2_1 ex2_1
  refine lv_istore_n (lv' := [(2, .int x2_1), (0, .ref (q0 0)), (1, .int x1)]) hx hb dX10_beganOf_10 rfl hl (by decide) rfl (fun ls hl => ?_)
  refine lv_aload_n hx hb dX10_beganOf_11 rfl (lv_at hl 1 rfl) ?_
  refine gf_v (k := 10) (v := .ref (q0 8)) cx' hP 0 i_X10 rfl rfl (by decide) kw_725 rfl rfl dX10_beganOf_12 ?_
  refine lv_iconst (v := 4) hx hb dX10_beganOf_15 (by decide) ?_
  refine lv_iload_n hx hb dX10_beganOf_16 rfl (lv_at hl 2 rfl) ?_
  refine lv_imul hx hb dX10_beganOf_17 ?_
  refine lv_iconst (v := 2) hx hb dX10_beganOf_18 (by decide) ?_
  refine lv_iadd hx hb dX10_beganOf_19 ?_
  refine va_iald hx hb hK hP 8 0 rfl rfl h.1 dX10_beganOf_20 ?_
  have h := h.2
  refine lv_topi (fun x3_2 ex3_2 => ?_)
  have h := h x3_2 ex3_2
  refine lv_istore_n (lv' := [(3, .int x3_2), (2, .int x2_1), (0, .ref (q0 0)), (1, .int x1)]) hx hb dX10_beganOf_21 rfl hl (by decide) rfl (fun ls hl => ?_)
  refine lv_iconst (v := 0) hx hb dX10_beganOf_22 (by decide) ?_
  refine lv_istore (lv' := [(4, .int 0), (3, .int x3_2), (2, .int x2_1), (0, .ref (q0 0)), (1, .int x1)]) hx hb dX10_beganOf_23 hl (by decide) rfl (fun ls hl => ?_)
  refine lv_iconst (v := 0) hx hb dX10_beganOf_25 (by decide) ?_
  refine lv_istore (lv' := [(5, .int 0), (4, .int 0), (3, .int x3_2), (2, .int x2_1), (0, .ref (q0 0)), (1, .int x1)]) hx hb dX10_beganOf_26 hl (by decide) rfl (fun ls hl => ?_)
  obtain ⟨n_3, h⟩ := h
  exact w_X10_beganOf_28 cx hA n_3 x1 x2_1 x3_2 0 0 m0 H locs ls hP hD hS (lv_sub hl [4, 5, 3, 2, 1, 0] rfl) h
set_option maxRecDepth 100000 in
theorem c_X10_beganOf (l : Launch) {dC : Nat → ClassId} {dI : Nat → Nat → Nat} {cI cJ : ClassId} (sz : Nat) (q0 : Nat → Nat) (m0 : Mem) (x1 : Int32) (post : Int32 → Mem → Prop) (h : wp_X10_beganOf m0 x1 post) : Met l yX10_beganOf (Cond.code yX10_beganOf cX10_beganOf 6 (some .int) :: gt) ({ frames := 3, cells := 0, slots := 0, locals := 69 }) (va_Pc [.ref (q0 0), .int x1] (PRE (dC, dI) (TY cI cJ) (ww_X10 cI cJ q0 m0) sz)) (va_Qi (S := Mem) (fun (r : Int32) (u : Mem) => post r u) (fun u t => AT (dC, dI) (TY cI cJ) (va_A (ww_X10 cI cJ q0 m0) sz) (ww_X10 cI cJ q0 u) t) (va_A (ww_X10 cI cJ q0 m0) sz)) 0 0 (va_A (ww_X10 cI cJ q0 m0) sz) :=
  met_of (own := RX10) (Qf := fun A => va_Qi (S := Mem) (fun (r : Int32) (u : Mem) => post r u) (fun u t => AT (dC, dI) (TY cI cJ) A (ww_X10 cI cJ q0 u) t) A) (by decide) rfl (Nat.le_of_ble_eq_true rfl) rfl (fun p e s m below meth c A cx hA ls hP hD hS hl => w_X10_beganOf_0 cx hA x1 m0 _ _ ls hP hD hS hl h)
theorem mv_X10_beganOf : MV yX10_beganOf cX10_beganOf 6 (some .int) 1 := ⟨⟨kw_1047, kw_11, by decide +kernel⟩, kw_1046, ksel_46⟩
set_option maxHeartbeats 4000000 in
set_option maxRecDepth 100000 in
theorem w_X10_began_0 {p : Program} {l : Launch} {e : Env} {s : State} {m : MethodId} {args : Array Value} {below : List Frame} {meth : Method} {c : Code} {dC : Nat → ClassId} {dI : Nat → Nat → Nat} {cI cJ : ClassId} {A : Nat → Prop} (cx : CX RX10 cX10_began (some .int) 2 p s m args meth c (dC, dI) (TY cI cJ)) (hA : ∀ q, s.heap.size ≤ q → A q) {q0 : Nat → Nat} {post : Int32 → Mem → Prop} : ∀ (x1 : Int32) (m0 : Mem) (H : Heap) (locs : List Loc) (ls : Array Slot), va_P (dC, dI) vwCl (ww_X10 cI cJ q0 m0) H → va_D A (ww_X10 cI cJ q0 m0) → va_S A s.heap H locs → lv_has ls 2 [(0, .ref (q0 0)), (1, .int x1)] → b_X10_began_0 post x1 m0 → W p l e ({ frames := 6, cells := 0, slots := 0, locals := 132 }) s m args below meth c H locs 0 0 (MQ below (va_Qi (S := Mem) (fun (r : Int32) (u : Mem) => post r u) (fun u t => AT (dC, dI) (TY cI cJ) A (ww_X10 cI cJ q0 u) t) A) args s 0 0 A) (F0 m 0 ls []) := by
  obtain ⟨hx, hb, hr, hml, hown, hts, hlocks, hK⟩ := id cx
  have cx' : CX RX10 cX10_began (meth.sig.returnType) 2 p s m args meth c (dC, dI) (TY cI cJ) := ⟨hx, hb, rfl, hml, hown, hts, hlocks, hK⟩
  intro x1 m0 H locs ls hP hD hS hl h
  unfold b_X10_began_0 at h
  refine lv_aload_n hx hb dX10_began_0 rfl (lv_at hl 0 rfl) ?_
  refine call_v (run_V (As := []) (rest := []) cx' (c_X10_find l H.size q0 m0 _ h) mv_X10_find kw_906 rfl rfl ⟨Nat.le_of_ble_eq_true rfl, Nat.le_of_ble_eq_true rfl⟩ hP hD rfl rfl rfl hl.1 rfl (Nat.le_of_ble_eq_true rfl) dX10_began_1 ⟨Nat.zero_le _, Nat.zero_le _⟩) hD hS hA (fun u9 H locs hP hD hS h => ?_)
  obtain ⟨m0_1, rfl⟩ : ∃ z, z = u9 := ⟨_, rfl⟩
  have hP : va_P (dC, dI) vwCl (ww_X10 cI cJ q0 m0_1) H := hP
  have hD : va_D A (ww_X10 cI cJ q0 m0_1) := hD
  refine lv_aload_n hx hb dX10_began_4 rfl (lv_at hl 0 rfl) ?_
  refine lv_iload_n hx hb dX10_began_5 rfl (lv_at hl 1 rfl) ?_
  refine call_i (run_V (As := [.int x1]) (rest := []) cx' (c_X10_isGuest l H.size q0 m0_1 x1 _ h) mv_X10_isGuest kw_881 rfl rfl ⟨Nat.le_of_ble_eq_true rfl, Nat.le_of_ble_eq_true rfl⟩ hP hD rfl rfl rfl hl.1 rfl (Nat.le_of_ble_eq_true rfl) dX10_began_6 ⟨Nat.zero_le _, Nat.zero_le _⟩) hD hS hA (fun r_2 u9 H locs hP hD hS h => ?_)
  have hP : va_P (dC, dI) vwCl (ww_X10 cI cJ q0 m0_1) H := hP
  have hD : va_D A (ww_X10 cI cJ q0 m0_1) := hD
  refine lv_if_eq (tgt := 20) hx hb dX10_began_9 (by decide) (fun c_3 => ?_) (fun c_3 => ?_)
  · have h := h.1 c_3
    refine lv_bipush (v := (-2)) hx hb dX10_began_20 (by decide) ?_
    exact rt_i (v := (-2)) (u := m0_1) cx hP hD hS h dX10_began_22
  have h := h.2 c_3
  refine lv_aload_n hx hb dX10_began_12 rfl (lv_at hl 0 rfl) ?_
  refine lv_iload_n hx hb dX10_began_13 rfl (lv_at hl 1 rfl) ?_
  refine call_i (run_V (As := [.int x1]) (rest := []) cx' (c_X10_beganOf l H.size q0 m0_1 x1 _ h) mv_X10_beganOf kw_1044 rfl rfl ⟨Nat.le_of_ble_eq_true rfl, Nat.le_of_ble_eq_true rfl⟩ hP hD rfl rfl rfl hl.1 rfl (Nat.le_of_ble_eq_true rfl) dX10_began_14 ⟨Nat.zero_le _, Nat.zero_le _⟩) hD hS hA (fun r_4 u9 H locs hP hD hS h => ?_)
  obtain ⟨m0_5, rfl⟩ : ∃ z, z = u9 := ⟨_, rfl⟩
  have hP : va_P (dC, dI) vwCl (ww_X10 cI cJ q0 m0_5) H := hP
  have hD : va_D A (ww_X10 cI cJ q0 m0_5) := hD
  refine lv_goto (tgt := 22) hx hb dX10_began_17 (by decide) ?_
  exact rt_i (v := r_4) (u := m0_5) cx hP hD hS h dX10_began_22
set_option maxRecDepth 100000 in
theorem c_X10_began (l : Launch) {dC : Nat → ClassId} {dI : Nat → Nat → Nat} {cI cJ : ClassId} (sz : Nat) (q0 : Nat → Nat) (m0 : Mem) (x1 : Int32) (post : Int32 → Mem → Prop) (h : wp_X10_began m0 x1 post) : Met l yX10_began (Cond.code yX10_began cX10_began 2 (some .int) :: gt) ({ frames := 6, cells := 0, slots := 0, locals := 132 }) (va_Pc [.ref (q0 0), .int x1] (PRE (dC, dI) (TY cI cJ) (ww_X10 cI cJ q0 m0) sz)) (va_Qi (S := Mem) (fun (r : Int32) (u : Mem) => post r u) (fun u t => AT (dC, dI) (TY cI cJ) (va_A (ww_X10 cI cJ q0 m0) sz) (ww_X10 cI cJ q0 u) t) (va_A (ww_X10 cI cJ q0 m0) sz)) 0 0 (va_A (ww_X10 cI cJ q0 m0) sz) :=
  met_of (own := RX10) (Qf := fun A => va_Qi (S := Mem) (fun (r : Int32) (u : Mem) => post r u) (fun u t => AT (dC, dI) (TY cI cJ) A (ww_X10 cI cJ q0 u) t) A) (by decide) rfl (Nat.le_of_ble_eq_true rfl) rfl (fun p e s m below meth c A cx hA ls hP hD hS hl => w_X10_began_0 cx hA x1 m0 _ _ ls hP hD hS hl h)
theorem mv_X10_began : MV yX10_began cX10_began 2 (some .int) 1 := ⟨⟨kw_1043, kw_11, by decide +kernel⟩, kw_1041, kw_1042⟩
set_option maxHeartbeats 4000000 in
set_option maxRecDepth 100000 in
theorem w_X10_mostAlike_81 {p : Program} {l : Launch} {e : Env} {s : State} {m : MethodId} {args : Array Value} {below : List Frame} {meth : Method} {c : Code} {dC : Nat → ClassId} {dI : Nat → Nat → Nat} {cI cJ : ClassId} {A : Nat → Prop} (cx : CX RX10 cX10_mostAlike (some .int) 7 p s m args meth c (dC, dI) (TY cI cJ)) (hA : ∀ q, s.heap.size ≤ q → A q) {q0 : Nat → Nat} {m0 : Mem} {post : Int32 → Prop} {k5 : Int32 → Int32 → Int32 → Int32 → Prop} {k20 : Int32 → Int32 → Int32 → Int32 → Int32 → Int32 → Prop} (hk5 : ∀ (x1 : Int32) (x2 : Int32) (x3 : Int32) (x4 : Int32) (H : Heap) (locs : List Loc) (ls : Array Slot), va_P (dC, dI) vwCl (ww_X10 cI cJ q0 m0) H → va_D A (ww_X10 cI cJ q0 m0) → va_S A s.heap H locs → lv_has ls 7 [(0, .ref (q0 0)), (1, .int x1), (2, .int x2), (3, .int x3), (4, .int x4)] → k5 x1 x2 x3 x4 → W p l e ({ frames := 1, cells := 0, slots := 0, locals := 21 }) s m args below meth c H locs 0 0 (MQ below (va_Qi (S := Unit) (fun (r : Int32) (_u : Unit) => post r) (fun _u t => AT (dC, dI) (TY cI cJ) A (ww_X10 cI cJ q0 m0) t) A) args s 0 0 A) (F0 m 5 ls [])) (hk20 : ∀ (x1 : Int32) (x2 : Int32) (x3 : Int32) (x4 : Int32) (x5 : Int32) (x6 : Int32) (H : Heap) (locs : List Loc) (ls : Array Slot), va_P (dC, dI) vwCl (ww_X10 cI cJ q0 m0) H → va_D A (ww_X10 cI cJ q0 m0) → va_S A s.heap H locs → lv_has ls 7 [(0, .ref (q0 0)), (1, .int x1), (2, .int x2), (3, .int x3), (4, .int x4), (5, .int x5), (6, .int x6)] → k20 x1 x2 x3 x4 x5 x6 → W p l e ({ frames := 1, cells := 0, slots := 0, locals := 21 }) s m args below meth c H locs 0 0 (MQ below (va_Qi (S := Unit) (fun (r : Int32) (_u : Unit) => post r) (fun _u t => AT (dC, dI) (TY cI cJ) A (ww_X10 cI cJ q0 m0) t) A) args s 0 0 A) (F0 m 20 ls [])) : ∀ (x1 : Int32) (x2 : Int32) (x3 : Int32) (x4 : Int32) (x6 : Int32) (z0 : Int32) (z1 : Int32) (H : Heap) (locs : List Loc) (ls : Array Slot), va_P (dC, dI) vwCl (ww_X10 cI cJ q0 m0) H → va_D A (ww_X10 cI cJ q0 m0) → va_S A s.heap H locs → lv_has ls 7 [(0, .ref (q0 0)), (1, .int x1), (2, .int x2), (3, .int x3), (4, .int x4), (6, .int x6)] → b_X10_mostAlike_81 m0 post k5 k20 x1 x2 x3 x4 x6 z0 z1 → W p l e ({ frames := 1, cells := 0, slots := 0, locals := 21 }) s m args below meth c H locs 0 0 (MQ below (va_Qi (S := Unit) (fun (r : Int32) (_u : Unit) => post r) (fun _u t => AT (dC, dI) (TY cI cJ) A (ww_X10 cI cJ q0 m0) t) A) args s 0 0 A) (F0 m 81 ls [.int z0, .int z1]) := by
  obtain ⟨hx, hb, hr, hml, hown, hts, hlocks, hK⟩ := id cx
  have cx' : CX RX10 cX10_mostAlike (meth.sig.returnType) 7 p s m args meth c (dC, dI) (TY cI cJ) := ⟨hx, hb, rfl, hml, hown, hts, hlocks, hK⟩
  intro x1 x2 x3 x4 x6 z0 z1 H locs ls hP hD hS hl h
  unfold b_X10_mostAlike_81 at h
  refine lv_iadd hx hb dX10_mostAlike_81 ?_
  refine lv_topi (fun x5_1 ex5_1 => ?_)
  have h := h x5_1 ex5_1
  refine lv_istore (lv' := [(5, .int x5_1), (0, .ref (q0 0)), (1, .int x1), (2, .int x2), (3, .int x3), (4, .int x4), (6, .int x6)]) hx hb dX10_mostAlike_82 hl (by decide) rfl (fun ls hl => ?_)
  obtain ⟨x6_2, ex6_2⟩ : ∃ z : Int32, z = x6 + 1 := ⟨_, rfl⟩
  have h := h x6_2 ex6_2
  refine lv_iinc (v := x6_2) (lv' := [(6, .int x6_2), (5, .int x5_1), (0, .ref (q0 0)), (1, .int x1), (2, .int x2), (3, .int x3), (4, .int x4)]) hx hb dX10_mostAlike_84 hl (k := 6) rfl (by rw [ex6_2]; rfl) (by decide) rfl (fun ls hl => ?_)
  refine lv_goto (tgt := 20) hx hb dX10_mostAlike_87 (by decide) ?_
  exact hk20 x1 x2 x3 x4 x5_1 x6_2 H locs ls hP hD hS (lv_sub hl [2, 3, 4, 5, 6, 1, 0] rfl) h
set_option maxHeartbeats 4000000 in
set_option maxRecDepth 100000 in
theorem w_X10_mostAlike_80 {p : Program} {l : Launch} {e : Env} {s : State} {m : MethodId} {args : Array Value} {below : List Frame} {meth : Method} {c : Code} {dC : Nat → ClassId} {dI : Nat → Nat → Nat} {cI cJ : ClassId} {A : Nat → Prop} (cx : CX RX10 cX10_mostAlike (some .int) 7 p s m args meth c (dC, dI) (TY cI cJ)) (hA : ∀ q, s.heap.size ≤ q → A q) {q0 : Nat → Nat} {m0 : Mem} {post : Int32 → Prop} {k5 : Int32 → Int32 → Int32 → Int32 → Prop} {k20 : Int32 → Int32 → Int32 → Int32 → Int32 → Int32 → Prop} (hk5 : ∀ (x1 : Int32) (x2 : Int32) (x3 : Int32) (x4 : Int32) (H : Heap) (locs : List Loc) (ls : Array Slot), va_P (dC, dI) vwCl (ww_X10 cI cJ q0 m0) H → va_D A (ww_X10 cI cJ q0 m0) → va_S A s.heap H locs → lv_has ls 7 [(0, .ref (q0 0)), (1, .int x1), (2, .int x2), (3, .int x3), (4, .int x4)] → k5 x1 x2 x3 x4 → W p l e ({ frames := 1, cells := 0, slots := 0, locals := 21 }) s m args below meth c H locs 0 0 (MQ below (va_Qi (S := Unit) (fun (r : Int32) (_u : Unit) => post r) (fun _u t => AT (dC, dI) (TY cI cJ) A (ww_X10 cI cJ q0 m0) t) A) args s 0 0 A) (F0 m 5 ls [])) (hk20 : ∀ (x1 : Int32) (x2 : Int32) (x3 : Int32) (x4 : Int32) (x5 : Int32) (x6 : Int32) (H : Heap) (locs : List Loc) (ls : Array Slot), va_P (dC, dI) vwCl (ww_X10 cI cJ q0 m0) H → va_D A (ww_X10 cI cJ q0 m0) → va_S A s.heap H locs → lv_has ls 7 [(0, .ref (q0 0)), (1, .int x1), (2, .int x2), (3, .int x3), (4, .int x4), (5, .int x5), (6, .int x6)] → k20 x1 x2 x3 x4 x5 x6 → W p l e ({ frames := 1, cells := 0, slots := 0, locals := 21 }) s m args below meth c H locs 0 0 (MQ below (va_Qi (S := Unit) (fun (r : Int32) (_u : Unit) => post r) (fun _u t => AT (dC, dI) (TY cI cJ) A (ww_X10 cI cJ q0 m0) t) A) args s 0 0 A) (F0 m 20 ls [])) : ∀ (x1 : Int32) (x2 : Int32) (x3 : Int32) (x4 : Int32) (x6 : Int32) (z0 : Int32) (H : Heap) (locs : List Loc) (ls : Array Slot), va_P (dC, dI) vwCl (ww_X10 cI cJ q0 m0) H → va_D A (ww_X10 cI cJ q0 m0) → va_S A s.heap H locs → lv_has ls 7 [(0, .ref (q0 0)), (1, .int x1), (2, .int x2), (3, .int x3), (4, .int x4), (6, .int x6)] → b_X10_mostAlike_80 m0 post k5 k20 x1 x2 x3 x4 x6 z0 → W p l e ({ frames := 1, cells := 0, slots := 0, locals := 21 }) s m args below meth c H locs 0 0 (MQ below (va_Qi (S := Unit) (fun (r : Int32) (_u : Unit) => post r) (fun _u t => AT (dC, dI) (TY cI cJ) A (ww_X10 cI cJ q0 m0) t) A) args s 0 0 A) (F0 m 80 ls [.int z0]) := by
  obtain ⟨hx, hb, hr, hml, hown, hts, hlocks, hK⟩ := id cx
  have cx' : CX RX10 cX10_mostAlike (meth.sig.returnType) 7 p s m args meth c (dC, dI) (TY cI cJ) := ⟨hx, hb, rfl, hml, hown, hts, hlocks, hK⟩
  intro x1 x2 x3 x4 x6 z0 H locs ls hP hD hS hl h
  unfold b_X10_mostAlike_80 at h
  refine lv_iconst (v := 0) hx hb dX10_mostAlike_80 (by decide) ?_
  exact w_X10_mostAlike_81 cx hA hk5 hk20 x1 x2 x3 x4 x6 0 z0 H locs ls hP hD hS (lv_sub hl [0, 1, 2, 3, 4, 5] rfl) h
set_option maxHeartbeats 4000000 in
set_option maxRecDepth 100000 in
theorem w_X10_mostAlike_20 {p : Program} {l : Launch} {e : Env} {s : State} {m : MethodId} {args : Array Value} {below : List Frame} {meth : Method} {c : Code} {dC : Nat → ClassId} {dI : Nat → Nat → Nat} {cI cJ : ClassId} {A : Nat → Prop} (cx : CX RX10 cX10_mostAlike (some .int) 7 p s m args meth c (dC, dI) (TY cI cJ)) (hA : ∀ q, s.heap.size ≤ q → A q) {q0 : Nat → Nat} {m0 : Mem} {post : Int32 → Prop} {k5 : Int32 → Int32 → Int32 → Int32 → Prop} (hk5 : ∀ (x1 : Int32) (x2 : Int32) (x3 : Int32) (x4 : Int32) (H : Heap) (locs : List Loc) (ls : Array Slot), va_P (dC, dI) vwCl (ww_X10 cI cJ q0 m0) H → va_D A (ww_X10 cI cJ q0 m0) → va_S A s.heap H locs → lv_has ls 7 [(0, .ref (q0 0)), (1, .int x1), (2, .int x2), (3, .int x3), (4, .int x4)] → k5 x1 x2 x3 x4 → W p l e ({ frames := 1, cells := 0, slots := 0, locals := 21 }) s m args below meth c H locs 0 0 (MQ below (va_Qi (S := Unit) (fun (r : Int32) (_u : Unit) => post r) (fun _u t => AT (dC, dI) (TY cI cJ) A (ww_X10 cI cJ q0 m0) t) A) args s 0 0 A) (F0 m 5 ls [])) : ∀ (n : Nat) (x1 : Int32) (x2 : Int32) (x3 : Int32) (x4 : Int32) (x5 : Int32) (x6 : Int32) (H : Heap) (locs : List Loc) (ls : Array Slot), va_P (dC, dI) vwCl (ww_X10 cI cJ q0 m0) H → va_D A (ww_X10 cI cJ q0 m0) → va_S A s.heap H locs → lv_has ls 7 [(0, .ref (q0 0)), (1, .int x1), (2, .int x2), (3, .int x3), (4, .int x4), (5, .int x5), (6, .int x6)] → b_X10_mostAlike_20 m0 post k5 n x1 x2 x3 x4 x5 x6 → W p l e ({ frames := 1, cells := 0, slots := 0, locals := 21 }) s m args below meth c H locs 0 0 (MQ below (va_Qi (S := Unit) (fun (r : Int32) (_u : Unit) => post r) (fun _u t => AT (dC, dI) (TY cI cJ) A (ww_X10 cI cJ q0 m0) t) A) args s 0 0 A) (F0 m 20 ls []) := by
  obtain ⟨hx, hb, hr, hml, hown, hts, hlocks, hK⟩ := id cx
  have cx' : CX RX10 cX10_mostAlike (meth.sig.returnType) 7 p s m args meth c (dC, dI) (TY cI cJ) := ⟨hx, hb, rfl, hml, hown, hts, hlocks, hK⟩
  intro n
  induction n with
  | zero =>
    intro x1 x2 x3 x4 x5 x6 H locs ls hP hD hS hl h
    exact False.elim h
  | succ n ih =>
    intro x1 x2 x3 x4 x5 x6 H locs ls hP hD hS hl h
    unfold b_X10_mostAlike_20 at h
    refine lv_iload hx hb dX10_mostAlike_20 (lv_at hl 6 rfl) ?_
    refine lv_aload_n hx hb dX10_mostAlike_22 rfl (lv_at hl 0 rfl) ?_
    refine gf_v (k := 9) (v := .int (m0 0 9)) cx' hP 0 i_X10 rfl rfl (by decide) kw_724 rfl rfl dX10_mostAlike_23 ?_
    refine lv_icmp_ge (tgt := 90) hx hb dX10_mostAlike_26 (by decide) (fun c_1 => ?_) (fun c_1 => ?_)
    · have h := h.1 c_1
      refine lv_iload hx hb dX10_mostAlike_90 (lv_at hl 5 rfl) ?_
      refine lv_iload_n hx hb dX10_mostAlike_92 rfl (lv_at hl 3 rfl) ?_
      refine dia_i (ls := ls) (c0 := x5 ≤ x3) (a := x3) (b := x5) (J := 102) (rest := []) (fun K => ?_) (fun v_3 ev_3 => ?_)
      · refine lv_icmp_le (tgt := 101) hx hb dX10_mostAlike_93 (by decide) (fun c_2 => ?_) (fun c_2 => ?_)
        · refine lv_iload_n hx hb dX10_mostAlike_101 rfl (lv_at hl 3 rfl) ?_
          exact K _ (Or.inl ⟨c_2, rfl⟩)
        · refine lv_iload hx hb dX10_mostAlike_96 (lv_at hl 5 rfl) ?_
          refine lv_goto (tgt := 102) hx hb dX10_mostAlike_98 (by decide) ?_
          exact K _ (Or.inr ⟨c_2, rfl⟩)
      have h := h v_3 ev_3
      refine lv_istore_n (lv' := [(3, .int v_3), (0, .ref (q0 0)), (1, .int x1), (2, .int x2), (4, .int x4), (5, .int x5), (6, .int x6)]) hx hb dX10_mostAlike_102 rfl hl (by decide) rfl (fun ls hl => ?_)
      obtain ⟨x4_4, ex4_4⟩ : ∃ z : Int32, z = x4 + 1 := ⟨_, rfl⟩
      have h := h x4_4 ex4_4
      refine lv_iinc (v := x4_4) (lv' := [(4, .int x4_4), (3, .int v_3), (0, .ref (q0 0)), (1, .int x1), (2, .int x2), (5, .int x5), (6, .int x6)]) hx hb dX10_mostAlike_103 hl (k := 4) rfl (by rw [ex4_4]; rfl) (by decide) rfl (fun ls hl => ?_)
      refine lv_goto (tgt := 5) hx hb dX10_mostAlike_106 (by decide) ?_
      exact hk5 x1 x2 v_3 x4_4 H locs ls hP hD hS (lv_sub hl [2, 3, 4, 1, 0] rfl) h
    have h := h.2 c_1
    refine lv_iload hx hb dX10_mostAlike_29 (lv_at hl 5 rfl) ?_
    refine lv_iload_n hx hb dX10_mostAlike_31 rfl (lv_at hl 2 rfl) ?_
    refine lv_iload hx hb dX10_mostAlike_32 (lv_at hl 4 rfl) ?_
    refine callN_i (run_S (As := [.int x2, .int x4]) (rest := [.int x5]) (wc := []) cx' (c_X10_isIn l H.size x2 x4 _ h) ms_X10_isIn kw_918 rfl rfl ⟨Nat.le_of_ble_eq_true rfl, Nat.le_of_ble_eq_true rfl⟩ nilP nilD (A := A) rfl hl.1 rfl (Nat.le_of_ble_eq_true rfl) dX10_mostAlike_34 ⟨Nat.zero_le _, Nat.zero_le _⟩) hP hS hA (fun r_5 H locs hP hS h => ?_)
    refine lv_if_eq (tgt := 80) hx hb dX10_mostAlike_37 (by decide) (fun c_6 => ?_) (fun c_6 => ?_)
    · have h := h.1 c_6
      exact w_X10_mostAlike_80 cx hA hk5 ih x1 x2 x3 x4 x6 x5 H locs ls hP hD hS (lv_sub hl [0, 1, 2, 3, 4, 6] rfl) h
    have h := h.2 c_6
    refine lv_iload_n hx hb dX10_mostAlike_40 rfl (lv_at hl 2 rfl) ?_
    refine lv_iload hx hb dX10_mostAlike_41 (lv_at hl 6 rfl) ?_
    refine callN_i (run_S (As := [.int x2, .int x6]) (rest := [.int x5]) (wc := []) cx' (c_X10_isIn l H.size x2 x6 _ h) ms_X10_isIn kw_918 rfl rfl ⟨Nat.le_of_ble_eq_true rfl, Nat.le_of_ble_eq_true rfl⟩ nilP nilD (A := A) rfl hl.1 rfl (Nat.le_of_ble_eq_true rfl) dX10_mostAlike_43 ⟨Nat.zero_le _, Nat.zero_le _⟩) hP hS hA (fun r_7 H locs hP hS h => ?_)
    refine lv_if_eq (tgt := 80) hx hb dX10_mostAlike_46 (by decide) (fun c_8 => ?_) (fun c_8 => ?_)
    · have h := h.1 c_8
      exact w_X10_mostAlike_80 cx hA hk5 ih x1 x2 x3 x4 x6 x5 H locs ls hP hD hS (lv_sub hl [0, 1, 2, 3, 4, 6] rfl) h
    have h := h.2 c_8
    refine lv_aload_n hx hb dX10_mostAlike_49 rfl (lv_at hl 0 rfl) ?_
    refine gf_v (k := 13) (v := .ref (q0 11)) cx' hP 0 i_X10 rfl rfl (by decide) kw_728 rfl rfl dX10_mostAlike_50 ?_
    refine lv_bipush (v := 8) hx hb dX10_mostAlike_53 (by decide) ?_
    refine lv_iload hx hb dX10_mostAlike_55 (lv_at hl 4 rfl) ?_
    refine lv_imul hx hb dX10_mostAlike_57 ?_
    refine lv_iload_n hx hb dX10_mostAlike_58 rfl (lv_at hl 1 rfl) ?_
    refine lv_iadd hx hb dX10_mostAlike_59 ?_
    refine va_iald hx hb hK hP 11 0 rfl rfl h.1 dX10_mostAlike_60 ?_
    have h := h.2
    refine lv_aload_n hx hb dX10_mostAlike_61 rfl (lv_at hl 0 rfl) ?_
    refine gf_v (k := 13) (v := .ref (q0 11)) cx' hP 0 i_X10 rfl rfl (by decide) kw_728 rfl rfl dX10_mostAlike_62 ?_
    refine lv_bipush (v := 8) hx hb dX10_mostAlike_65 (by decide) ?_
    refine lv_iload hx hb dX10_mostAlike_67 (lv_at hl 6 rfl) ?_
    refine lv_imul hx hb dX10_mostAlike_69 ?_
    refine lv_iload_n hx hb dX10_mostAlike_70 rfl (lv_at hl 1 rfl) ?_
    refine lv_iadd hx hb dX10_mostAlike_71 ?_
    refine va_iald hx hb hK hP 11 0 rfl rfl h.1 dX10_mostAlike_72 ?_
    have h := h.2
    refine lv_icmp_ne (tgt := 80) hx hb dX10_mostAlike_73 (by decide) (fun c_9 => ?_) (fun c_9 => ?_)
    · have h := h.1 c_9
      exact w_X10_mostAlike_80 cx hA hk5 ih x1 x2 x3 x4 x6 x5 H locs ls hP hD hS (lv_sub hl [0, 1, 2, 3, 4, 6] rfl) h
    have h := h.2 c_9
    refine lv_iconst (v := 1) hx hb dX10_mostAlike_76 (by decide) ?_
    refine lv_goto (tgt := 81) hx hb dX10_mostAlike_77 (by decide) ?_
    exact w_X10_mostAlike_81 cx hA hk5 ih x1 x2 x3 x4 x6 1 x5 H locs ls hP hD hS (lv_sub hl [0, 1, 2, 3, 4, 6] rfl) h
set_option maxHeartbeats 4000000 in
set_option maxRecDepth 100000 in
theorem w_X10_mostAlike_5 {p : Program} {l : Launch} {e : Env} {s : State} {m : MethodId} {args : Array Value} {below : List Frame} {meth : Method} {c : Code} {dC : Nat → ClassId} {dI : Nat → Nat → Nat} {cI cJ : ClassId} {A : Nat → Prop} (cx : CX RX10 cX10_mostAlike (some .int) 7 p s m args meth c (dC, dI) (TY cI cJ)) (hA : ∀ q, s.heap.size ≤ q → A q) {q0 : Nat → Nat} {m0 : Mem} {post : Int32 → Prop} : ∀ (n : Nat) (x1 : Int32) (x2 : Int32) (x3 : Int32) (x4 : Int32) (H : Heap) (locs : List Loc) (ls : Array Slot), va_P (dC, dI) vwCl (ww_X10 cI cJ q0 m0) H → va_D A (ww_X10 cI cJ q0 m0) → va_S A s.heap H locs → lv_has ls 7 [(0, .ref (q0 0)), (1, .int x1), (2, .int x2), (3, .int x3), (4, .int x4)] → b_X10_mostAlike_5 m0 post n x1 x2 x3 x4 → W p l e ({ frames := 1, cells := 0, slots := 0, locals := 21 }) s m args below meth c H locs 0 0 (MQ below (va_Qi (S := Unit) (fun (r : Int32) (_u : Unit) => post r) (fun _u t => AT (dC, dI) (TY cI cJ) A (ww_X10 cI cJ q0 m0) t) A) args s 0 0 A) (F0 m 5 ls []) := by
  obtain ⟨hx, hb, hr, hml, hown, hts, hlocks, hK⟩ := id cx
  have cx' : CX RX10 cX10_mostAlike (meth.sig.returnType) 7 p s m args meth c (dC, dI) (TY cI cJ) := ⟨hx, hb, rfl, hml, hown, hts, hlocks, hK⟩
  intro n
  induction n with
  | zero =>
    intro x1 x2 x3 x4 H locs ls hP hD hS hl h
    exact False.elim h
  | succ n ih =>
    intro x1 x2 x3 x4 H locs ls hP hD hS hl h
    unfold b_X10_mostAlike_5 at h
    refine lv_iload hx hb dX10_mostAlike_5 (lv_at hl 4 rfl) ?_
    refine lv_aload_n hx hb dX10_mostAlike_7 rfl (lv_at hl 0 rfl) ?_
    refine gf_v (k := 9) (v := .int (m0 0 9)) cx' hP 0 i_X10 rfl rfl (by decide) kw_724 rfl rfl dX10_mostAlike_8 ?_
    refine lv_icmp_ge (tgt := 109) hx hb dX10_mostAlike_11 (by decide) (fun c_1 => ?_) (fun c_1 => ?_)
    · have h := h.1 c_1
      refine lv_iload_n hx hb dX10_mostAlike_109 rfl (lv_at hl 3 rfl) ?_
      exact rt_i (v := x3) (u := ()) cx hP hD hS h dX10_mostAlike_110
    have h := h.2 c_1
    refine lv_iconst (v := 0) hx hb dX10_mostAlike_14 (by decide) ?_
    refine lv_istore (lv' := [(5, .int 0), (0, .ref (q0 0)), (1, .int x1), (2, .int x2), (3, .int x3), (4, .int x4)]) hx hb dX10_mostAlike_15 hl (by decide) rfl (fun ls hl => ?_)
    refine lv_iconst (v := 0) hx hb dX10_mostAlike_17 (by decide) ?_
    refine lv_istore (lv' := [(6, .int 0), (5, .int 0), (0, .ref (q0 0)), (1, .int x1), (2, .int x2), (3, .int x3), (4, .int x4)]) hx hb dX10_mostAlike_18 hl (by decide) rfl (fun ls hl => ?_)
    obtain ⟨n_2, h⟩ := h
    exact w_X10_mostAlike_20 cx hA ih n_2 x1 x2 x3 x4 0 0 H locs ls hP hD hS (lv_sub hl [2, 3, 4, 5, 6, 1, 0] rfl) h
set_option maxHeartbeats 4000000 in
set_option maxRecDepth 100000 in
theorem w_X10_mostAlike_0 {p : Program} {l : Launch} {e : Env} {s : State} {m : MethodId} {args : Array Value} {below : List Frame} {meth : Method} {c : Code} {dC : Nat → ClassId} {dI : Nat → Nat → Nat} {cI cJ : ClassId} {A : Nat → Prop} (cx : CX RX10 cX10_mostAlike (some .int) 7 p s m args meth c (dC, dI) (TY cI cJ)) (hA : ∀ q, s.heap.size ≤ q → A q) {q0 : Nat → Nat} {m0 : Mem} {post : Int32 → Prop} : ∀ (x1 : Int32) (x2 : Int32) (H : Heap) (locs : List Loc) (ls : Array Slot), va_P (dC, dI) vwCl (ww_X10 cI cJ q0 m0) H → va_D A (ww_X10 cI cJ q0 m0) → va_S A s.heap H locs → lv_has ls 7 [(0, .ref (q0 0)), (1, .int x1), (2, .int x2)] → b_X10_mostAlike_0 m0 post x1 x2 → W p l e ({ frames := 1, cells := 0, slots := 0, locals := 21 }) s m args below meth c H locs 0 0 (MQ below (va_Qi (S := Unit) (fun (r : Int32) (_u : Unit) => post r) (fun _u t => AT (dC, dI) (TY cI cJ) A (ww_X10 cI cJ q0 m0) t) A) args s 0 0 A) (F0 m 0 ls []) := by
  obtain ⟨hx, hb, hr, hml, hown, hts, hlocks, hK⟩ := id cx
  have cx' : CX RX10 cX10_mostAlike (meth.sig.returnType) 7 p s m args meth c (dC, dI) (TY cI cJ) := ⟨hx, hb, rfl, hml, hown, hts, hlocks, hK⟩
  intro x1 x2 H locs ls hP hD hS hl h
  unfold b_X10_mostAlike_0 at h
  refine lv_iconst (v := 0) hx hb dX10_mostAlike_0 (by decide) ?_
  refine lv_istore_n (lv' := [(3, .int 0), (0, .ref (q0 0)), (1, .int x1), (2, .int x2)]) hx hb dX10_mostAlike_1 rfl hl (by decide) rfl (fun ls hl => ?_)
  refine lv_iconst (v := 0) hx hb dX10_mostAlike_2 (by decide) ?_
  refine lv_istore (lv' := [(4, .int 0), (3, .int 0), (0, .ref (q0 0)), (1, .int x1), (2, .int x2)]) hx hb dX10_mostAlike_3 hl (by decide) rfl (fun ls hl => ?_)
  obtain ⟨n_1, h⟩ := h
  exact w_X10_mostAlike_5 cx hA n_1 x1 x2 0 0 H locs ls hP hD hS (lv_sub hl [2, 3, 4, 1, 0] rfl) h
set_option maxRecDepth 100000 in
theorem c_X10_mostAlike (l : Launch) {dC : Nat → ClassId} {dI : Nat → Nat → Nat} {cI cJ : ClassId} (sz : Nat) (q0 : Nat → Nat) (m0 : Mem) (x1 : Int32) (x2 : Int32) (post : Int32 → Prop) (h : wp_X10_mostAlike m0 x1 x2 post) : Met l yX10_mostAlike (Cond.code yX10_mostAlike cX10_mostAlike 7 (some .int) :: gt) ({ frames := 1, cells := 0, slots := 0, locals := 21 }) (va_Pc [.ref (q0 0), .int x1, .int x2] (PRE (dC, dI) (TY cI cJ) (ww_X10 cI cJ q0 m0) sz)) (va_Qi (S := Unit) (fun (r : Int32) (_u : Unit) => post r) (fun _u t => AT (dC, dI) (TY cI cJ) (va_A (ww_X10 cI cJ q0 m0) sz) (ww_X10 cI cJ q0 m0) t) (va_A (ww_X10 cI cJ q0 m0) sz)) 0 0 (va_A (ww_X10 cI cJ q0 m0) sz) :=
  met_of (own := RX10) (Qf := fun A => va_Qi (S := Unit) (fun (r : Int32) (_u : Unit) => post r) (fun _u t => AT (dC, dI) (TY cI cJ) A (ww_X10 cI cJ q0 m0) t) A) (by decide) rfl (Nat.le_of_ble_eq_true rfl) rfl (fun p e s m below meth c A cx hA ls hP hD hS hl => w_X10_mostAlike_0 cx hA x1 x2 _ _ ls hP hD hS hl h)
theorem mv_X10_mostAlike : MV yX10_mostAlike cX10_mostAlike 7 (some .int) 2 := ⟨⟨kw_1059, kw_11, by decide +kernel⟩, kw_1058, ksel_48⟩
set_option maxHeartbeats 4000000 in
set_option maxRecDepth 100000 in
theorem w_X10_askNow_46 {p : Program} {l : Launch} {e : Env} {s : State} {m : MethodId} {args : Array Value} {below : List Frame} {meth : Method} {c : Code} {dC : Nat → ClassId} {dI : Nat → Nat → Nat} {cI cJ : ClassId} {A : Nat → Prop} (cx : CX RX10 cX10_askNow (some .int) 7 p s m args meth c (dC, dI) (TY cI cJ)) (hA : ∀ q, s.heap.size ≤ q → A q) {q0 : Nat → Nat} {m0 : Mem} {post : Int32 → Prop} {k12 : Int32 → Int32 → Int32 → Int32 → Prop} (hk12 : ∀ (x1 : Int32) (x2 : Int32) (x3 : Int32) (x4 : Int32) (H : Heap) (locs : List Loc) (ls : Array Slot), va_P (dC, dI) vwCl (ww_X10 cI cJ q0 m0) H → va_D A (ww_X10 cI cJ q0 m0) → va_S A s.heap H locs → lv_has ls 7 [(0, .ref (q0 0)), (1, .int x1), (2, .int x2), (3, .int x3), (4, .int x4)] → k12 x1 x2 x3 x4 → W p l e ({ frames := 4, cells := 0, slots := 0, locals := 91 }) s m args below meth c H locs 0 0 (MQ below (va_Qi (S := Unit) (fun (r : Int32) (_u : Unit) => post r) (fun _u t => AT (dC, dI) (TY cI cJ) A (ww_X10 cI cJ q0 m0) t) A) args s 0 0 A) (F0 m 12 ls [])) : ∀ (x1 : Int32) (x2 : Int32) (x3 : Int32) (x4 : Int32) (x5 : Int32) (z0 : Int32) (H : Heap) (locs : List Loc) (ls : Array Slot), va_P (dC, dI) vwCl (ww_X10 cI cJ q0 m0) H → va_D A (ww_X10 cI cJ q0 m0) → va_S A s.heap H locs → lv_has ls 7 [(0, .ref (q0 0)), (1, .int x1), (2, .int x2), (3, .int x3), (4, .int x4), (5, .int x5)] → b_X10_askNow_46 m0 post k12 x1 x2 x3 x4 x5 z0 → W p l e ({ frames := 4, cells := 0, slots := 0, locals := 91 }) s m args below meth c H locs 0 0 (MQ below (va_Qi (S := Unit) (fun (r : Int32) (_u : Unit) => post r) (fun _u t => AT (dC, dI) (TY cI cJ) A (ww_X10 cI cJ q0 m0) t) A) args s 0 0 A) (F0 m 46 ls [.int z0]) := by
  obtain ⟨hx, hb, hr, hml, hown, hts, hlocks, hK⟩ := id cx
  have cx' : CX RX10 cX10_askNow (meth.sig.returnType) 7 p s m args meth c (dC, dI) (TY cI cJ) := ⟨hx, hb, rfl, hml, hown, hts, hlocks, hK⟩
  intro x1 x2 x3 x4 x5 z0 H locs ls hP hD hS hl h
  unfold b_X10_askNow_46 at h
  refine lv_istore (lv' := [(6, .int z0), (0, .ref (q0 0)), (1, .int x1), (2, .int x2), (3, .int x3), (4, .int x4), (5, .int x5)]) hx hb dX10_askNow_46 hl (by decide) rfl (fun ls hl => ?_)
  refine lv_iload hx hb dX10_askNow_48 (lv_at hl 0 rfl) ?_
  refine dia_i (ls := ls) (c0 := z0 = 0) (a := x2) (b := x4) (J := 59) (rest := []) (fun K => ?_) (fun v_2 ev_2 => ?_)
  · refine lv_if_eq (tgt := 58) hx hb dX10_askNow_50 (by decide) (fun c_1 => ?_) (fun c_1 => ?_)
    · refine lv_iload_n hx hb dX10_askNow_58 rfl (lv_at hl 3 rfl) ?_
      exact K _ (Or.inl ⟨c_1, rfl⟩)
    · refine lv_iload hx hb dX10_askNow_53 (lv_at hl 5 rfl) ?_
      refine lv_goto (tgt := 59) hx hb dX10_askNow_55 (by decide) ?_
      exact K _ (Or.inr ⟨c_1, rfl⟩)
  have h := h v_2 ev_2
  refine lv_istore_n (lv' := [(2, .int v_2), (6, .int z0), (0, .ref (q0 0)), (1, .int x1), (3, .int x3), (4, .int x4), (5, .int x5)]) hx hb dX10_askNow_59 rfl hl (by decide) rfl (fun ls hl => ?_)
  refine lv_iload hx hb dX10_askNow_60 (lv_at hl 1 rfl) ?_
  refine dia_i (ls := ls) (c0 := z0 = 0) (a := x3) (b := x5) (J := 71) (rest := []) (fun K => ?_) (fun v_4 ev_4 => ?_)
  · refine lv_if_eq (tgt := 70) hx hb dX10_askNow_62 (by decide) (fun c_3 => ?_) (fun c_3 => ?_)
    · refine lv_iload_n hx hb dX10_askNow_70 rfl (lv_at hl 4 rfl) ?_
      exact K _ (Or.inl ⟨c_3, rfl⟩)
    · refine lv_iload hx hb dX10_askNow_65 (lv_at hl 6 rfl) ?_
      refine lv_goto (tgt := 71) hx hb dX10_askNow_67 (by decide) ?_
      exact K _ (Or.inr ⟨c_3, rfl⟩)
  have h := h v_4 ev_4
  refine lv_istore_n (lv' := [(3, .int v_4), (2, .int v_2), (6, .int z0), (0, .ref (q0 0)), (1, .int x1), (4, .int x4), (5, .int x5)]) hx hb dX10_askNow_71 rfl hl (by decide) rfl (fun ls hl => ?_)
  obtain ⟨x4_5, ex4_5⟩ : ∃ z : Int32, z = x4 + 1 := ⟨_, rfl⟩
  have h := h x4_5 ex4_5
  refine lv_iinc (v := x4_5) (lv' := [(4, .int x4_5), (3, .int v_4), (2, .int v_2), (6, .int z0), (0, .ref (q0 0)), (1, .int x1), (5, .int x5)]) hx hb dX10_askNow_72 hl (k := 5) rfl (by rw [ex4_5]; rfl) (by decide) rfl (fun ls hl => ?_)
  refine lv_goto (tgt := 12) hx hb dX10_askNow_75 (by decide) ?_
  exact hk12 x1 v_2 v_4 x4_5 H locs ls hP hD hS (lv_sub hl [4, 5, 2, 1, 0] rfl) h
set_option maxHeartbeats 4000000 in
set_option maxRecDepth 100000 in
theorem w_X10_askNow_41 {p : Program} {l : Launch} {e : Env} {s : State} {m : MethodId} {args : Array Value} {below : List Frame} {meth : Method} {c : Code} {dC : Nat → ClassId} {dI : Nat → Nat → Nat} {cI cJ : ClassId} {A : Nat → Prop} (cx : CX RX10 cX10_askNow (some .int) 7 p s m args meth c (dC, dI) (TY cI cJ)) (hA : ∀ q, s.heap.size ≤ q → A q) {q0 : Nat → Nat} {m0 : Mem} {post : Int32 → Prop} {k12 : Int32 → Int32 → Int32 → Int32 → Prop} (hk12 : ∀ (x1 : Int32) (x2 : Int32) (x3 : Int32) (x4 : Int32) (H : Heap) (locs : List Loc) (ls : Array Slot), va_P (dC, dI) vwCl (ww_X10 cI cJ q0 m0) H → va_D A (ww_X10 cI cJ q0 m0) → va_S A s.heap H locs → lv_has ls 7 [(0, .ref (q0 0)), (1, .int x1), (2, .int x2), (3, .int x3), (4, .int x4)] → k12 x1 x2 x3 x4 → W p l e ({ frames := 4, cells := 0, slots := 0, locals := 91 }) s m args below meth c H locs 0 0 (MQ below (va_Qi (S := Unit) (fun (r : Int32) (_u : Unit) => post r) (fun _u t => AT (dC, dI) (TY cI cJ) A (ww_X10 cI cJ q0 m0) t) A) args s 0 0 A) (F0 m 12 ls [])) : ∀ (x1 : Int32) (x2 : Int32) (x3 : Int32) (x4 : Int32) (x5 : Int32) (H : Heap) (locs : List Loc) (ls : Array Slot), va_P (dC, dI) vwCl (ww_X10 cI cJ q0 m0) H → va_D A (ww_X10 cI cJ q0 m0) → va_S A s.heap H locs → lv_has ls 7 [(0, .ref (q0 0)), (1, .int x1), (2, .int x2), (3, .int x3), (4, .int x4), (5, .int x5)] → b_X10_askNow_41 m0 post k12 x1 x2 x3 x4 x5 → W p l e ({ frames := 4, cells := 0, slots := 0, locals := 91 }) s m args below meth c H locs 0 0 (MQ below (va_Qi (S := Unit) (fun (r : Int32) (_u : Unit) => post r) (fun _u t => AT (dC, dI) (TY cI cJ) A (ww_X10 cI cJ q0 m0) t) A) args s 0 0 A) (F0 m 41 ls []) := by
  obtain ⟨hx, hb, hr, hml, hown, hts, hlocks, hK⟩ := id cx
  have cx' : CX RX10 cX10_askNow (meth.sig.returnType) 7 p s m args meth c (dC, dI) (TY cI cJ) := ⟨hx, hb, rfl, hml, hown, hts, hlocks, hK⟩
  intro x1 x2 x3 x4 x5 H locs ls hP hD hS hl h
  unfold b_X10_askNow_41 at h
  refine lv_iconst (v := 1) hx hb dX10_askNow_41 (by decide) ?_
  refine lv_goto (tgt := 46) hx hb dX10_askNow_42 (by decide) ?_
  exact w_X10_askNow_46 cx hA hk12 x1 x2 x3 x4 x5 1 H locs ls hP hD hS (lv_sub hl [0, 1, 2, 3, 4, 5] rfl) h
set_option maxHeartbeats 4000000 in
set_option maxRecDepth 100000 in
theorem w_X10_askNow_12 {p : Program} {l : Launch} {e : Env} {s : State} {m : MethodId} {args : Array Value} {below : List Frame} {meth : Method} {c : Code} {dC : Nat → ClassId} {dI : Nat → Nat → Nat} {cI cJ : ClassId} {A : Nat → Prop} (cx : CX RX10 cX10_askNow (some .int) 7 p s m args meth c (dC, dI) (TY cI cJ)) (hA : ∀ q, s.heap.size ≤ q → A q) {q0 : Nat → Nat} {m0 : Mem} {post : Int32 → Prop} : ∀ (n : Nat) (x1 : Int32) (x2 : Int32) (x3 : Int32) (x4 : Int32) (H : Heap) (locs : List Loc) (ls : Array Slot), va_P (dC, dI) vwCl (ww_X10 cI cJ q0 m0) H → va_D A (ww_X10 cI cJ q0 m0) → va_S A s.heap H locs → lv_has ls 7 [(0, .ref (q0 0)), (1, .int x1), (2, .int x2), (3, .int x3), (4, .int x4)] → b_X10_askNow_12 m0 post n x1 x2 x3 x4 → W p l e ({ frames := 4, cells := 0, slots := 0, locals := 91 }) s m args below meth c H locs 0 0 (MQ below (va_Qi (S := Unit) (fun (r : Int32) (_u : Unit) => post r) (fun _u t => AT (dC, dI) (TY cI cJ) A (ww_X10 cI cJ q0 m0) t) A) args s 0 0 A) (F0 m 12 ls []) := by
  obtain ⟨hx, hb, hr, hml, hown, hts, hlocks, hK⟩ := id cx
  have cx' : CX RX10 cX10_askNow (meth.sig.returnType) 7 p s m args meth c (dC, dI) (TY cI cJ) := ⟨hx, hb, rfl, hml, hown, hts, hlocks, hK⟩
  intro n
  induction n with
  | zero =>
    intro x1 x2 x3 x4 H locs ls hP hD hS hl h
    exact False.elim h
  | succ n ih =>
    intro x1 x2 x3 x4 H locs ls hP hD hS hl h
    unfold b_X10_askNow_12 at h
    refine lv_iload hx hb dX10_askNow_12 (lv_at hl 4 rfl) ?_
    refine lv_aload_n hx hb dX10_askNow_14 rfl (lv_at hl 0 rfl) ?_
    refine gf_v (k := 7) (v := .int (m0 0 7)) cx' hP 0 i_X10 rfl rfl (by decide) kw_722 rfl rfl dX10_askNow_15 ?_
    refine lv_icmp_ge (tgt := 78) hx hb dX10_askNow_18 (by decide) (fun c_1 => ?_) (fun c_1 => ?_)
    · have h := h.1 c_1
      refine lv_iload_n hx hb dX10_askNow_78 rfl (lv_at hl 2 rfl) ?_
      exact rt_i (v := x2) (u := ()) cx hP hD hS h dX10_askNow_79
    have h := h.2 c_1
    refine lv_aload_n hx hb dX10_askNow_21 rfl (lv_at hl 0 rfl) ?_
    refine lv_iload hx hb dX10_askNow_22 (lv_at hl 4 rfl) ?_
    refine lv_iload_n hx hb dX10_askNow_24 rfl (lv_at hl 1 rfl) ?_
    refine call_i (run_V (As := [.int x4, .int x1]) (rest := []) cx' (c_X10_mostAlike l H.size q0 m0 x4 x1 _ h) mv_X10_mostAlike kw_1056 rfl rfl ⟨Nat.le_of_ble_eq_true rfl, Nat.le_of_ble_eq_true rfl⟩ hP hD rfl rfl rfl hl.1 rfl (Nat.le_of_ble_eq_true rfl) dX10_askNow_25 ⟨Nat.zero_le _, Nat.zero_le _⟩) hD hS hA (fun r_2 u9 H locs hP hD hS h => ?_)
    have hP : va_P (dC, dI) vwCl (ww_X10 cI cJ q0 m0) H := hP
    have hD : va_D A (ww_X10 cI cJ q0 m0) := hD
    refine lv_istore (lv' := [(5, .int r_2), (0, .ref (q0 0)), (1, .int x1), (2, .int x2), (3, .int x3), (4, .int x4)]) hx hb dX10_askNow_28 hl (by decide) rfl (fun ls hl => ?_)
    refine lv_iload_n hx hb dX10_askNow_30 rfl (lv_at hl 3 rfl) ?_
    refine lv_iconst (v := (-1)) hx hb dX10_askNow_31 (by decide) ?_
    refine lv_icmp_eq (tgt := 41) hx hb dX10_askNow_32 (by decide) (fun c_3 => ?_) (fun c_3 => ?_)
    · have h := h.1 c_3
      exact w_X10_askNow_41 cx hA ih x1 x2 x3 x4 r_2 H locs ls hP hD hS (lv_sub hl [1, 2, 3, 4, 5, 0] rfl) h
    have h := h.2 c_3
    refine lv_iload hx hb dX10_askNow_35 (lv_at hl 0 rfl) ?_
    refine lv_iload_n hx hb dX10_askNow_37 rfl (lv_at hl 4 rfl) ?_
    refine lv_icmp_ge (tgt := 45) hx hb dX10_askNow_38 (by decide) (fun c_4 => ?_) (fun c_4 => ?_)
    · have h := h.1 c_4
      refine lv_iconst (v := 0) hx hb dX10_askNow_45 (by decide) ?_
      exact w_X10_askNow_46 cx hA ih x1 x2 x3 x4 r_2 0 H locs ls hP hD hS (lv_sub hl [1, 2, 3, 4, 5, 0] rfl) h
    have h := h.2 c_4
    exact w_X10_askNow_41 cx hA ih x1 x2 x3 x4 r_2 H locs ls hP hD hS (lv_sub hl [1, 2, 3, 4, 5, 0] rfl) h
set_option maxHeartbeats 4000000 in
set_option maxRecDepth 100000 in
theorem w_X10_askNow_0 {p : Program} {l : Launch} {e : Env} {s : State} {m : MethodId} {args : Array Value} {below : List Frame} {meth : Method} {c : Code} {dC : Nat → ClassId} {dI : Nat → Nat → Nat} {cI cJ : ClassId} {A : Nat → Prop} (cx : CX RX10 cX10_askNow (some .int) 7 p s m args meth c (dC, dI) (TY cI cJ)) (hA : ∀ q, s.heap.size ≤ q → A q) {q0 : Nat → Nat} {m0 : Mem} {post : Int32 → Prop} : ∀  (H : Heap) (locs : List Loc) (ls : Array Slot), va_P (dC, dI) vwCl (ww_X10 cI cJ q0 m0) H → va_D A (ww_X10 cI cJ q0 m0) → va_S A s.heap H locs → lv_has ls 7 [(0, .ref (q0 0))] → b_X10_askNow_0 m0 post  → W p l e ({ frames := 4, cells := 0, slots := 0, locals := 91 }) s m args below meth c H locs 0 0 (MQ below (va_Qi (S := Unit) (fun (r : Int32) (_u : Unit) => post r) (fun _u t => AT (dC, dI) (TY cI cJ) A (ww_X10 cI cJ q0 m0) t) A) args s 0 0 A) (F0 m 0 ls []) := by
  obtain ⟨hx, hb, hr, hml, hown, hts, hlocks, hK⟩ := id cx
  have cx' : CX RX10 cX10_askNow (meth.sig.returnType) 7 p s m args meth c (dC, dI) (TY cI cJ) := ⟨hx, hb, rfl, hml, hown, hts, hlocks, hK⟩
  intro H locs ls hP hD hS hl h
  unfold b_X10_askNow_0 at h
  refine lv_aload_n hx hb dX10_askNow_0 rfl (lv_at hl 0 rfl) ?_
  refine call_i (run_V (As := []) (rest := []) cx' (c_X10_twiceNow l H.size q0 m0 _ h) mv_X10_twiceNow kw_1028 rfl rfl ⟨Nat.le_of_ble_eq_true rfl, Nat.le_of_ble_eq_true rfl⟩ hP hD rfl rfl rfl hl.1 rfl (Nat.le_of_ble_eq_true rfl) dX10_askNow_1 ⟨Nat.zero_le _, Nat.zero_le _⟩) hD hS hA (fun r_1 u9 H locs hP hD hS h => ?_)
  have hP : va_P (dC, dI) vwCl (ww_X10 cI cJ q0 m0) H := hP
  have hD : va_D A (ww_X10 cI cJ q0 m0) := hD
  refine lv_istore_n (lv' := [(1, .int r_1), (0, .ref (q0 0))]) hx hb dX10_askNow_4 rfl hl (by decide) rfl (fun ls hl => ?_)
  refine lv_iconst (v := (-1)) hx hb dX10_askNow_5 (by decide) ?_
  refine lv_istore_n (lv' := [(2, .int (-1)), (1, .int r_1), (0, .ref (q0 0))]) hx hb dX10_askNow_6 rfl hl (by decide) rfl (fun ls hl => ?_)
  refine lv_iconst (v := 0) hx hb dX10_askNow_7 (by decide) ?_
  refine lv_istore_n (lv' := [(3, .int 0), (2, .int (-1)), (1, .int r_1), (0, .ref (q0 0))]) hx hb dX10_askNow_8 rfl hl (by decide) rfl (fun ls hl => ?_)
  refine lv_iconst (v := 0) hx hb dX10_askNow_9 (by decide) ?_
  refine lv_istore (lv' := [(4, .int 0), (3, .int 0), (2, .int (-1)), (1, .int r_1), (0, .ref (q0 0))]) hx hb dX10_askNow_10 hl (by decide) rfl (fun ls hl => ?_)
  obtain ⟨n_2, h⟩ := h
  exact w_X10_askNow_12 cx hA n_2 r_1 (-1) 0 0 H locs ls hP hD hS (lv_sub hl [4, 3, 2, 1, 0] rfl) h
set_option maxRecDepth 100000 in
theorem c_X10_askNow (l : Launch) {dC : Nat → ClassId} {dI : Nat → Nat → Nat} {cI cJ : ClassId} (sz : Nat) (q0 : Nat → Nat) (m0 : Mem) (post : Int32 → Prop) (h : wp_X10_askNow m0 post) : Met l yX10_askNow (Cond.code yX10_askNow cX10_askNow 7 (some .int) :: gt) ({ frames := 4, cells := 0, slots := 0, locals := 91 }) (va_Pc [.ref (q0 0)] (PRE (dC, dI) (TY cI cJ) (ww_X10 cI cJ q0 m0) sz)) (va_Qi (S := Unit) (fun (r : Int32) (_u : Unit) => post r) (fun _u t => AT (dC, dI) (TY cI cJ) (va_A (ww_X10 cI cJ q0 m0) sz) (ww_X10 cI cJ q0 m0) t) (va_A (ww_X10 cI cJ q0 m0) sz)) 0 0 (va_A (ww_X10 cI cJ q0 m0) sz) :=
  met_of (own := RX10) (Qf := fun A => va_Qi (S := Unit) (fun (r : Int32) (_u : Unit) => post r) (fun _u t => AT (dC, dI) (TY cI cJ) A (ww_X10 cI cJ q0 m0) t) A) (by decide) rfl (Nat.le_of_ble_eq_true rfl) rfl (fun p e s m below meth c A cx hA ls hP hD hS hl => w_X10_askNow_0 cx hA  _ _ ls hP hD hS hl h)
theorem mv_X10_askNow : MV yX10_askNow cX10_askNow 7 (some .int) 0 := ⟨⟨kw_1055, kw_11, by decide +kernel⟩, kw_1054, ksel_47⟩
set_option maxHeartbeats 4000000 in
set_option maxRecDepth 100000 in
theorem w_X10_ask_0 {p : Program} {l : Launch} {e : Env} {s : State} {m : MethodId} {args : Array Value} {below : List Frame} {meth : Method} {c : Code} {dC : Nat → ClassId} {dI : Nat → Nat → Nat} {cI cJ : ClassId} {A : Nat → Prop} (cx : CX RX10 cX10_ask (some .int) 1 p s m args meth c (dC, dI) (TY cI cJ)) (hA : ∀ q, s.heap.size ≤ q → A q) {q0 : Nat → Nat} {post : Int32 → Mem → Prop} : ∀ (m0 : Mem) (H : Heap) (locs : List Loc) (ls : Array Slot), va_P (dC, dI) vwCl (ww_X10 cI cJ q0 m0) H → va_D A (ww_X10 cI cJ q0 m0) → va_S A s.heap H locs → lv_has ls 1 [(0, .ref (q0 0))] → b_X10_ask_0 post m0 → W p l e ({ frames := 6, cells := 0, slots := 0, locals := 132 }) s m args below meth c H locs 0 0 (MQ below (va_Qi (S := Mem) (fun (r : Int32) (u : Mem) => post r u) (fun u t => AT (dC, dI) (TY cI cJ) A (ww_X10 cI cJ q0 u) t) A) args s 0 0 A) (F0 m 0 ls []) := by
  obtain ⟨hx, hb, hr, hml, hown, hts, hlocks, hK⟩ := id cx
  have cx' : CX RX10 cX10_ask (meth.sig.returnType) 1 p s m args meth c (dC, dI) (TY cI cJ) := ⟨hx, hb, rfl, hml, hown, hts, hlocks, hK⟩
  intro m0 H locs ls hP hD hS hl h
  unfold b_X10_ask_0 at h
  refine lv_aload_n hx hb dX10_ask_0 rfl (lv_at hl 0 rfl) ?_
  refine call_v (run_V (As := []) (rest := []) cx' (c_X10_find l H.size q0 m0 _ h) mv_X10_find kw_906 rfl rfl ⟨Nat.le_of_ble_eq_true rfl, Nat.le_of_ble_eq_true rfl⟩ hP hD rfl rfl rfl hl.1 rfl (Nat.le_of_ble_eq_true rfl) dX10_ask_1 ⟨Nat.zero_le _, Nat.zero_le _⟩) hD hS hA (fun u9 H locs hP hD hS h => ?_)
  obtain ⟨m0_1, rfl⟩ : ∃ z, z = u9 := ⟨_, rfl⟩
  have hP : va_P (dC, dI) vwCl (ww_X10 cI cJ q0 m0_1) H := hP
  have hD : va_D A (ww_X10 cI cJ q0 m0_1) := hD
  refine lv_aload_n hx hb dX10_ask_4 rfl (lv_at hl 0 rfl) ?_
  refine call_i (run_V (As := []) (rest := []) cx' (c_X10_askNow l H.size q0 m0_1 _ h) mv_X10_askNow kw_1052 rfl rfl ⟨Nat.le_of_ble_eq_true rfl, Nat.le_of_ble_eq_true rfl⟩ hP hD rfl rfl rfl hl.1 rfl (Nat.le_of_ble_eq_true rfl) dX10_ask_5 ⟨Nat.zero_le _, Nat.zero_le _⟩) hD hS hA (fun r_2 u9 H locs hP hD hS h => ?_)
  have hP : va_P (dC, dI) vwCl (ww_X10 cI cJ q0 m0_1) H := hP
  have hD : va_D A (ww_X10 cI cJ q0 m0_1) := hD
  exact rt_i (v := r_2) (u := m0_1) cx hP hD hS h dX10_ask_8
set_option maxRecDepth 100000 in
theorem c_X10_ask (l : Launch) {dC : Nat → ClassId} {dI : Nat → Nat → Nat} {cI cJ : ClassId} (sz : Nat) (q0 : Nat → Nat) (m0 : Mem) (post : Int32 → Mem → Prop) (h : wp_X10_ask m0 post) : Met l yX10_ask (Cond.code yX10_ask cX10_ask 1 (some .int) :: gt) ({ frames := 6, cells := 0, slots := 0, locals := 132 }) (va_Pc [.ref (q0 0)] (PRE (dC, dI) (TY cI cJ) (ww_X10 cI cJ q0 m0) sz)) (va_Qi (S := Mem) (fun (r : Int32) (u : Mem) => post r u) (fun u t => AT (dC, dI) (TY cI cJ) (va_A (ww_X10 cI cJ q0 m0) sz) (ww_X10 cI cJ q0 u) t) (va_A (ww_X10 cI cJ q0 m0) sz)) 0 0 (va_A (ww_X10 cI cJ q0 m0) sz) :=
  met_of (own := RX10) (Qf := fun A => va_Qi (S := Mem) (fun (r : Int32) (u : Mem) => post r u) (fun u t => AT (dC, dI) (TY cI cJ) A (ww_X10 cI cJ q0 u) t) A) (by decide) rfl (Nat.le_of_ble_eq_true rfl) rfl (fun p e s m below meth c A cx hA ls hP hD hS hl => w_X10_ask_0 cx hA m0 _ _ ls hP hD hS hl h)
theorem mv_X10_ask : MV yX10_ask cX10_ask 1 (some .int) 0 := ⟨⟨kw_1051, kw_11, by decide +kernel⟩, kw_1049, kw_1050⟩
set_option maxHeartbeats 4000000 in
set_option maxRecDepth 100000 in
theorem w_X10_roadOf_63 {p : Program} {l : Launch} {e : Env} {s : State} {m : MethodId} {args : Array Value} {below : List Frame} {meth : Method} {c : Code} {dC : Nat → ClassId} {dI : Nat → Nat → Nat} {cI cJ : ClassId} {A : Nat → Prop} (cx : CX RX10 cX10_roadOf (some .long) 12 p s m args meth c (dC, dI) (TY cI cJ)) (hA : ∀ q, s.heap.size ≤ q → A q) {q0 : Nat → Nat} {m0 : Mem} {post : Int64 → Prop} {k6 : Int32 → Int32 → Int32 → Int32 → Int64 → Int32 → Prop} {k26 : Int32 → Int32 → Int32 → Int32 → Int64 → Int32 → Int32 → Int64 → Int32 → Prop} (hk6 : ∀ (x1 : Int32) (x2 : Int32) (x3 : Int32) (x4 : Int32) (x5 : Int64) (x7 : Int32) (H : Heap) (locs : List Loc) (ls : Array Slot), va_P (dC, dI) vwCl (ww_X10 cI cJ q0 m0) H → va_D A (ww_X10 cI cJ q0 m0) → va_S A s.heap H locs → lv_has ls 12 [(0, .ref (q0 0)), (1, .int x1), (2, .int x2), (3, .int x3), (4, .int x4), (5, .long x5), (7, .int x7)] → k6 x1 x2 x3 x4 x5 x7 → W p l e ({ frames := 1, cells := 0, slots := 0, locals := 30 }) s m args below meth c H locs 0 0 (MQ below (va_Ql (S := Unit) (fun (r : Int64) (_u : Unit) => post r) (fun _u t => AT (dC, dI) (TY cI cJ) A (ww_X10 cI cJ q0 m0) t) A) args s 0 0 A) (F0 m 6 ls [])) (hk26 : ∀ (x1 : Int32) (x2 : Int32) (x3 : Int32) (x4 : Int32) (x5 : Int64) (x7 : Int32) (x8 : Int32) (x9 : Int64) (x11 : Int32) (H : Heap) (locs : List Loc) (ls : Array Slot), va_P (dC, dI) vwCl (ww_X10 cI cJ q0 m0) H → va_D A (ww_X10 cI cJ q0 m0) → va_S A s.heap H locs → lv_has ls 12 [(0, .ref (q0 0)), (1, .int x1), (2, .int x2), (3, .int x3), (4, .int x4), (5, .long x5), (7, .int x7), (8, .int x8), (9, .long x9), (11, .int x11)] → k26 x1 x2 x3 x4 x5 x7 x8 x9 x11 → W p l e ({ frames := 1, cells := 0, slots := 0, locals := 30 }) s m args below meth c H locs 0 0 (MQ below (va_Ql (S := Unit) (fun (r : Int64) (_u : Unit) => post r) (fun _u t => AT (dC, dI) (TY cI cJ) A (ww_X10 cI cJ q0 m0) t) A) args s 0 0 A) (F0 m 26 ls [])) : ∀ (x1 : Int32) (x2 : Int32) (x3 : Int32) (x4 : Int32) (x5 : Int64) (x7 : Int32) (x9 : Int64) (x11 : Int32) (z0 : Int32) (z1 : Int32) (H : Heap) (locs : List Loc) (ls : Array Slot), va_P (dC, dI) vwCl (ww_X10 cI cJ q0 m0) H → va_D A (ww_X10 cI cJ q0 m0) → va_S A s.heap H locs → lv_has ls 12 [(0, .ref (q0 0)), (1, .int x1), (2, .int x2), (3, .int x3), (4, .int x4), (5, .long x5), (7, .int x7), (9, .long x9), (11, .int x11)] → b_X10_roadOf_63 m0 post k6 k26 x1 x2 x3 x4 x5 x7 x9 x11 z0 z1 → W p l e ({ frames := 1, cells := 0, slots := 0, locals := 30 }) s m args below meth c H locs 0 0 (MQ below (va_Ql (S := Unit) (fun (r : Int64) (_u : Unit) => post r) (fun _u t => AT (dC, dI) (TY cI cJ) A (ww_X10 cI cJ q0 m0) t) A) args s 0 0 A) (F0 m 63 ls [.int z0, .int z1]) := by
  obtain ⟨hx, hb, hr, hml, hown, hts, hlocks, hK⟩ := id cx
  have cx' : CX RX10 cX10_roadOf (meth.sig.returnType) 12 p s m args meth c (dC, dI) (TY cI cJ) := ⟨hx, hb, rfl, hml, hown, hts, hlocks, hK⟩
  intro x1 x2 x3 x4 x5 x7 x9 x11 z0 z1 H locs ls hP hD hS hl h
  unfold b_X10_roadOf_63 at h
  refine lv_iadd hx hb dX10_roadOf_63 ?_
  refine lv_topi (fun x8_1 ex8_1 => ?_)
  have h := h x8_1 ex8_1
  refine lv_istore (lv' := [(8, .int x8_1), (0, .ref (q0 0)), (1, .int x1), (2, .int x2), (3, .int x3), (4, .int x4), (5, .long x5), (7, .int x7), (9, .long x9), (11, .int x11)]) hx hb dX10_roadOf_64 hl (by decide) rfl (fun ls hl => ?_)
  refine lv_lload hx hb dX10_roadOf_66 (lv_at hl 8 rfl) ?_
  refine lv_iload hx hb dX10_roadOf_68 (lv_at hl 7 rfl) ?_
  refine lv_iload hx hb dX10_roadOf_70 (lv_at hl 9 rfl) ?_
  refine callN_i (run_S (As := [.int x7, .int x11]) (rest := [.long x9]) (wc := []) cx' (c_X10_isIn l H.size x7 x11 _ h) ms_X10_isIn kw_918 rfl rfl ⟨Nat.le_of_ble_eq_true rfl, Nat.le_of_ble_eq_true rfl⟩ nilP nilD (A := A) rfl hl.1 rfl (Nat.le_of_ble_eq_true rfl) dX10_roadOf_72 ⟨Nat.zero_le _, Nat.zero_le _⟩) hP hS hA (fun r_2 H locs hP hS h => ?_)
  refine dia_l (ls := ls) (c0 := r_2 = 0) (a := Int32.toInt64 (16 - x1)) (b := Int32.toInt64 x1) (J := 88) (rest := [.long x9]) (fun K => ?_) (fun v_4 ev_4 => ?_)
  · refine lv_if_eq (tgt := 83) hx hb dX10_roadOf_75 (by decide) (fun c_3 => ?_) (fun c_3 => ?_)
    · refine lv_bipush (v := 16) hx hb dX10_roadOf_83 (by decide) ?_
      refine lv_iload_n hx hb dX10_roadOf_85 rfl (lv_at hl 2 rfl) ?_
      refine lv_isub hx hb dX10_roadOf_86 ?_
      refine lv_i2l (v := Int32.toInt64 (16 - x1)) hx hb dX10_roadOf_87 rfl ?_
      exact K _ (Or.inl ⟨c_3, rfl⟩)
    · refine lv_iload_n hx hb dX10_roadOf_78 rfl (lv_at hl 2 rfl) ?_
      refine lv_i2l (v := Int32.toInt64 x1) hx hb dX10_roadOf_79 rfl ?_
      refine lv_goto (tgt := 88) hx hb dX10_roadOf_80 (by decide) ?_
      exact K _ (Or.inr ⟨c_3, rfl⟩)
  have h := h v_4 ev_4
  refine lv_lmul hx hb dX10_roadOf_88 ?_
  refine lv_topl (fun x9_5 ex9_5 => ?_)
  have h := h x9_5 ex9_5
  refine lv_lstore (lv' := [(9, .long x9_5), (8, .int x8_1), (0, .ref (q0 0)), (1, .int x1), (2, .int x2), (3, .int x3), (4, .int x4), (5, .long x5), (7, .int x7), (11, .int x11)]) hx hb dX10_roadOf_89 hl (by decide) rfl (fun ls hl => ?_)
  obtain ⟨x11_6, ex11_6⟩ : ∃ z : Int32, z = x11 + 1 := ⟨_, rfl⟩
  have h := h x11_6 ex11_6
  refine lv_iinc (v := x11_6) (lv' := [(11, .int x11_6), (9, .long x9_5), (8, .int x8_1), (0, .ref (q0 0)), (1, .int x1), (2, .int x2), (3, .int x3), (4, .int x4), (5, .long x5), (7, .int x7)]) hx hb dX10_roadOf_91 hl (k := 9) rfl (by rw [ex11_6]; rfl) (by decide) rfl (fun ls hl => ?_)
  refine lv_goto (tgt := 26) hx hb dX10_roadOf_94 (by decide) ?_
  exact hk26 x1 x2 x3 x4 x5 x7 x8_1 x9_5 x11_6 H locs ls hP hD hS (lv_sub hl [3, 4, 5, 6, 7, 8, 9, 2, 1, 0] rfl) h
set_option maxHeartbeats 4000000 in
set_option maxRecDepth 100000 in
theorem w_X10_roadOf_26 {p : Program} {l : Launch} {e : Env} {s : State} {m : MethodId} {args : Array Value} {below : List Frame} {meth : Method} {c : Code} {dC : Nat → ClassId} {dI : Nat → Nat → Nat} {cI cJ : ClassId} {A : Nat → Prop} (cx : CX RX10 cX10_roadOf (some .long) 12 p s m args meth c (dC, dI) (TY cI cJ)) (hA : ∀ q, s.heap.size ≤ q → A q) {q0 : Nat → Nat} {m0 : Mem} {post : Int64 → Prop} {k6 : Int32 → Int32 → Int32 → Int32 → Int64 → Int32 → Prop} (hk6 : ∀ (x1 : Int32) (x2 : Int32) (x3 : Int32) (x4 : Int32) (x5 : Int64) (x7 : Int32) (H : Heap) (locs : List Loc) (ls : Array Slot), va_P (dC, dI) vwCl (ww_X10 cI cJ q0 m0) H → va_D A (ww_X10 cI cJ q0 m0) → va_S A s.heap H locs → lv_has ls 12 [(0, .ref (q0 0)), (1, .int x1), (2, .int x2), (3, .int x3), (4, .int x4), (5, .long x5), (7, .int x7)] → k6 x1 x2 x3 x4 x5 x7 → W p l e ({ frames := 1, cells := 0, slots := 0, locals := 30 }) s m args below meth c H locs 0 0 (MQ below (va_Ql (S := Unit) (fun (r : Int64) (_u : Unit) => post r) (fun _u t => AT (dC, dI) (TY cI cJ) A (ww_X10 cI cJ q0 m0) t) A) args s 0 0 A) (F0 m 6 ls [])) : ∀ (n : Nat) (x1 : Int32) (x2 : Int32) (x3 : Int32) (x4 : Int32) (x5 : Int64) (x7 : Int32) (x8 : Int32) (x9 : Int64) (x11 : Int32) (H : Heap) (locs : List Loc) (ls : Array Slot), va_P (dC, dI) vwCl (ww_X10 cI cJ q0 m0) H → va_D A (ww_X10 cI cJ q0 m0) → va_S A s.heap H locs → lv_has ls 12 [(0, .ref (q0 0)), (1, .int x1), (2, .int x2), (3, .int x3), (4, .int x4), (5, .long x5), (7, .int x7), (8, .int x8), (9, .long x9), (11, .int x11)] → b_X10_roadOf_26 m0 post k6 n x1 x2 x3 x4 x5 x7 x8 x9 x11 → W p l e ({ frames := 1, cells := 0, slots := 0, locals := 30 }) s m args below meth c H locs 0 0 (MQ below (va_Ql (S := Unit) (fun (r : Int64) (_u : Unit) => post r) (fun _u t => AT (dC, dI) (TY cI cJ) A (ww_X10 cI cJ q0 m0) t) A) args s 0 0 A) (F0 m 26 ls []) := by
  obtain ⟨hx, hb, hr, hml, hown, hts, hlocks, hK⟩ := id cx
  have cx' : CX RX10 cX10_roadOf (meth.sig.returnType) 12 p s m args meth c (dC, dI) (TY cI cJ) := ⟨hx, hb, rfl, hml, hown, hts, hlocks, hK⟩
  intro n
  induction n with
  | zero =>
    intro x1 x2 x3 x4 x5 x7 x8 x9 x11 H locs ls hP hD hS hl h
    exact False.elim h
  | succ n ih =>
    intro x1 x2 x3 x4 x5 x7 x8 x9 x11 H locs ls hP hD hS hl h
    unfold b_X10_roadOf_26 at h
    refine lv_iload hx hb dX10_roadOf_26 (lv_at hl 9 rfl) ?_
    refine lv_aload_n hx hb dX10_roadOf_28 rfl (lv_at hl 0 rfl) ?_
    refine gf_v (k := 9) (v := .int (m0 0 9)) cx' hP 0 i_X10 rfl rfl (by decide) kw_724 rfl rfl dX10_roadOf_29 ?_
    refine lv_icmp_ge (tgt := 97) hx hb dX10_roadOf_32 (by decide) (fun c_1 => ?_) (fun c_1 => ?_)
    · have h := h.1 c_1
      refine lv_lload hx hb dX10_roadOf_97 (lv_at hl 5 rfl) ?_
      refine lv_iload hx hb dX10_roadOf_99 (lv_at hl 7 rfl) ?_
      refine lv_iload_n hx hb dX10_roadOf_101 rfl (lv_at hl 3 rfl) ?_
      refine dia_l (ls := ls) (c0 := x8 < x3) (a := 0) (b := x9) (J := 111) (rest := [.long x5]) (fun K => ?_) (fun v_3 ev_3 => ?_)
      · refine lv_icmp_lt (tgt := 110) hx hb dX10_roadOf_102 (by decide) (fun c_2 => ?_) (fun c_2 => ?_)
        · refine lv_lconst (v := 0) hx hb dX10_roadOf_110 (by decide) ?_
          exact K _ (Or.inl ⟨c_2, rfl⟩)
        · refine lv_lload hx hb dX10_roadOf_105 (lv_at hl 8 rfl) ?_
          refine lv_goto (tgt := 111) hx hb dX10_roadOf_107 (by decide) ?_
          exact K _ (Or.inr ⟨c_2, rfl⟩)
      have h := h v_3 ev_3
      refine lv_ladd hx hb dX10_roadOf_111 ?_
      refine lv_topl (fun x5_4 ex5_4 => ?_)
      have h := h x5_4 ex5_4
      refine lv_lstore (lv' := [(5, .long x5_4), (0, .ref (q0 0)), (1, .int x1), (2, .int x2), (3, .int x3), (4, .int x4), (7, .int x7), (8, .int x8), (9, .long x9), (11, .int x11)]) hx hb dX10_roadOf_112 hl (by decide) rfl (fun ls hl => ?_)
      obtain ⟨x7_5, ex7_5⟩ : ∃ z : Int32, z = x7 + 1 := ⟨_, rfl⟩
      have h := h x7_5 ex7_5
      refine lv_iinc (v := x7_5) (lv' := [(7, .int x7_5), (5, .long x5_4), (0, .ref (q0 0)), (1, .int x1), (2, .int x2), (3, .int x3), (4, .int x4), (8, .int x8), (9, .long x9), (11, .int x11)]) hx hb dX10_roadOf_114 hl (k := 6) rfl (by rw [ex7_5]; rfl) (by decide) rfl (fun ls hl => ?_)
      refine lv_goto (tgt := 6) hx hb dX10_roadOf_117 (by decide) ?_
      exact hk6 x1 x2 x3 x4 x5_4 x7_5 H locs ls hP hD hS (lv_sub hl [2, 3, 4, 5, 6, 1, 0] rfl) h
    have h := h.2 c_1
    refine lv_iload hx hb dX10_roadOf_35 (lv_at hl 7 rfl) ?_
    refine lv_iload hx hb dX10_roadOf_37 (lv_at hl 6 rfl) ?_
    refine lv_iload hx hb dX10_roadOf_39 (lv_at hl 9 rfl) ?_
    refine callN_i (run_S (As := [.int x7, .int x11]) (rest := [.int x8]) (wc := []) cx' (c_X10_isIn l H.size x7 x11 _ h) ms_X10_isIn kw_918 rfl rfl ⟨Nat.le_of_ble_eq_true rfl, Nat.le_of_ble_eq_true rfl⟩ nilP nilD (A := A) rfl hl.1 rfl (Nat.le_of_ble_eq_true rfl) dX10_roadOf_41 ⟨Nat.zero_le _, Nat.zero_le _⟩) hP hS hA (fun r_6 H locs hP hS h => ?_)
    refine lv_if_eq (tgt := 62) hx hb dX10_roadOf_44 (by decide) (fun c_7 => ?_) (fun c_7 => ?_)
    · have h := h.1 c_7
      refine lv_iconst (v := 0) hx hb dX10_roadOf_62 (by decide) ?_
      exact w_X10_roadOf_63 cx hA hk6 ih x1 x2 x3 x4 x5 x7 x9 x11 0 x8 H locs ls hP hD hS (lv_sub hl [0, 1, 2, 3, 4, 5, 6, 8, 9] rfl) h
    have h := h.2 c_7
    refine lv_aload_n hx hb dX10_roadOf_47 rfl (lv_at hl 0 rfl) ?_
    refine gf_v (k := 13) (v := .ref (q0 11)) cx' hP 0 i_X10 rfl rfl (by decide) kw_728 rfl rfl dX10_roadOf_48 ?_
    refine lv_bipush (v := 8) hx hb dX10_roadOf_51 (by decide) ?_
    refine lv_iload hx hb dX10_roadOf_53 (lv_at hl 9 rfl) ?_
    refine lv_imul hx hb dX10_roadOf_55 ?_
    refine lv_iload_n hx hb dX10_roadOf_56 rfl (lv_at hl 2 rfl) ?_
    refine lv_iadd hx hb dX10_roadOf_57 ?_
    refine va_iald hx hb hK hP 11 0 rfl rfl h.1 dX10_roadOf_58 ?_
    have h := h.2
    refine lv_goto (tgt := 63) hx hb dX10_roadOf_59 (by decide) ?_
    exact w_X10_roadOf_63 cx hA hk6 ih x1 x2 x3 x4 x5 x7 x9 x11 (m0 11 (Int32.toNatClampNeg ((8 * x11) + x2))) x8 H locs ls hP hD hS (lv_sub hl [0, 1, 2, 3, 4, 5, 6, 8, 9] rfl) h
set_option maxHeartbeats 4000000 in
set_option maxRecDepth 100000 in
theorem w_X10_roadOf_6 {p : Program} {l : Launch} {e : Env} {s : State} {m : MethodId} {args : Array Value} {below : List Frame} {meth : Method} {c : Code} {dC : Nat → ClassId} {dI : Nat → Nat → Nat} {cI cJ : ClassId} {A : Nat → Prop} (cx : CX RX10 cX10_roadOf (some .long) 12 p s m args meth c (dC, dI) (TY cI cJ)) (hA : ∀ q, s.heap.size ≤ q → A q) {q0 : Nat → Nat} {m0 : Mem} {post : Int64 → Prop} : ∀ (n : Nat) (x1 : Int32) (x2 : Int32) (x3 : Int32) (x4 : Int32) (x5 : Int64) (x7 : Int32) (H : Heap) (locs : List Loc) (ls : Array Slot), va_P (dC, dI) vwCl (ww_X10 cI cJ q0 m0) H → va_D A (ww_X10 cI cJ q0 m0) → va_S A s.heap H locs → lv_has ls 12 [(0, .ref (q0 0)), (1, .int x1), (2, .int x2), (3, .int x3), (4, .int x4), (5, .long x5), (7, .int x7)] → b_X10_roadOf_6 m0 post n x1 x2 x3 x4 x5 x7 → W p l e ({ frames := 1, cells := 0, slots := 0, locals := 30 }) s m args below meth c H locs 0 0 (MQ below (va_Ql (S := Unit) (fun (r : Int64) (_u : Unit) => post r) (fun _u t => AT (dC, dI) (TY cI cJ) A (ww_X10 cI cJ q0 m0) t) A) args s 0 0 A) (F0 m 6 ls []) := by
  obtain ⟨hx, hb, hr, hml, hown, hts, hlocks, hK⟩ := id cx
  have cx' : CX RX10 cX10_roadOf (meth.sig.returnType) 12 p s m args meth c (dC, dI) (TY cI cJ) := ⟨hx, hb, rfl, hml, hown, hts, hlocks, hK⟩
  intro n
  induction n with
  | zero =>
    intro x1 x2 x3 x4 x5 x7 H locs ls hP hD hS hl h
    exact False.elim h
  | succ n ih =>
    intro x1 x2 x3 x4 x5 x7 H locs ls hP hD hS hl h
    unfold b_X10_roadOf_6 at h
    refine lv_iload hx hb dX10_roadOf_6 (lv_at hl 6 rfl) ?_
    refine lv_iconst (v := 1) hx hb dX10_roadOf_8 (by decide) ?_
    refine lv_aload_n hx hb dX10_roadOf_9 rfl (lv_at hl 0 rfl) ?_
    refine gf_v (k := 9) (v := .int (m0 0 9)) cx' hP 0 i_X10 rfl rfl (by decide) kw_724 rfl rfl dX10_roadOf_10 ?_
    refine lv_ishl hx hb dX10_roadOf_13 ?_
    refine lv_icmp_ge (tgt := 120) hx hb dX10_roadOf_14 (by decide) (fun c_1 => ?_) (fun c_1 => ?_)
    · have h := h.1 c_1
      refine lv_lload hx hb dX10_roadOf_120 (lv_at hl 5 rfl) ?_
      refine lv_lconst (v := 1) hx hb dX10_roadOf_122 (by decide) ?_
      refine lv_iconst (v := 4) hx hb dX10_roadOf_123 (by decide) ?_
      refine lv_aload_n hx hb dX10_roadOf_124 rfl (lv_at hl 0 rfl) ?_
      refine gf_v (k := 9) (v := .int (m0 0 9)) cx' hP 0 i_X10 rfl rfl (by decide) kw_724 rfl rfl dX10_roadOf_125 ?_
      refine lv_imul hx hb dX10_roadOf_128 ?_
      refine lv_lshl (v := 1 <<< (Int32.toInt64 (4 * (m0 0 9)) &&& 63)) hx hb dX10_roadOf_129 rfl ?_
      refine lv_iload hx hb dX10_roadOf_130 (lv_at hl 4 rfl) ?_
      refine callN_l (run_S (As := [.long x5, .long (1 <<< (Int32.toInt64 (4 * (m0 0 9)) &&& 63)), .int x4]) (rest := []) (wc := []) cx' (c_X10_part l H.size x5 (1 <<< (Int32.toInt64 (4 * (m0 0 9)) &&& 63)) x4 _ h) ms_X10_part kw_1069 rfl rfl ⟨Nat.le_of_ble_eq_true rfl, Nat.le_of_ble_eq_true rfl⟩ nilP nilD (A := A) rfl hl.1 rfl (Nat.le_of_ble_eq_true rfl) dX10_roadOf_132 ⟨Nat.zero_le _, Nat.zero_le _⟩) hP hS hA (fun r_2 H locs hP hS h => ?_)
      exact rt_l (v := r_2) (u := ()) cx hP hD hS h dX10_roadOf_135
    have h := h.2 c_1
    refine lv_iconst (v := 0) hx hb dX10_roadOf_17 (by decide) ?_
    refine lv_istore (lv' := [(8, .int 0), (0, .ref (q0 0)), (1, .int x1), (2, .int x2), (3, .int x3), (4, .int x4), (5, .long x5), (7, .int x7)]) hx hb dX10_roadOf_18 hl (by decide) rfl (fun ls hl => ?_)
    refine lv_lconst (v := 1) hx hb dX10_roadOf_20 (by decide) ?_
    refine lv_lstore (lv' := [(9, .long 1), (8, .int 0), (0, .ref (q0 0)), (1, .int x1), (2, .int x2), (3, .int x3), (4, .int x4), (5, .long x5), (7, .int x7)]) hx hb dX10_roadOf_21 hl (by decide) rfl (fun ls hl => ?_)
    refine lv_iconst (v := 0) hx hb dX10_roadOf_23 (by decide) ?_
    refine lv_istore (lv' := [(11, .int 0), (9, .long 1), (8, .int 0), (0, .ref (q0 0)), (1, .int x1), (2, .int x2), (3, .int x3), (4, .int x4), (5, .long x5), (7, .int x7)]) hx hb dX10_roadOf_24 hl (by decide) rfl (fun ls hl => ?_)
    obtain ⟨n_3, h⟩ := h
    exact w_X10_roadOf_26 cx hA ih n_3 x1 x2 x3 x4 x5 x7 0 1 0 H locs ls hP hD hS (lv_sub hl [3, 4, 5, 6, 7, 8, 9, 2, 1, 0] rfl) h
set_option maxHeartbeats 4000000 in
set_option maxRecDepth 100000 in
theorem w_X10_roadOf_0 {p : Program} {l : Launch} {e : Env} {s : State} {m : MethodId} {args : Array Value} {below : List Frame} {meth : Method} {c : Code} {dC : Nat → ClassId} {dI : Nat → Nat → Nat} {cI cJ : ClassId} {A : Nat → Prop} (cx : CX RX10 cX10_roadOf (some .long) 12 p s m args meth c (dC, dI) (TY cI cJ)) (hA : ∀ q, s.heap.size ≤ q → A q) {q0 : Nat → Nat} {m0 : Mem} {post : Int64 → Prop} : ∀ (x1 : Int32) (x2 : Int32) (x3 : Int32) (x4 : Int32) (H : Heap) (locs : List Loc) (ls : Array Slot), va_P (dC, dI) vwCl (ww_X10 cI cJ q0 m0) H → va_D A (ww_X10 cI cJ q0 m0) → va_S A s.heap H locs → lv_has ls 12 [(0, .ref (q0 0)), (1, .int x1), (2, .int x2), (3, .int x3), (4, .int x4)] → b_X10_roadOf_0 m0 post x1 x2 x3 x4 → W p l e ({ frames := 1, cells := 0, slots := 0, locals := 30 }) s m args below meth c H locs 0 0 (MQ below (va_Ql (S := Unit) (fun (r : Int64) (_u : Unit) => post r) (fun _u t => AT (dC, dI) (TY cI cJ) A (ww_X10 cI cJ q0 m0) t) A) args s 0 0 A) (F0 m 0 ls []) := by
  obtain ⟨hx, hb, hr, hml, hown, hts, hlocks, hK⟩ := id cx
  have cx' : CX RX10 cX10_roadOf (meth.sig.returnType) 12 p s m args meth c (dC, dI) (TY cI cJ) := ⟨hx, hb, rfl, hml, hown, hts, hlocks, hK⟩
  intro x1 x2 x3 x4 H locs ls hP hD hS hl h
  unfold b_X10_roadOf_0 at h
  refine lv_lconst (v := 0) hx hb dX10_roadOf_0 (by decide) ?_
  refine lv_lstore (lv' := [(5, .long 0), (0, .ref (q0 0)), (1, .int x1), (2, .int x2), (3, .int x3), (4, .int x4)]) hx hb dX10_roadOf_1 hl (by decide) rfl (fun ls hl => ?_)
  refine lv_iconst (v := 0) hx hb dX10_roadOf_3 (by decide) ?_
  refine lv_istore (lv' := [(7, .int 0), (5, .long 0), (0, .ref (q0 0)), (1, .int x1), (2, .int x2), (3, .int x3), (4, .int x4)]) hx hb dX10_roadOf_4 hl (by decide) rfl (fun ls hl => ?_)
  obtain ⟨n_1, h⟩ := h
  exact w_X10_roadOf_6 cx hA n_1 x1 x2 x3 x4 0 0 H locs ls hP hD hS (lv_sub hl [2, 3, 4, 5, 6, 1, 0] rfl) h
set_option maxRecDepth 100000 in
theorem c_X10_roadOf (l : Launch) {dC : Nat → ClassId} {dI : Nat → Nat → Nat} {cI cJ : ClassId} (sz : Nat) (q0 : Nat → Nat) (m0 : Mem) (x1 : Int32) (x2 : Int32) (x3 : Int32) (x4 : Int32) (post : Int64 → Prop) (h : wp_X10_roadOf m0 x1 x2 x3 x4 post) : Met l yX10_roadOf (Cond.code yX10_roadOf cX10_roadOf 12 (some .long) :: gt) ({ frames := 1, cells := 0, slots := 0, locals := 30 }) (va_Pc [.ref (q0 0), .int x1, .int x2, .int x3, .int x4] (PRE (dC, dI) (TY cI cJ) (ww_X10 cI cJ q0 m0) sz)) (va_Ql (S := Unit) (fun (r : Int64) (_u : Unit) => post r) (fun _u t => AT (dC, dI) (TY cI cJ) (va_A (ww_X10 cI cJ q0 m0) sz) (ww_X10 cI cJ q0 m0) t) (va_A (ww_X10 cI cJ q0 m0) sz)) 0 0 (va_A (ww_X10 cI cJ q0 m0) sz) :=
  met_of (own := RX10) (Qf := fun A => va_Ql (S := Unit) (fun (r : Int64) (_u : Unit) => post r) (fun _u t => AT (dC, dI) (TY cI cJ) A (ww_X10 cI cJ q0 m0) t) A) (by decide) rfl (Nat.le_of_ble_eq_true rfl) rfl (fun p e s m below meth c A cx hA ls hP hD hS hl => w_X10_roadOf_0 cx hA x1 x2 x3 x4 _ _ ls hP hD hS hl h)
theorem mv_X10_roadOf : MV yX10_roadOf cX10_roadOf 12 (some .long) 4 := ⟨⟨kw_1068, kw_11, by decide +kernel⟩, kw_1067, ksel_49⟩
set_option maxHeartbeats 4000000 in
set_option maxRecDepth 100000 in
theorem w_X10_road_56 {p : Program} {l : Launch} {e : Env} {s : State} {m : MethodId} {args : Array Value} {below : List Frame} {meth : Method} {c : Code} {dC : Nat → ClassId} {dI : Nat → Nat → Nat} {cI cJ : ClassId} {A : Nat → Prop} (cx : CX RX10 cX10_road (some .long) 5 p s m args meth c (dC, dI) (TY cI cJ)) (hA : ∀ q, s.heap.size ≤ q → A q) {q0 : Nat → Nat} {post : Int64 → Mem → Prop} : ∀ (m0 : Mem) (H : Heap) (locs : List Loc) (ls : Array Slot), va_P (dC, dI) vwCl (ww_X10 cI cJ q0 m0) H → va_D A (ww_X10 cI cJ q0 m0) → va_S A s.heap H locs → lv_has ls 5 [] → b_X10_road_56 post m0 → W p l e ({ frames := 6, cells := 0, slots := 0, locals := 132 }) s m args below meth c H locs 0 0 (MQ below (va_Ql (S := Mem) (fun (r : Int64) (u : Mem) => post r u) (fun u t => AT (dC, dI) (TY cI cJ) A (ww_X10 cI cJ q0 u) t) A) args s 0 0 A) (F0 m 56 ls []) := by
  obtain ⟨hx, hb, hr, hml, hown, hts, hlocks, hK⟩ := id cx
  have cx' : CX RX10 cX10_road (meth.sig.returnType) 5 p s m args meth c (dC, dI) (TY cI cJ) := ⟨hx, hb, rfl, hml, hown, hts, hlocks, hK⟩
  intro m0 H locs ls hP hD hS hl h
  unfold b_X10_road_56 at h
  refine lv_bipush (v := (-2)) hx hb dX10_road_56 (by decide) ?_
  refine callN_l (run_S (As := [.int (-2)]) (rest := []) (wc := []) cx' (c_X10_no l H.size (-2) _ h) ms_X10_no kw_1072 rfl rfl ⟨Nat.le_of_ble_eq_true rfl, Nat.le_of_ble_eq_true rfl⟩ nilP nilD (A := A) rfl hl.1 rfl (Nat.le_of_ble_eq_true rfl) dX10_road_58 ⟨Nat.zero_le _, Nat.zero_le _⟩) hP hS hA (fun r_1 H locs hP hS h => ?_)
  exact rt_l (v := r_1) (u := m0) cx hP hD hS h dX10_road_61
set_option maxHeartbeats 4000000 in
set_option maxRecDepth 100000 in
theorem w_X10_road_0 {p : Program} {l : Launch} {e : Env} {s : State} {m : MethodId} {args : Array Value} {below : List Frame} {meth : Method} {c : Code} {dC : Nat → ClassId} {dI : Nat → Nat → Nat} {cI cJ : ClassId} {A : Nat → Prop} (cx : CX RX10 cX10_road (some .long) 5 p s m args meth c (dC, dI) (TY cI cJ)) (hA : ∀ q, s.heap.size ≤ q → A q) {q0 : Nat → Nat} {post : Int64 → Mem → Prop} : ∀ (x1 : Int32) (x2 : Int32) (x3 : Int32) (x4 : Int32) (m0 : Mem) (H : Heap) (locs : List Loc) (ls : Array Slot), va_P (dC, dI) vwCl (ww_X10 cI cJ q0 m0) H → va_D A (ww_X10 cI cJ q0 m0) → va_S A s.heap H locs → lv_has ls 5 [(0, .ref (q0 0)), (1, .int x1), (2, .int x2), (3, .int x3), (4, .int x4)] → b_X10_road_0 post x1 x2 x3 x4 m0 → W p l e ({ frames := 6, cells := 0, slots := 0, locals := 132 }) s m args below meth c H locs 0 0 (MQ below (va_Ql (S := Mem) (fun (r : Int64) (u : Mem) => post r u) (fun u t => AT (dC, dI) (TY cI cJ) A (ww_X10 cI cJ q0 u) t) A) args s 0 0 A) (F0 m 0 ls []) := by
  obtain ⟨hx, hb, hr, hml, hown, hts, hlocks, hK⟩ := id cx
  have cx' : CX RX10 cX10_road (meth.sig.returnType) 5 p s m args meth c (dC, dI) (TY cI cJ) := ⟨hx, hb, rfl, hml, hown, hts, hlocks, hK⟩
  intro x1 x2 x3 x4 m0 H locs ls hP hD hS hl h
  unfold b_X10_road_0 at h
  refine lv_aload_n hx hb dX10_road_0 rfl (lv_at hl 0 rfl) ?_
  refine call_v (run_V (As := []) (rest := []) cx' (c_X10_find l H.size q0 m0 _ h) mv_X10_find kw_906 rfl rfl ⟨Nat.le_of_ble_eq_true rfl, Nat.le_of_ble_eq_true rfl⟩ hP hD rfl rfl rfl hl.1 rfl (Nat.le_of_ble_eq_true rfl) dX10_road_1 ⟨Nat.zero_le _, Nat.zero_le _⟩) hD hS hA (fun u9 H locs hP hD hS h => ?_)
  obtain ⟨m0_1, rfl⟩ : ∃ z, z = u9 := ⟨_, rfl⟩
  have hP : va_P (dC, dI) vwCl (ww_X10 cI cJ q0 m0_1) H := hP
  have hD : va_D A (ww_X10 cI cJ q0 m0_1) := hD
  refine lv_iload_n hx hb dX10_road_4 rfl (lv_at hl 1 rfl) ?_
  refine lv_i2l (v := Int32.toInt64 x1) hx hb dX10_road_5 rfl ?_
  refine lv_lconst (v := 0) hx hb dX10_road_6 (by decide) ?_
  refine lv_ldc2 hx hb hown (hts _ kw_1064) dX10_road_7 ?_
  refine callN_i (run_S (As := [.long (Int32.toInt64 x1), .long 0, .long 16]) (rest := []) (wc := []) cx' (c_X10_in l H.size (Int32.toInt64 x1) 0 16 _ h) ms_X10_in kw_796 rfl rfl ⟨Nat.le_of_ble_eq_true rfl, Nat.le_of_ble_eq_true rfl⟩ nilP nilD (A := A) rfl hl.1 rfl (Nat.le_of_ble_eq_true rfl) dX10_road_10 ⟨Nat.zero_le _, Nat.zero_le _⟩) hP hS hA (fun r_2 H locs hP hS h => ?_)
  refine lv_if_eq (tgt := 56) hx hb dX10_road_13 (by decide) (fun c_3 => ?_) (fun c_3 => ?_)
  · have h := h.1 c_3
    exact w_X10_road_56 cx hA m0_1 H locs ls hP hD hS (lv_sub hl [] rfl) h
  have h := h.2 c_3
  refine lv_aload_n hx hb dX10_road_16 rfl (lv_at hl 0 rfl) ?_
  refine lv_iload_n hx hb dX10_road_17 rfl (lv_at hl 2 rfl) ?_
  refine call_i (run_V (As := [.int x2]) (rest := []) cx' (c_X10_isHouse l H.size q0 m0_1 x2 _ h) mv_X10_isHouse kw_873 rfl rfl ⟨Nat.le_of_ble_eq_true rfl, Nat.le_of_ble_eq_true rfl⟩ hP hD rfl rfl rfl hl.1 rfl (Nat.le_of_ble_eq_true rfl) dX10_road_18 ⟨Nat.zero_le _, Nat.zero_le _⟩) hD hS hA (fun r_4 u9 H locs hP hD hS h => ?_)
  have hP : va_P (dC, dI) vwCl (ww_X10 cI cJ q0 m0_1) H := hP
  have hD : va_D A (ww_X10 cI cJ q0 m0_1) := hD
  refine lv_if_eq (tgt := 56) hx hb dX10_road_21 (by decide) (fun c_5 => ?_) (fun c_5 => ?_)
  · have h := h.1 c_5
    exact w_X10_road_56 cx hA m0_1 H locs ls hP hD hS (lv_sub hl [] rfl) h
  have h := h.2 c_5
  refine lv_iload_n hx hb dX10_road_24 rfl (lv_at hl 3 rfl) ?_
  refine lv_i2l (v := Int32.toInt64 x3) hx hb dX10_road_25 rfl ?_
  refine lv_lconst (v := 0) hx hb dX10_road_26 (by decide) ?_
  refine lv_ldc2 hx hb hown (hts _ kw_1014) dX10_road_27 ?_
  refine callN_i (run_S (As := [.long (Int32.toInt64 x3), .long 0, .long 999]) (rest := []) (wc := []) cx' (c_X10_in l H.size (Int32.toInt64 x3) 0 999 _ h) ms_X10_in kw_796 rfl rfl ⟨Nat.le_of_ble_eq_true rfl, Nat.le_of_ble_eq_true rfl⟩ nilP nilD (A := A) rfl hl.1 rfl (Nat.le_of_ble_eq_true rfl) dX10_road_30 ⟨Nat.zero_le _, Nat.zero_le _⟩) hP hS hA (fun r_6 H locs hP hS h => ?_)
  refine lv_if_eq (tgt := 56) hx hb dX10_road_33 (by decide) (fun c_7 => ?_) (fun c_7 => ?_)
  · have h := h.1 c_7
    exact w_X10_road_56 cx hA m0_1 H locs ls hP hD hS (lv_sub hl [] rfl) h
  have h := h.2 c_7
  refine lv_iload hx hb dX10_road_36 (lv_at hl 4 rfl) ?_
  refine callN_i (run_S (As := [.int x4]) (rest := []) (wc := []) cx' (c_X10_isTwo l H.size x4 _ h) ms_X10_isTwo kw_832 rfl rfl ⟨Nat.le_of_ble_eq_true rfl, Nat.le_of_ble_eq_true rfl⟩ nilP nilD (A := A) rfl hl.1 rfl (Nat.le_of_ble_eq_true rfl) dX10_road_38 ⟨Nat.zero_le _, Nat.zero_le _⟩) hP hS hA (fun r_8 H locs hP hS h => ?_)
  refine lv_if_eq (tgt := 56) hx hb dX10_road_41 (by decide) (fun c_9 => ?_) (fun c_9 => ?_)
  · have h := h.1 c_9
    exact w_X10_road_56 cx hA m0_1 H locs ls hP hD hS (lv_sub hl [] rfl) h
  have h := h.2 c_9
  refine lv_aload_n hx hb dX10_road_44 rfl (lv_at hl 0 rfl) ?_
  refine lv_iload_n hx hb dX10_road_45 rfl (lv_at hl 1 rfl) ?_
  refine lv_iload_n hx hb dX10_road_46 rfl (lv_at hl 2 rfl) ?_
  refine lv_iload_n hx hb dX10_road_47 rfl (lv_at hl 3 rfl) ?_
  refine lv_iload hx hb dX10_road_48 (lv_at hl 4 rfl) ?_
  refine call_l (run_V (As := [.int x1, .int x2, .int x3, .int x4]) (rest := []) cx' (c_X10_roadOf l H.size q0 m0_1 x1 x2 x3 x4 _ h) mv_X10_roadOf kw_1065 rfl rfl ⟨Nat.le_of_ble_eq_true rfl, Nat.le_of_ble_eq_true rfl⟩ hP hD rfl rfl rfl hl.1 rfl (Nat.le_of_ble_eq_true rfl) dX10_road_50 ⟨Nat.zero_le _, Nat.zero_le _⟩) hD hS hA (fun r_10 u9 H locs hP hD hS h => ?_)
  have hP : va_P (dC, dI) vwCl (ww_X10 cI cJ q0 m0_1) H := hP
  have hD : va_D A (ww_X10 cI cJ q0 m0_1) := hD
  refine lv_goto (tgt := 61) hx hb dX10_road_53 (by decide) ?_
  exact rt_l (v := r_10) (u := m0_1) cx hP hD hS h dX10_road_61
set_option maxRecDepth 100000 in
theorem c_X10_road (l : Launch) {dC : Nat → ClassId} {dI : Nat → Nat → Nat} {cI cJ : ClassId} (sz : Nat) (q0 : Nat → Nat) (m0 : Mem) (x1 : Int32) (x2 : Int32) (x3 : Int32) (x4 : Int32) (post : Int64 → Mem → Prop) (h : wp_X10_road m0 x1 x2 x3 x4 post) : Met l yX10_road (Cond.code yX10_road cX10_road 5 (some .long) :: gt) ({ frames := 6, cells := 0, slots := 0, locals := 132 }) (va_Pc [.ref (q0 0), .int x1, .int x2, .int x3, .int x4] (PRE (dC, dI) (TY cI cJ) (ww_X10 cI cJ q0 m0) sz)) (va_Ql (S := Mem) (fun (r : Int64) (u : Mem) => post r u) (fun u t => AT (dC, dI) (TY cI cJ) (va_A (ww_X10 cI cJ q0 m0) sz) (ww_X10 cI cJ q0 u) t) (va_A (ww_X10 cI cJ q0 m0) sz)) 0 0 (va_A (ww_X10 cI cJ q0 m0) sz) :=
  met_of (own := RX10) (Qf := fun A => va_Ql (S := Mem) (fun (r : Int64) (u : Mem) => post r u) (fun u t => AT (dC, dI) (TY cI cJ) A (ww_X10 cI cJ q0 u) t) A) (by decide) rfl (Nat.le_of_ble_eq_true rfl) rfl (fun p e s m below meth c A cx hA ls hP hD hS hl => w_X10_road_0 cx hA x1 x2 x3 x4 m0 _ _ ls hP hD hS hl h)
theorem mv_X10_road : MV yX10_road cX10_road 5 (some .long) 4 := ⟨⟨kw_1063, kw_11, by decide +kernel⟩, kw_1061, kw_1062⟩
set_option maxHeartbeats 4000000 in
set_option maxRecDepth 100000 in
theorem w_X10_lot_0 {p : Program} {l : Launch} {e : Env} {s : State} {m : MethodId} {args : Array Value} {below : List Frame} {meth : Method} {c : Code} {dC : Nat → ClassId} {dI : Nat → Nat → Nat} {cI cJ : ClassId} {A : Nat → Prop} (cx : CX RX10 cX10_lot (some .int) 2 p s m args meth c (dC, dI) (TY cI cJ)) (hA : ∀ q, s.heap.size ≤ q → A q) {q0 : Nat → Nat} {post : Int32 → Mem → Prop} : ∀ (x1 : Int32) (m0 : Mem) (H : Heap) (locs : List Loc) (ls : Array Slot), va_P (dC, dI) vwCl (ww_X10 cI cJ q0 m0) H → va_D A (ww_X10 cI cJ q0 m0) → va_S A s.heap H locs → lv_has ls 2 [(0, .ref (q0 0)), (1, .int x1)] → b_X10_lot_0 post x1 m0 → W p l e ({ frames := 0, cells := 0, slots := 0, locals := 0 }) s m args below meth c H locs 0 0 (MQ below (va_Qi (S := Mem) (fun (r : Int32) (u : Mem) => post r u) (fun u t => AT (dC, dI) (TY cI cJ) A (ww_X10 cI cJ q0 u) t) A) args s 0 0 A) (F0 m 0 ls []) := by
  obtain ⟨hx, hb, hr, hml, hown, hts, hlocks, hK⟩ := id cx
  have cx' : CX RX10 cX10_lot (meth.sig.returnType) 2 p s m args meth c (dC, dI) (TY cI cJ) := ⟨hx, hb, rfl, hml, hown, hts, hlocks, hK⟩
  intro x1 m0 H locs ls hP hD hS hl h
  unfold b_X10_lot_0 at h
  refine lv_aload_n hx hb dX10_lot_0 rfl (lv_at hl 0 rfl) ?_
  refine lv_ldc hx hb hown (hts _ kw_1089) dX10_lot_1 ?_
  refine lv_aload_n hx hb dX10_lot_3 rfl (lv_at hl 0 rfl) ?_
  refine gf_v (k := 23) (v := .int (m0 0 23)) cx' hP 0 i_X10 rfl rfl (by decide) kw_738 rfl rfl dX10_lot_4 ?_
  refine lv_imul hx hb dX10_lot_7 ?_
  refine lv_sipush (v := 12345) hx hb dX10_lot_8 (by decide) ?_
  refine lv_iadd hx hb dX10_lot_11 ?_
  obtain ⟨m0_1, em0_1⟩ : ∃ z : Mem, z = up2 m0 0 23 ((1103515245 * (m0 0 23)) + 12345) := ⟨_, rfl⟩
  have h := h m0_1 em0_1
  refine pf_v (k := 23) (tf := .int) cx' hP hD hS 0 (ww_X10 cI cJ q0 m0_1) i_X10 tyX10 tyX10_ok nmX10 rfl rfl (by decide) kw_738 rfl rfl rfl rfl rfl (Nat.le_of_ble_eq_true rfl) dX10_lot_12 (by subst em0_1; rfl) (fun H locs hP hD hS => ?_)
  refine lv_aload_n hx hb dX10_lot_15 rfl (lv_at hl 0 rfl) ?_
  refine gf_v (k := 23) (v := .int (m0_1 0 23)) cx' hP 0 i_X10 rfl rfl (by decide) kw_738 rfl rfl dX10_lot_16 ?_
  refine lv_bipush (v := 16) hx hb dX10_lot_19 (by decide) ?_
  refine lv_iushr (v := ushr (m0_1 0 23) 16) hx hb dX10_lot_21 rfl ?_
  refine lv_iload_n hx hb dX10_lot_22 rfl (lv_at hl 1 rfl) ?_
  refine lv_irem hx hb dX10_lot_23 h.1 ?_
  have h := h.2
  exact rt_i (v := (ushr (m0_1 0 23) 16) - (ushr (m0_1 0 23) 16) / x1 * x1) (u := m0_1) cx hP hD hS h dX10_lot_24
set_option maxRecDepth 100000 in
theorem c_X10_lot (l : Launch) {dC : Nat → ClassId} {dI : Nat → Nat → Nat} {cI cJ : ClassId} (sz : Nat) (q0 : Nat → Nat) (m0 : Mem) (x1 : Int32) (post : Int32 → Mem → Prop) (h : wp_X10_lot m0 x1 post) : Met l yX10_lot (Cond.code yX10_lot cX10_lot 2 (some .int) :: gt) ({ frames := 0, cells := 0, slots := 0, locals := 0 }) (va_Pc [.ref (q0 0), .int x1] (PRE (dC, dI) (TY cI cJ) (ww_X10 cI cJ q0 m0) sz)) (va_Qi (S := Mem) (fun (r : Int32) (u : Mem) => post r u) (fun u t => AT (dC, dI) (TY cI cJ) (va_A (ww_X10 cI cJ q0 m0) sz) (ww_X10 cI cJ q0 u) t) (va_A (ww_X10 cI cJ q0 m0) sz)) 0 0 (va_A (ww_X10 cI cJ q0 m0) sz) :=
  met_of (own := RX10) (Qf := fun A => va_Qi (S := Mem) (fun (r : Int32) (u : Mem) => post r u) (fun u t => AT (dC, dI) (TY cI cJ) A (ww_X10 cI cJ q0 u) t) A) (by decide) rfl (Nat.le_of_ble_eq_true rfl) rfl (fun p e s m below meth c A cx hA ls hP hD hS hl => w_X10_lot_0 cx hA x1 m0 _ _ ls hP hD hS hl h)
theorem mv_X10_lot : MV yX10_lot cX10_lot 2 (some .int) 1 := ⟨⟨kw_1088, kw_11, by decide +kernel⟩, kw_1087, ksel_51⟩
set_option maxHeartbeats 4000000 in
set_option maxRecDepth 100000 in
theorem w_X10_seasonOf_72 {p : Program} {l : Launch} {e : Env} {s : State} {m : MethodId} {args : Array Value} {below : List Frame} {meth : Method} {c : Code} {dC : Nat → ClassId} {dI : Nat → Nat → Nat} {cI cJ : ClassId} {A : Nat → Prop} (cx : CX RX10 cX10_seasonOf (some .int) 8 p s m args meth c (dC, dI) (TY cI cJ)) (hA : ∀ q, s.heap.size ≤ q → A q) {q0 : Nat → Nat} {post : Int32 → Mem → Prop} {k11 : Int32 → Int32 → Int32 → Int32 → Int32 → Mem → Prop} (hk11 : ∀ (x2 : Int32) (x3 : Int32) (x4 : Int32) (x5 : Int32) (x6 : Int32) (m0 : Mem) (H : Heap) (locs : List Loc) (ls : Array Slot), va_P (dC, dI) vwCl (ww_X10 cI cJ q0 m0) H → va_D A (ww_X10 cI cJ q0 m0) → va_S A s.heap H locs → lv_has ls 8 [(0, .ref (q0 0)), (2, .int x2), (3, .int x3), (4, .int x4), (5, .int x5), (6, .int x6)] → k11 x2 x3 x4 x5 x6 m0 → W p l e ({ frames := 1, cells := 0, slots := 0, locals := 21 }) s m args below meth c H locs 0 0 (MQ below (va_Qi (S := Mem) (fun (r : Int32) (u : Mem) => post r u) (fun u t => AT (dC, dI) (TY cI cJ) A (ww_X10 cI cJ q0 u) t) A) args s 0 0 A) (F0 m 11 ls [])) : ∀ (x2 : Int32) (x3 : Int32) (x4 : Int32) (x6 : Int32) (z0 : Int32) (z1 : Int32) (m0 : Mem) (H : Heap) (locs : List Loc) (ls : Array Slot), va_P (dC, dI) vwCl (ww_X10 cI cJ q0 m0) H → va_D A (ww_X10 cI cJ q0 m0) → va_S A s.heap H locs → lv_has ls 8 [(0, .ref (q0 0)), (2, .int x2), (3, .int x3), (4, .int x4), (6, .int x6)] → b_X10_seasonOf_72 post k11 x2 x3 x4 x6 z0 z1 m0 → W p l e ({ frames := 1, cells := 0, slots := 0, locals := 21 }) s m args below meth c H locs 0 0 (MQ below (va_Qi (S := Mem) (fun (r : Int32) (u : Mem) => post r u) (fun u t => AT (dC, dI) (TY cI cJ) A (ww_X10 cI cJ q0 u) t) A) args s 0 0 A) (F0 m 72 ls [.int z0, .int z1]) := by
  obtain ⟨hx, hb, hr, hml, hown, hts, hlocks, hK⟩ := id cx
  have cx' : CX RX10 cX10_seasonOf (meth.sig.returnType) 8 p s m args meth c (dC, dI) (TY cI cJ) := ⟨hx, hb, rfl, hml, hown, hts, hlocks, hK⟩
  intro x2 x3 x4 x6 z0 z1 m0 H locs ls hP hD hS hl h
  unfold b_X10_seasonOf_72 at h
  refine lv_iadd hx hb dX10_seasonOf_72 ?_
  refine lv_topi (fun x5_1 ex5_1 => ?_)
  have h := h x5_1 ex5_1
  refine lv_istore (lv' := [(5, .int x5_1), (0, .ref (q0 0)), (2, .int x2), (3, .int x3), (4, .int x4), (6, .int x6)]) hx hb dX10_seasonOf_73 hl (by decide) rfl (fun ls hl => ?_)
  obtain ⟨x6_2, ex6_2⟩ : ∃ z : Int32, z = x6 + 1 := ⟨_, rfl⟩
  have h := h x6_2 ex6_2
  refine lv_iinc (v := x6_2) (lv' := [(6, .int x6_2), (5, .int x5_1), (0, .ref (q0 0)), (2, .int x2), (3, .int x3), (4, .int x4)]) hx hb dX10_seasonOf_75 hl (k := 5) rfl (by rw [ex6_2]; rfl) (by decide) rfl (fun ls hl => ?_)
  refine lv_goto (tgt := 11) hx hb dX10_seasonOf_78 (by decide) ?_
  exact hk11 x2 x3 x4 x5_1 x6_2 m0 H locs ls hP hD hS (lv_sub hl [2, 3, 4, 5, 1, 0] rfl) h
set_option maxHeartbeats 4000000 in
set_option maxRecDepth 100000 in
theorem w_X10_seasonOf_11 {p : Program} {l : Launch} {e : Env} {s : State} {m : MethodId} {args : Array Value} {below : List Frame} {meth : Method} {c : Code} {dC : Nat → ClassId} {dI : Nat → Nat → Nat} {cI cJ : ClassId} {A : Nat → Prop} (cx : CX RX10 cX10_seasonOf (some .int) 8 p s m args meth c (dC, dI) (TY cI cJ)) (hA : ∀ q, s.heap.size ≤ q → A q) {q0 : Nat → Nat} {post : Int32 → Mem → Prop} : ∀ (n : Nat) (x2 : Int32) (x3 : Int32) (x4 : Int32) (x5 : Int32) (x6 : Int32) (m0 : Mem) (H : Heap) (locs : List Loc) (ls : Array Slot), va_P (dC, dI) vwCl (ww_X10 cI cJ q0 m0) H → va_D A (ww_X10 cI cJ q0 m0) → va_S A s.heap H locs → lv_has ls 8 [(0, .ref (q0 0)), (2, .int x2), (3, .int x3), (4, .int x4), (5, .int x5), (6, .int x6)] → b_X10_seasonOf_11 post n x2 x3 x4 x5 x6 m0 → W p l e ({ frames := 1, cells := 0, slots := 0, locals := 21 }) s m args below meth c H locs 0 0 (MQ below (va_Qi (S := Mem) (fun (r : Int32) (u : Mem) => post r u) (fun u t => AT (dC, dI) (TY cI cJ) A (ww_X10 cI cJ q0 u) t) A) args s 0 0 A) (F0 m 11 ls []) := by
  obtain ⟨hx, hb, hr, hml, hown, hts, hlocks, hK⟩ := id cx
  have cx' : CX RX10 cX10_seasonOf (meth.sig.returnType) 8 p s m args meth c (dC, dI) (TY cI cJ) := ⟨hx, hb, rfl, hml, hown, hts, hlocks, hK⟩
  intro n
  induction n with
  | zero =>
    intro x2 x3 x4 x5 x6 m0 H locs ls hP hD hS hl h
    exact False.elim h
  | succ n ih =>
    intro x2 x3 x4 x5 x6 m0 H locs ls hP hD hS hl h
    unfold b_X10_seasonOf_11 at h
    refine lv_iload hx hb dX10_seasonOf_11 (lv_at hl 5 rfl) ?_
    refine lv_iload_n hx hb dX10_seasonOf_13 rfl (lv_at hl 1 rfl) ?_
    refine lv_icmp_ge (tgt := 81) hx hb dX10_seasonOf_14 (by decide) (fun c_1 => ?_) (fun c_1 => ?_)
    · have h := h.1 c_1
      refine lv_iload hx hb dX10_seasonOf_81 (lv_at hl 4 rfl) ?_
      exact rt_i (v := x5) (u := m0) cx hP hD hS h dX10_seasonOf_83
    have h := h.2 c_1
    refine lv_aload_n hx hb dX10_seasonOf_17 rfl (lv_at hl 0 rfl) ?_
    refine gf_v (k := 9) (v := .int (m0 0 9)) cx' hP 0 i_X10 rfl rfl (by decide) kw_724 rfl rfl dX10_seasonOf_18 ?_
    refine lv_if_le (tgt := 81) hx hb dX10_seasonOf_21 (by decide) (fun c_2 => ?_) (fun c_2 => ?_)
    · have h := h.1 c_2
      refine lv_iload hx hb dX10_seasonOf_81 (lv_at hl 4 rfl) ?_
      exact rt_i (v := x5) (u := m0) cx hP hD hS h dX10_seasonOf_83
    have h := h.2 c_2
    refine lv_aload_n hx hb dX10_seasonOf_24 rfl (lv_at hl 0 rfl) ?_
    refine lv_aload_n hx hb dX10_seasonOf_25 rfl (lv_at hl 0 rfl) ?_
    refine gf_v (k := 9) (v := .int (m0 0 9)) cx' hP 0 i_X10 rfl rfl (by decide) kw_724 rfl rfl dX10_seasonOf_26 ?_
    refine call_i (run_V (As := [.int (m0 0 9)]) (rest := []) cx' (c_X10_lot l H.size q0 m0 (m0 0 9) _ h) mv_X10_lot kw_1085 rfl rfl ⟨Nat.le_of_ble_eq_true rfl, Nat.le_of_ble_eq_true rfl⟩ hP hD rfl rfl rfl hl.1 rfl (Nat.le_of_ble_eq_true rfl) dX10_seasonOf_29 ⟨Nat.zero_le _, Nat.zero_le _⟩) hD hS hA (fun r_3 u9 H locs hP hD hS h => ?_)
    obtain ⟨m0_4, rfl⟩ : ∃ z, z = u9 := ⟨_, rfl⟩
    have hP : va_P (dC, dI) vwCl (ww_X10 cI cJ q0 m0_4) H := hP
    have hD : va_D A (ww_X10 cI cJ q0 m0_4) := hD
    refine lv_istore (lv' := [(7, .int r_3), (0, .ref (q0 0)), (2, .int x2), (3, .int x3), (4, .int x4), (5, .int x5), (6, .int x6)]) hx hb dX10_seasonOf_32 hl (by decide) rfl (fun ls hl => ?_)
    refine lv_iload hx hb dX10_seasonOf_34 (lv_at hl 5 rfl) ?_
    refine lv_iload hx hb dX10_seasonOf_36 (lv_at hl 4 rfl) ?_
    refine lv_if_ne (tgt := 56) hx hb dX10_seasonOf_38 (by decide) (fun c_5 => ?_) (fun c_5 => ?_)
    · have h := h.1 c_5
      refine lv_aload_n hx hb dX10_seasonOf_56 rfl (lv_at hl 1 rfl) ?_
      refine gf_v (k := 14) (v := .ref (q0 12)) cx' hP 0 i_X10 rfl rfl (by decide) kw_729 rfl rfl dX10_seasonOf_57 ?_
      refine lv_iload hx hb dX10_seasonOf_60 (lv_at hl 0 rfl) ?_
      refine va_iald hx hb hK hP 12 0 rfl rfl h.1 dX10_seasonOf_62 ?_
      have h := h.2
      refine lv_iload_n hx hb dX10_seasonOf_63 rfl (lv_at hl 3 rfl) ?_
      refine dia_i (ls := ls) (c0 := (m0_4 12 (Int32.toNatClampNeg r_3)) = x3) (a := 1) (b := 0) (J := 72) (rest := [.int x5]) (fun K => ?_) (fun v_7 ev_7 => ?_)
      · refine lv_icmp_ne (tgt := 71) hx hb dX10_seasonOf_64 (by decide) (fun c_6 => ?_) (fun c_6 => ?_)
        · refine lv_iconst (v := 0) hx hb dX10_seasonOf_71 (by decide) ?_
          exact K _ (Or.inr ⟨c_6, rfl⟩)
        · refine lv_iconst (v := 1) hx hb dX10_seasonOf_67 (by decide) ?_
          refine lv_goto (tgt := 72) hx hb dX10_seasonOf_68 (by decide) ?_
          exact K _ (Or.inl ⟨c_6, rfl⟩)
      have h := h v_7 ev_7
      exact w_X10_seasonOf_72 cx hA ih x2 x3 x4 x6 v_7 x5 m0_4 H locs ls hP hD hS (lv_sub hl [1, 2, 3, 4, 6] rfl) h
    have h := h.2 c_5
    refine lv_aload_n hx hb dX10_seasonOf_41 rfl (lv_at hl 1 rfl) ?_
    refine gf_v (k := 13) (v := .ref (q0 11)) cx' hP 0 i_X10 rfl rfl (by decide) kw_728 rfl rfl dX10_seasonOf_42 ?_
    refine lv_bipush (v := 8) hx hb dX10_seasonOf_45 (by decide) ?_
    refine lv_iload hx hb dX10_seasonOf_47 (lv_at hl 0 rfl) ?_
    refine lv_imul hx hb dX10_seasonOf_49 ?_
    refine lv_iload_n hx hb dX10_seasonOf_50 rfl (lv_at hl 3 rfl) ?_
    refine lv_iadd hx hb dX10_seasonOf_51 ?_
    refine va_iald hx hb hK hP 11 0 rfl rfl h.1 dX10_seasonOf_52 ?_
    have h := h.2
    refine lv_goto (tgt := 72) hx hb dX10_seasonOf_53 (by decide) ?_
    exact w_X10_seasonOf_72 cx hA ih x2 x3 x4 x6 (m0_4 11 (Int32.toNatClampNeg ((8 * r_3) + x3))) x5 m0_4 H locs ls hP hD hS (lv_sub hl [1, 2, 3, 4, 6] rfl) h
set_option maxHeartbeats 4000000 in
set_option maxRecDepth 100000 in
theorem w_X10_seasonOf_0 {p : Program} {l : Launch} {e : Env} {s : State} {m : MethodId} {args : Array Value} {below : List Frame} {meth : Method} {c : Code} {dC : Nat → ClassId} {dI : Nat → Nat → Nat} {cI cJ : ClassId} {A : Nat → Prop} (cx : CX RX10 cX10_seasonOf (some .int) 8 p s m args meth c (dC, dI) (TY cI cJ)) (hA : ∀ q, s.heap.size ≤ q → A q) {q0 : Nat → Nat} {post : Int32 → Mem → Prop} : ∀ (x1 : Int32) (x2 : Int32) (x3 : Int32) (x4 : Int32) (m0 : Mem) (H : Heap) (locs : List Loc) (ls : Array Slot), va_P (dC, dI) vwCl (ww_X10 cI cJ q0 m0) H → va_D A (ww_X10 cI cJ q0 m0) → va_S A s.heap H locs → lv_has ls 8 [(0, .ref (q0 0)), (1, .int x1), (2, .int x2), (3, .int x3), (4, .int x4)] → b_X10_seasonOf_0 post x1 x2 x3 x4 m0 → W p l e ({ frames := 1, cells := 0, slots := 0, locals := 21 }) s m args below meth c H locs 0 0 (MQ below (va_Qi (S := Mem) (fun (r : Int32) (u : Mem) => post r u) (fun u t => AT (dC, dI) (TY cI cJ) A (ww_X10 cI cJ q0 u) t) A) args s 0 0 A) (F0 m 0 ls []) := by
  obtain ⟨hx, hb, hr, hml, hown, hts, hlocks, hK⟩ := id cx
  have cx' : CX RX10 cX10_seasonOf (meth.sig.returnType) 8 p s m args meth c (dC, dI) (TY cI cJ) := ⟨hx, hb, rfl, hml, hown, hts, hlocks, hK⟩
  intro x1 x2 x3 x4 m0 H locs ls hP hD hS hl h
  unfold b_X10_seasonOf_0 at h
  refine lv_aload_n hx hb dX10_seasonOf_0 rfl (lv_at hl 0 rfl) ?_
  refine lv_iload_n hx hb dX10_seasonOf_1 rfl (lv_at hl 1 rfl) ?_
  obtain ⟨m0_1, em0_1⟩ : ∃ z : Mem, z = up2 m0 0 23 x1 := ⟨_, rfl⟩
  have h := h m0_1 em0_1
  refine pf_v (k := 23) (tf := .int) cx' hP hD hS 0 (ww_X10 cI cJ q0 m0_1) i_X10 tyX10 tyX10_ok nmX10 rfl rfl (by decide) kw_738 rfl rfl rfl rfl rfl (Nat.le_of_ble_eq_true rfl) dX10_seasonOf_2 (by subst em0_1; rfl) (fun H locs hP hD hS => ?_)
  refine lv_iconst (v := 0) hx hb dX10_seasonOf_5 (by decide) ?_
  refine lv_istore (lv' := [(5, .int 0), (0, .ref (q0 0)), (1, .int x1), (2, .int x2), (3, .int x3), (4, .int x4)]) hx hb dX10_seasonOf_6 hl (by decide) rfl (fun ls hl => ?_)
  refine lv_iconst (v := 0) hx hb dX10_seasonOf_8 (by decide) ?_
  refine lv_istore (lv' := [(6, .int 0), (5, .int 0), (0, .ref (q0 0)), (1, .int x1), (2, .int x2), (3, .int x3), (4, .int x4)]) hx hb dX10_seasonOf_9 hl (by decide) rfl (fun ls hl => ?_)
  obtain ⟨n_2, h⟩ := h
  exact w_X10_seasonOf_11 cx hA n_2 x2 x3 x4 0 0 m0_1 H locs ls hP hD hS (lv_sub hl [2, 4, 5, 6, 1, 0] rfl) h
set_option maxRecDepth 100000 in
theorem c_X10_seasonOf (l : Launch) {dC : Nat → ClassId} {dI : Nat → Nat → Nat} {cI cJ : ClassId} (sz : Nat) (q0 : Nat → Nat) (m0 : Mem) (x1 : Int32) (x2 : Int32) (x3 : Int32) (x4 : Int32) (post : Int32 → Mem → Prop) (h : wp_X10_seasonOf m0 x1 x2 x3 x4 post) : Met l yX10_seasonOf (Cond.code yX10_seasonOf cX10_seasonOf 8 (some .int) :: gt) ({ frames := 1, cells := 0, slots := 0, locals := 21 }) (va_Pc [.ref (q0 0), .int x1, .int x2, .int x3, .int x4] (PRE (dC, dI) (TY cI cJ) (ww_X10 cI cJ q0 m0) sz)) (va_Qi (S := Mem) (fun (r : Int32) (u : Mem) => post r u) (fun u t => AT (dC, dI) (TY cI cJ) (va_A (ww_X10 cI cJ q0 m0) sz) (ww_X10 cI cJ q0 u) t) (va_A (ww_X10 cI cJ q0 m0) sz)) 0 0 (va_A (ww_X10 cI cJ q0 m0) sz) :=
  met_of (own := RX10) (Qf := fun A => va_Qi (S := Mem) (fun (r : Int32) (u : Mem) => post r u) (fun u t => AT (dC, dI) (TY cI cJ) A (ww_X10 cI cJ q0 u) t) A) (by decide) rfl (Nat.le_of_ble_eq_true rfl) rfl (fun p e s m below meth c A cx hA ls hP hD hS hl => w_X10_seasonOf_0 cx hA x1 x2 x3 x4 m0 _ _ ls hP hD hS hl h)
theorem mv_X10_seasonOf : MV yX10_seasonOf cX10_seasonOf 8 (some .int) 4 := ⟨⟨kw_1084, kw_11, by decide +kernel⟩, kw_1083, ksel_50⟩
set_option maxHeartbeats 4000000 in
set_option maxRecDepth 100000 in
theorem w_X10_season_0 {p : Program} {l : Launch} {e : Env} {s : State} {m : MethodId} {args : Array Value} {below : List Frame} {meth : Method} {c : Code} {dC : Nat → ClassId} {dI : Nat → Nat → Nat} {cI cJ : ClassId} {A : Nat → Prop} (cx : CX RX10 cX10_season (some .int) 5 p s m args meth c (dC, dI) (TY cI cJ)) (hA : ∀ q, s.heap.size ≤ q → A q) {q0 : Nat → Nat} {post : Int32 → Mem → Prop} : ∀ (x1 : Int32) (x2 : Int32) (x3 : Int32) (x4 : Int32) (m0 : Mem) (H : Heap) (locs : List Loc) (ls : Array Slot), va_P (dC, dI) vwCl (ww_X10 cI cJ q0 m0) H → va_D A (ww_X10 cI cJ q0 m0) → va_S A s.heap H locs → lv_has ls 5 [(0, .ref (q0 0)), (1, .int x1), (2, .int x2), (3, .int x3), (4, .int x4)] → b_X10_season_0 post x1 x2 x3 x4 m0 → W p l e ({ frames := 6, cells := 0, slots := 0, locals := 132 }) s m args below meth c H locs 0 0 (MQ below (va_Qi (S := Mem) (fun (r : Int32) (u : Mem) => post r u) (fun u t => AT (dC, dI) (TY cI cJ) A (ww_X10 cI cJ q0 u) t) A) args s 0 0 A) (F0 m 0 ls []) := by
  obtain ⟨hx, hb, hr, hml, hown, hts, hlocks, hK⟩ := id cx
  have cx' : CX RX10 cX10_season (meth.sig.returnType) 5 p s m args meth c (dC, dI) (TY cI cJ) := ⟨hx, hb, rfl, hml, hown, hts, hlocks, hK⟩
  intro x1 x2 x3 x4 m0 H locs ls hP hD hS hl h
  unfold b_X10_season_0 at h
  refine lv_aload_n hx hb dX10_season_0 rfl (lv_at hl 0 rfl) ?_
  refine call_v (run_V (As := []) (rest := []) cx' (c_X10_find l H.size q0 m0 _ h) mv_X10_find kw_906 rfl rfl ⟨Nat.le_of_ble_eq_true rfl, Nat.le_of_ble_eq_true rfl⟩ hP hD rfl rfl rfl hl.1 rfl (Nat.le_of_ble_eq_true rfl) dX10_season_1 ⟨Nat.zero_le _, Nat.zero_le _⟩) hD hS hA (fun u9 H locs hP hD hS h => ?_)
  obtain ⟨m0_1, rfl⟩ : ∃ z, z = u9 := ⟨_, rfl⟩
  have hP : va_P (dC, dI) vwCl (ww_X10 cI cJ q0 m0_1) H := hP
  have hD : va_D A (ww_X10 cI cJ q0 m0_1) := hD
  refine lv_iload_n hx hb dX10_season_4 rfl (lv_at hl 2 rfl) ?_
  refine lv_i2l (v := Int32.toInt64 x2) hx hb dX10_season_5 rfl ?_
  refine lv_lconst (v := 1) hx hb dX10_season_6 (by decide) ?_
  refine lv_ldc2 hx hb hown (hts _ kw_1080) dX10_season_7 ?_
  refine callN_i (run_S (As := [.long (Int32.toInt64 x2), .long 1, .long 99]) (rest := []) (wc := []) cx' (c_X10_in l H.size (Int32.toInt64 x2) 1 99 _ h) ms_X10_in kw_796 rfl rfl ⟨Nat.le_of_ble_eq_true rfl, Nat.le_of_ble_eq_true rfl⟩ nilP nilD (A := A) rfl hl.1 rfl (Nat.le_of_ble_eq_true rfl) dX10_season_10 ⟨Nat.zero_le _, Nat.zero_le _⟩) hP hS hA (fun r_2 H locs hP hS h => ?_)
  refine lv_if_eq (tgt := 44) hx hb dX10_season_13 (by decide) (fun c_3 => ?_) (fun c_3 => ?_)
  · have h := h.1 c_3
    refine lv_bipush (v := (-2)) hx hb dX10_season_44 (by decide) ?_
    exact rt_i (v := (-2)) (u := m0_1) cx hP hD hS h dX10_season_46
  have h := h.2 c_3
  refine lv_aload_n hx hb dX10_season_16 rfl (lv_at hl 0 rfl) ?_
  refine lv_iload_n hx hb dX10_season_17 rfl (lv_at hl 3 rfl) ?_
  refine call_i (run_V (As := [.int x3]) (rest := []) cx' (c_X10_isHouse l H.size q0 m0_1 x3 _ h) mv_X10_isHouse kw_873 rfl rfl ⟨Nat.le_of_ble_eq_true rfl, Nat.le_of_ble_eq_true rfl⟩ hP hD rfl rfl rfl hl.1 rfl (Nat.le_of_ble_eq_true rfl) dX10_season_18 ⟨Nat.zero_le _, Nat.zero_le _⟩) hD hS hA (fun r_4 u9 H locs hP hD hS h => ?_)
  have hP : va_P (dC, dI) vwCl (ww_X10 cI cJ q0 m0_1) H := hP
  have hD : va_D A (ww_X10 cI cJ q0 m0_1) := hD
  refine lv_if_eq (tgt := 44) hx hb dX10_season_21 (by decide) (fun c_5 => ?_) (fun c_5 => ?_)
  · have h := h.1 c_5
    refine lv_bipush (v := (-2)) hx hb dX10_season_44 (by decide) ?_
    exact rt_i (v := (-2)) (u := m0_1) cx hP hD hS h dX10_season_46
  have h := h.2 c_5
  refine lv_iload hx hb dX10_season_24 (lv_at hl 4 rfl) ?_
  refine callN_i (run_S (As := [.int x4]) (rest := []) (wc := []) cx' (c_X10_isTwo l H.size x4 _ h) ms_X10_isTwo kw_832 rfl rfl ⟨Nat.le_of_ble_eq_true rfl, Nat.le_of_ble_eq_true rfl⟩ nilP nilD (A := A) rfl hl.1 rfl (Nat.le_of_ble_eq_true rfl) dX10_season_26 ⟨Nat.zero_le _, Nat.zero_le _⟩) hP hS hA (fun r_6 H locs hP hS h => ?_)
  refine lv_if_eq (tgt := 44) hx hb dX10_season_29 (by decide) (fun c_7 => ?_) (fun c_7 => ?_)
  · have h := h.1 c_7
    refine lv_bipush (v := (-2)) hx hb dX10_season_44 (by decide) ?_
    exact rt_i (v := (-2)) (u := m0_1) cx hP hD hS h dX10_season_46
  have h := h.2 c_7
  refine lv_aload_n hx hb dX10_season_32 rfl (lv_at hl 0 rfl) ?_
  refine lv_iload_n hx hb dX10_season_33 rfl (lv_at hl 1 rfl) ?_
  refine lv_iload_n hx hb dX10_season_34 rfl (lv_at hl 2 rfl) ?_
  refine lv_iload_n hx hb dX10_season_35 rfl (lv_at hl 3 rfl) ?_
  refine lv_iload hx hb dX10_season_36 (lv_at hl 4 rfl) ?_
  refine call_i (run_V (As := [.int x1, .int x2, .int x3, .int x4]) (rest := []) cx' (c_X10_seasonOf l H.size q0 m0_1 x1 x2 x3 x4 _ h) mv_X10_seasonOf kw_1081 rfl rfl ⟨Nat.le_of_ble_eq_true rfl, Nat.le_of_ble_eq_true rfl⟩ hP hD rfl rfl rfl hl.1 rfl (Nat.le_of_ble_eq_true rfl) dX10_season_38 ⟨Nat.zero_le _, Nat.zero_le _⟩) hD hS hA (fun r_8 u9 H locs hP hD hS h => ?_)
  obtain ⟨m0_9, rfl⟩ : ∃ z, z = u9 := ⟨_, rfl⟩
  have hP : va_P (dC, dI) vwCl (ww_X10 cI cJ q0 m0_9) H := hP
  have hD : va_D A (ww_X10 cI cJ q0 m0_9) := hD
  refine lv_goto (tgt := 46) hx hb dX10_season_41 (by decide) ?_
  exact rt_i (v := r_8) (u := m0_9) cx hP hD hS h dX10_season_46
set_option maxRecDepth 100000 in
theorem c_X10_season (l : Launch) {dC : Nat → ClassId} {dI : Nat → Nat → Nat} {cI cJ : ClassId} (sz : Nat) (q0 : Nat → Nat) (m0 : Mem) (x1 : Int32) (x2 : Int32) (x3 : Int32) (x4 : Int32) (post : Int32 → Mem → Prop) (h : wp_X10_season m0 x1 x2 x3 x4 post) : Met l yX10_season (Cond.code yX10_season cX10_season 5 (some .int) :: gt) ({ frames := 6, cells := 0, slots := 0, locals := 132 }) (va_Pc [.ref (q0 0), .int x1, .int x2, .int x3, .int x4] (PRE (dC, dI) (TY cI cJ) (ww_X10 cI cJ q0 m0) sz)) (va_Qi (S := Mem) (fun (r : Int32) (u : Mem) => post r u) (fun u t => AT (dC, dI) (TY cI cJ) (va_A (ww_X10 cI cJ q0 m0) sz) (ww_X10 cI cJ q0 u) t) (va_A (ww_X10 cI cJ q0 m0) sz)) 0 0 (va_A (ww_X10 cI cJ q0 m0) sz) :=
  met_of (own := RX10) (Qf := fun A => va_Qi (S := Mem) (fun (r : Int32) (u : Mem) => post r u) (fun u t => AT (dC, dI) (TY cI cJ) A (ww_X10 cI cJ q0 u) t) A) (by decide) rfl (Nat.le_of_ble_eq_true rfl) rfl (fun p e s m below meth c A cx hA ls hP hD hS hl => w_X10_season_0 cx hA x1 x2 x3 x4 m0 _ _ ls hP hD hS hl h)
theorem mv_X10_season : MV yX10_season cX10_season 5 (some .int) 4 := ⟨⟨kw_1079, kw_11, by decide +kernel⟩, kw_1077, kw_1078⟩
set_option maxHeartbeats 4000000 in
set_option maxRecDepth 100000 in
theorem w_X10_write_53 {p : Program} {l : Launch} {e : Env} {s : State} {m : MethodId} {args : Array Value} {below : List Frame} {meth : Method} {c : Code} {dC : Nat → ClassId} {dI : Nat → Nat → Nat} {cI cJ : ClassId} {A : Nat → Prop} (cx : CX RX10 cX10_write (some .int) 5 p s m args meth c (dC, dI) (TY cI cJ)) (hA : ∀ q, s.heap.size ≤ q → A q) {q0 : Nat → Nat} {post : Int32 → Mem → Prop} : ∀ (n : Nat) (x1 : Int32) (x2 : Int32) (x3 : Int32) (x4 : Int32) (m0 : Mem) (H : Heap) (locs : List Loc) (ls : Array Slot), va_P (dC, dI) vwCl (ww_X10 cI cJ q0 m0) H → va_D A (ww_X10 cI cJ q0 m0) → va_S A s.heap H locs → lv_has ls 5 [(0, .ref (q0 0)), (1, .int x1), (2, .int x2), (3, .int x3), (4, .int x4)] → b_X10_write_53 post n x1 x2 x3 x4 m0 → W p l e ({ frames := 6, cells := 0, slots := 0, locals := 132 }) s m args below meth c H locs 0 0 (MQ below (va_Qi (S := Mem) (fun (r : Int32) (u : Mem) => post r u) (fun u t => AT (dC, dI) (TY cI cJ) A (ww_X10 cI cJ q0 u) t) A) args s 0 0 A) (F0 m 53 ls []) := by
  obtain ⟨hx, hb, hr, hml, hown, hts, hlocks, hK⟩ := id cx
  have cx' : CX RX10 cX10_write (meth.sig.returnType) 5 p s m args meth c (dC, dI) (TY cI cJ) := ⟨hx, hb, rfl, hml, hown, hts, hlocks, hK⟩
  intro n
  induction n with
  | zero =>
    intro x1 x2 x3 x4 m0 H locs ls hP hD hS hl h
    exact False.elim h
  | succ n ih =>
    intro x1 x2 x3 x4 m0 H locs ls hP hD hS hl h
    unfold b_X10_write_53 at h
    refine lv_iload hx hb dX10_write_53 (lv_at hl 4 rfl) ?_
    refine lv_iload_n hx hb dX10_write_55 rfl (lv_at hl 3 rfl) ?_
    refine lv_icmp_ge (tgt := 93) hx hb dX10_write_56 (by decide) (fun c_1 => ?_) (fun c_1 => ?_)
    · have h := h.1 c_1
      refine lv_iload_n hx hb dX10_write_93 rfl (lv_at hl 3 rfl) ?_
      exact rt_i (v := x3) (u := m0) cx hP hD hS h dX10_write_94
    have h := h.2 c_1
    refine lv_aload_n hx hb dX10_write_59 rfl (lv_at hl 0 rfl) ?_
    refine gf_v (k := 2) (v := .ref (q0 3)) cx' hP 0 i_X10 rfl rfl (by decide) kw_717 rfl rfl dX10_write_60 ?_
    refine lv_bipush (v := 60) hx hb dX10_write_63 (by decide) ?_
    refine lv_iload_n hx hb dX10_write_65 rfl (lv_at hl 2 rfl) ?_
    refine lv_imul hx hb dX10_write_66 ?_
    refine lv_iload hx hb dX10_write_67 (lv_at hl 4 rfl) ?_
    refine lv_iadd hx hb dX10_write_69 ?_
    refine lv_aload_n hx hb dX10_write_70 rfl (lv_at hl 0 rfl) ?_
    refine gf_v (k := 0) (v := .ref (q0 1)) cx' hP 0 i_X10 rfl rfl (by decide) kw_715 rfl rfl dX10_write_71 ?_
    refine lv_iload_n hx hb dX10_write_74 rfl (lv_at hl 2 rfl) ?_
    refine va_iald hx hb hK hP 1 0 rfl rfl h.1 dX10_write_75 ?_
    have h := h.2
    refine lv_aload_n hx hb dX10_write_76 rfl (lv_at hl 0 rfl) ?_
    refine lv_iload hx hb dX10_write_77 (lv_at hl 4 rfl) ?_
    refine lv_iload_n hx hb dX10_write_79 rfl (lv_at hl 1 rfl) ?_
    refine call_i (run_V (As := [.int x4, .int x1]) (rest := [.int (m0 1 (Int32.toNatClampNeg x2)), .int ((60 * x2) + x4), .ref (q0 3)]) cx' (c_X10_allBy l H.size q0 m0 x4 x1 _ h) mv_X10_allBy kw_942 rfl rfl ⟨Nat.le_of_ble_eq_true rfl, Nat.le_of_ble_eq_true rfl⟩ hP hD rfl rfl rfl hl.1 rfl (Nat.le_of_ble_eq_true rfl) dX10_write_80 ⟨Nat.zero_le _, Nat.zero_le _⟩) hD hS hA (fun r_2 u9 H locs hP hD hS h => ?_)
    have hP : va_P (dC, dI) vwCl (ww_X10 cI cJ q0 m0) H := hP
    have hD : va_D A (ww_X10 cI cJ q0 m0) := hD
    refine callN_i (run_S (As := [.int (m0 1 (Int32.toNatClampNeg x2)), .int r_2]) (rest := [.int ((60 * x2) + x4), .ref (q0 3)]) (wc := []) cx' (c_X10_cut l H.size (m0 1 (Int32.toNatClampNeg x2)) r_2 _ h) ms_X10_cut kw_816 rfl rfl ⟨Nat.le_of_ble_eq_true rfl, Nat.le_of_ble_eq_true rfl⟩ nilP nilD (A := A) rfl hl.1 rfl (Nat.le_of_ble_eq_true rfl) dX10_write_83 ⟨Nat.zero_le _, Nat.zero_le _⟩) hP hS hA (fun r_3 H locs hP hS h => ?_)
    obtain ⟨m0_4, em0_4⟩ : ∃ z : Mem, z = up2 m0 3 (Int32.toNatClampNeg ((60 * x2) + x4)) r_3 := ⟨_, rfl⟩
    have h1 := h.1
    have h := h.2 m0_4 em0_4
    refine st_i hx hb hK hP hD hS 3 0 (ww_X10 cI cJ q0 m0_4) rfl rfl h1 dX10_write_86 (by subst em0_4; rfl) (fun H locs hP hD hS => ?_)
    obtain ⟨x4_5, ex4_5⟩ : ∃ z : Int32, z = x4 + 1 := ⟨_, rfl⟩
    have h := h x4_5 ex4_5
    refine lv_iinc (v := x4_5) (lv' := [(4, .int x4_5), (0, .ref (q0 0)), (1, .int x1), (2, .int x2), (3, .int x3)]) hx hb dX10_write_87 hl (k := 4) rfl (by rw [ex4_5]; rfl) (by decide) rfl (fun ls hl => ?_)
    refine lv_goto (tgt := 53) hx hb dX10_write_90 (by decide) ?_
    exact ih x1 x2 x3 x4_5 m0_4 H locs ls hP hD hS (lv_sub hl [1, 2, 3, 4, 0] rfl) h
set_option maxHeartbeats 4000000 in
set_option maxRecDepth 100000 in
theorem w_X10_write_0 {p : Program} {l : Launch} {e : Env} {s : State} {m : MethodId} {args : Array Value} {below : List Frame} {meth : Method} {c : Code} {dC : Nat → ClassId} {dI : Nat → Nat → Nat} {cI cJ : ClassId} {A : Nat → Prop} (cx : CX RX10 cX10_write (some .int) 5 p s m args meth c (dC, dI) (TY cI cJ)) (hA : ∀ q, s.heap.size ≤ q → A q) {q0 : Nat → Nat} {post : Int32 → Mem → Prop} : ∀ (x1 : Int32) (x2 : Int32) (m0 : Mem) (H : Heap) (locs : List Loc) (ls : Array Slot), va_P (dC, dI) vwCl (ww_X10 cI cJ q0 m0) H → va_D A (ww_X10 cI cJ q0 m0) → va_S A s.heap H locs → lv_has ls 5 [(0, .ref (q0 0)), (1, .int x1), (2, .int x2)] → b_X10_write_0 post x1 x2 m0 → W p l e ({ frames := 6, cells := 0, slots := 0, locals := 132 }) s m args below meth c H locs 0 0 (MQ below (va_Qi (S := Mem) (fun (r : Int32) (u : Mem) => post r u) (fun u t => AT (dC, dI) (TY cI cJ) A (ww_X10 cI cJ q0 u) t) A) args s 0 0 A) (F0 m 0 ls []) := by
  obtain ⟨hx, hb, hr, hml, hown, hts, hlocks, hK⟩ := id cx
  have cx' : CX RX10 cX10_write (meth.sig.returnType) 5 p s m args meth c (dC, dI) (TY cI cJ) := ⟨hx, hb, rfl, hml, hown, hts, hlocks, hK⟩
  intro x1 x2 m0 H locs ls hP hD hS hl h
  unfold b_X10_write_0 at h
  refine lv_iload_n hx hb dX10_write_0 rfl (lv_at hl 1 rfl) ?_
  refine callN_i (run_S (As := [.int x1]) (rest := []) (wc := []) cx' (c_X10_isTwo l H.size x1 _ h) ms_X10_isTwo kw_832 rfl rfl ⟨Nat.le_of_ble_eq_true rfl, Nat.le_of_ble_eq_true rfl⟩ nilP nilD (A := A) rfl hl.1 rfl (Nat.le_of_ble_eq_true rfl) dX10_write_1 ⟨Nat.zero_le _, Nat.zero_le _⟩) hP hS hA (fun r_1 H locs hP hS h => ?_)
  refine lv_if_eq (tgt := 14) hx hb dX10_write_4 (by decide) (fun c_2 => ?_) (fun c_2 => ?_)
  · have h := h.1 c_2
    refine lv_bipush (v := (-2)) hx hb dX10_write_14 (by decide) ?_
    exact rt_i (v := (-2)) (u := m0) cx hP hD hS h dX10_write_16
  have h := h.2 c_2
  refine lv_iload_n hx hb dX10_write_7 rfl (lv_at hl 2 rfl) ?_
  refine callN_i (run_S (As := [.int x2]) (rest := []) (wc := []) cx' (c_X10_isSheet l H.size x2 _ h) ms_X10_isSheet kw_792 rfl rfl ⟨Nat.le_of_ble_eq_true rfl, Nat.le_of_ble_eq_true rfl⟩ nilP nilD (A := A) rfl hl.1 rfl (Nat.le_of_ble_eq_true rfl) dX10_write_8 ⟨Nat.zero_le _, Nat.zero_le _⟩) hP hS hA (fun r_3 H locs hP hS h => ?_)
  refine lv_if_ne (tgt := 17) hx hb dX10_write_11 (by decide) (fun c_4 => ?_) (fun c_4 => ?_)
  · have h := h.1 c_4
    refine lv_aload_n hx hb dX10_write_17 rfl (lv_at hl 0 rfl) ?_
    refine gf_v (k := 0) (v := .ref (q0 1)) cx' hP 0 i_X10 rfl rfl (by decide) kw_715 rfl rfl dX10_write_18 ?_
    refine lv_iload_n hx hb dX10_write_21 rfl (lv_at hl 2 rfl) ?_
    refine va_iald hx hb hK hP 1 0 rfl rfl h.1 dX10_write_22 ?_
    have h := h.2
    refine lv_if_ge (tgt := 32) hx hb dX10_write_23 (by decide) (fun c_5 => ?_) (fun c_5 => ?_)
    · have h := h.1 c_5
      refine lv_aload_n hx hb dX10_write_32 rfl (lv_at hl 0 rfl) ?_
      refine call_v (run_V (As := []) (rest := []) cx' (c_X10_find l H.size q0 m0 _ h) mv_X10_find kw_906 rfl rfl ⟨Nat.le_of_ble_eq_true rfl, Nat.le_of_ble_eq_true rfl⟩ hP hD rfl rfl rfl hl.1 rfl (Nat.le_of_ble_eq_true rfl) dX10_write_33 ⟨Nat.zero_le _, Nat.zero_le _⟩) hD hS hA (fun u9 H locs hP hD hS h => ?_)
      obtain ⟨m0_6, rfl⟩ : ∃ z, z = u9 := ⟨_, rfl⟩
      have hP : va_P (dC, dI) vwCl (ww_X10 cI cJ q0 m0_6) H := hP
      have hD : va_D A (ww_X10 cI cJ q0 m0_6) := hD
      refine lv_aload_n hx hb dX10_write_36 rfl (lv_at hl 0 rfl) ?_
      refine gf_v (k := 1) (v := .ref (q0 2)) cx' hP 0 i_X10 rfl rfl (by decide) kw_716 rfl rfl dX10_write_37 ?_
      refine lv_iload_n hx hb dX10_write_40 rfl (lv_at hl 2 rfl) ?_
      refine va_iald hx hb hK hP 2 0 rfl rfl h.1 dX10_write_41 ?_
      have h := h.2
      refine lv_aload_n hx hb dX10_write_42 rfl (lv_at hl 0 rfl) ?_
      refine gf_v (k := 7) (v := .int (m0_6 0 7)) cx' hP 0 i_X10 rfl rfl (by decide) kw_722 rfl rfl dX10_write_43 ?_
      refine callN_i (run_S (As := [.int (m0_6 2 (Int32.toNatClampNeg x2)), .int (m0_6 0 7)]) (rest := []) (wc := []) cx' (c_X10_lesser l H.size (m0_6 2 (Int32.toNatClampNeg x2)) (m0_6 0 7) _ h) ms_X10_lesser kw_921 rfl rfl ⟨Nat.le_of_ble_eq_true rfl, Nat.le_of_ble_eq_true rfl⟩ nilP nilD (A := A) rfl hl.1 rfl (Nat.le_of_ble_eq_true rfl) dX10_write_46 ⟨Nat.zero_le _, Nat.zero_le _⟩) hP hS hA (fun r_7 H locs hP hS h => ?_)
      refine lv_istore_n (lv' := [(3, .int r_7), (0, .ref (q0 0)), (1, .int x1), (2, .int x2)]) hx hb dX10_write_49 rfl hl (by decide) rfl (fun ls hl => ?_)
      refine lv_iconst (v := 0) hx hb dX10_write_50 (by decide) ?_
      refine lv_istore (lv' := [(4, .int 0), (3, .int r_7), (0, .ref (q0 0)), (1, .int x1), (2, .int x2)]) hx hb dX10_write_51 hl (by decide) rfl (fun ls hl => ?_)
      obtain ⟨n_8, h⟩ := h
      exact w_X10_write_53 cx hA n_8 x1 x2 r_7 0 m0_6 H locs ls hP hD hS (lv_sub hl [2, 3, 4, 1, 0] rfl) h
    have h := h.2 c_5
    refine lv_aload_n hx hb dX10_write_26 rfl (lv_at hl 0 rfl) ?_
    refine lv_iconst (v := 1) hx hb dX10_write_27 (by decide) ?_
    refine call_i (run_V (As := [.int 1]) (rest := []) cx' (c_X10_finds l H.size q0 m0 1 _ h) mv_X10_finds kw_800 rfl rfl ⟨Nat.le_of_ble_eq_true rfl, Nat.le_of_ble_eq_true rfl⟩ hP hD rfl rfl rfl hl.1 rfl (Nat.le_of_ble_eq_true rfl) dX10_write_28 ⟨Nat.zero_le _, Nat.zero_le _⟩) hD hS hA (fun r_9 u9 H locs hP hD hS h => ?_)
    obtain ⟨m0_10, rfl⟩ : ∃ z, z = u9 := ⟨_, rfl⟩
    have hP : va_P (dC, dI) vwCl (ww_X10 cI cJ q0 m0_10) H := hP
    have hD : va_D A (ww_X10 cI cJ q0 m0_10) := hD
    exact rt_i (v := r_9) (u := m0_10) cx hP hD hS h dX10_write_31
  have h := h.2 c_4
  refine lv_bipush (v := (-2)) hx hb dX10_write_14 (by decide) ?_
  exact rt_i (v := (-2)) (u := m0) cx hP hD hS h dX10_write_16
set_option maxRecDepth 100000 in
theorem c_X10_write (l : Launch) {dC : Nat → ClassId} {dI : Nat → Nat → Nat} {cI cJ : ClassId} (sz : Nat) (q0 : Nat → Nat) (m0 : Mem) (x1 : Int32) (x2 : Int32) (post : Int32 → Mem → Prop) (h : wp_X10_write m0 x1 x2 post) : Met l yX10_write (Cond.code yX10_write cX10_write 5 (some .int) :: gt) ({ frames := 6, cells := 0, slots := 0, locals := 132 }) (va_Pc [.ref (q0 0), .int x1, .int x2] (PRE (dC, dI) (TY cI cJ) (ww_X10 cI cJ q0 m0) sz)) (va_Qi (S := Mem) (fun (r : Int32) (u : Mem) => post r u) (fun u t => AT (dC, dI) (TY cI cJ) (va_A (ww_X10 cI cJ q0 m0) sz) (ww_X10 cI cJ q0 u) t) (va_A (ww_X10 cI cJ q0 m0) sz)) 0 0 (va_A (ww_X10 cI cJ q0 m0) sz) :=
  met_of (own := RX10) (Qf := fun A => va_Qi (S := Mem) (fun (r : Int32) (u : Mem) => post r u) (fun u t => AT (dC, dI) (TY cI cJ) A (ww_X10 cI cJ q0 u) t) A) (by decide) rfl (Nat.le_of_ble_eq_true rfl) rfl (fun p e s m below meth c A cx hA ls hP hD hS hl => w_X10_write_0 cx hA x1 x2 m0 _ _ ls hP hD hS hl h)
theorem mv_X10_write : MV yX10_write cX10_write 5 (some .int) 2 := ⟨⟨kw_1093, kw_11, by decide +kernel⟩, kw_1091, kw_1092⟩
set_option maxHeartbeats 4000000 in
set_option maxRecDepth 100000 in
theorem w_X10_allGiven_4 {p : Program} {l : Launch} {e : Env} {s : State} {m : MethodId} {args : Array Value} {below : List Frame} {meth : Method} {c : Code} {dC : Nat → ClassId} {dI : Nat → Nat → Nat} {cI cJ : ClassId} {A : Nat → Prop} (cx : CX RX10 cX10_allGiven (some .int) 3 p s m args meth c (dC, dI) (TY cI cJ)) (hA : ∀ q, s.heap.size ≤ q → A q) {q0 : Nat → Nat} {m0 : Mem} {post : Int32 → Prop} : ∀ (n : Nat) (x1 : Int32) (x2 : Int32) (H : Heap) (locs : List Loc) (ls : Array Slot), va_P (dC, dI) vwCl (ww_X10 cI cJ q0 m0) H → va_D A (ww_X10 cI cJ q0 m0) → va_S A s.heap H locs → lv_has ls 3 [(0, .ref (q0 0)), (1, .int x1), (2, .int x2)] → b_X10_allGiven_4 m0 post n x1 x2 → W p l e ({ frames := 1, cells := 0, slots := 0, locals := 24 }) s m args below meth c H locs 0 0 (MQ below (va_Qi (S := Unit) (fun (r : Int32) (_u : Unit) => post r) (fun _u t => AT (dC, dI) (TY cI cJ) A (ww_X10 cI cJ q0 m0) t) A) args s 0 0 A) (F0 m 4 ls []) := by
  obtain ⟨hx, hb, hr, hml, hown, hts, hlocks, hK⟩ := id cx
  have cx' : CX RX10 cX10_allGiven (meth.sig.returnType) 3 p s m args meth c (dC, dI) (TY cI cJ) := ⟨hx, hb, rfl, hml, hown, hts, hlocks, hK⟩
  intro n
  induction n with
  | zero =>
    intro x1 x2 H locs ls hP hD hS hl h
    exact False.elim h
  | succ n ih =>
    intro x1 x2 H locs ls hP hD hS hl h
    unfold b_X10_allGiven_4 at h
    refine lv_iload_n hx hb dX10_allGiven_4 rfl (lv_at hl 2 rfl) ?_
    refine lv_aload_n hx hb dX10_allGiven_5 rfl (lv_at hl 0 rfl) ?_
    refine gf_v (k := 7) (v := .int (m0 0 7)) cx' hP 0 i_X10 rfl rfl (by decide) kw_722 rfl rfl dX10_allGiven_6 ?_
    refine lv_icmp_ge (tgt := 27) hx hb dX10_allGiven_9 (by decide) (fun c_1 => ?_) (fun c_1 => ?_)
    · have h := h.1 c_1
      refine lv_iload_n hx hb dX10_allGiven_27 rfl (lv_at hl 1 rfl) ?_
      exact rt_i (v := x1) (u := ()) cx hP hD hS h dX10_allGiven_28
    have h := h.2 c_1
    refine lv_iload_n hx hb dX10_allGiven_12 rfl (lv_at hl 1 rfl) ?_
    refine lv_aload_n hx hb dX10_allGiven_13 rfl (lv_at hl 0 rfl) ?_
    refine lv_iload_n hx hb dX10_allGiven_14 rfl (lv_at hl 2 rfl) ?_
    refine lv_iconst (v := 0) hx hb dX10_allGiven_15 (by decide) ?_
    refine call_i (run_V (As := [.int x2, .int 0]) (rest := [.int x1]) cx' (c_X10_allBy l H.size q0 m0 x2 0 _ h) mv_X10_allBy kw_942 rfl rfl ⟨Nat.le_of_ble_eq_true rfl, Nat.le_of_ble_eq_true rfl⟩ hP hD rfl rfl rfl hl.1 rfl (Nat.le_of_ble_eq_true rfl) dX10_allGiven_16 ⟨Nat.zero_le _, Nat.zero_le _⟩) hD hS hA (fun r_2 u9 H locs hP hD hS h => ?_)
    have hP : va_P (dC, dI) vwCl (ww_X10 cI cJ q0 m0) H := hP
    have hD : va_D A (ww_X10 cI cJ q0 m0) := hD
    refine lv_iadd hx hb dX10_allGiven_19 ?_
    refine lv_topi (fun x1_3 ex1_3 => ?_)
    have h := h x1_3 ex1_3
    refine lv_istore_n (lv' := [(1, .int x1_3), (0, .ref (q0 0)), (2, .int x2)]) hx hb dX10_allGiven_20 rfl hl (by decide) rfl (fun ls hl => ?_)
    obtain ⟨x2_4, ex2_4⟩ : ∃ z : Int32, z = x2 + 1 := ⟨_, rfl⟩
    have h := h x2_4 ex2_4
    refine lv_iinc (v := x2_4) (lv' := [(2, .int x2_4), (1, .int x1_3), (0, .ref (q0 0))]) hx hb dX10_allGiven_21 hl (k := 2) rfl (by rw [ex2_4]; rfl) (by decide) rfl (fun ls hl => ?_)
    refine lv_goto (tgt := 4) hx hb dX10_allGiven_24 (by decide) ?_
    exact ih x1_3 x2_4 H locs ls hP hD hS (lv_sub hl [2, 1, 0] rfl) h
set_option maxHeartbeats 4000000 in
set_option maxRecDepth 100000 in
theorem w_X10_allGiven_0 {p : Program} {l : Launch} {e : Env} {s : State} {m : MethodId} {args : Array Value} {below : List Frame} {meth : Method} {c : Code} {dC : Nat → ClassId} {dI : Nat → Nat → Nat} {cI cJ : ClassId} {A : Nat → Prop} (cx : CX RX10 cX10_allGiven (some .int) 3 p s m args meth c (dC, dI) (TY cI cJ)) (hA : ∀ q, s.heap.size ≤ q → A q) {q0 : Nat → Nat} {m0 : Mem} {post : Int32 → Prop} : ∀  (H : Heap) (locs : List Loc) (ls : Array Slot), va_P (dC, dI) vwCl (ww_X10 cI cJ q0 m0) H → va_D A (ww_X10 cI cJ q0 m0) → va_S A s.heap H locs → lv_has ls 3 [(0, .ref (q0 0))] → b_X10_allGiven_0 m0 post  → W p l e ({ frames := 1, cells := 0, slots := 0, locals := 24 }) s m args below meth c H locs 0 0 (MQ below (va_Qi (S := Unit) (fun (r : Int32) (_u : Unit) => post r) (fun _u t => AT (dC, dI) (TY cI cJ) A (ww_X10 cI cJ q0 m0) t) A) args s 0 0 A) (F0 m 0 ls []) := by
  obtain ⟨hx, hb, hr, hml, hown, hts, hlocks, hK⟩ := id cx
  have cx' : CX RX10 cX10_allGiven (meth.sig.returnType) 3 p s m args meth c (dC, dI) (TY cI cJ) := ⟨hx, hb, rfl, hml, hown, hts, hlocks, hK⟩
  intro H locs ls hP hD hS hl h
  unfold b_X10_allGiven_0 at h
  refine lv_iconst (v := 0) hx hb dX10_allGiven_0 (by decide) ?_
  refine lv_istore_n (lv' := [(1, .int 0), (0, .ref (q0 0))]) hx hb dX10_allGiven_1 rfl hl (by decide) rfl (fun ls hl => ?_)
  refine lv_iconst (v := 0) hx hb dX10_allGiven_2 (by decide) ?_
  refine lv_istore_n (lv' := [(2, .int 0), (1, .int 0), (0, .ref (q0 0))]) hx hb dX10_allGiven_3 rfl hl (by decide) rfl (fun ls hl => ?_)
  obtain ⟨n_1, h⟩ := h
  exact w_X10_allGiven_4 cx hA n_1 0 0 H locs ls hP hD hS (lv_sub hl [2, 1, 0] rfl) h
set_option maxRecDepth 100000 in
theorem c_X10_allGiven (l : Launch) {dC : Nat → ClassId} {dI : Nat → Nat → Nat} {cI cJ : ClassId} (sz : Nat) (q0 : Nat → Nat) (m0 : Mem) (post : Int32 → Prop) (h : wp_X10_allGiven m0 post) : Met l yX10_allGiven (Cond.code yX10_allGiven cX10_allGiven 3 (some .int) :: gt) ({ frames := 1, cells := 0, slots := 0, locals := 24 }) (va_Pc [.ref (q0 0)] (PRE (dC, dI) (TY cI cJ) (ww_X10 cI cJ q0 m0) sz)) (va_Qi (S := Unit) (fun (r : Int32) (_u : Unit) => post r) (fun _u t => AT (dC, dI) (TY cI cJ) (va_A (ww_X10 cI cJ q0 m0) sz) (ww_X10 cI cJ q0 m0) t) (va_A (ww_X10 cI cJ q0 m0) sz)) 0 0 (va_A (ww_X10 cI cJ q0 m0) sz) :=
  met_of (own := RX10) (Qf := fun A => va_Qi (S := Unit) (fun (r : Int32) (_u : Unit) => post r) (fun _u t => AT (dC, dI) (TY cI cJ) A (ww_X10 cI cJ q0 m0) t) A) (by decide) rfl (Nat.le_of_ble_eq_true rfl) rfl (fun p e s m below meth c A cx hA ls hP hD hS hl => w_X10_allGiven_0 cx hA  _ _ ls hP hD hS hl h)
theorem mv_X10_allGiven : MV yX10_allGiven cX10_allGiven 3 (some .int) 0 := ⟨⟨kw_1101, kw_11, by decide +kernel⟩, kw_1100, ksel_52⟩
