set_option maxHeartbeats 4000000 in
set_option maxRecDepth 100000 in
theorem w_X10_poorNow_37 {p : Program} {l : Launch} {e : Env} {s : State} {m : MethodId} {args : Array Value} {below : List Frame} {meth : Method} {c : Code} {dC : Nat → ClassId} {dI : Nat → Nat → Nat} {cI cJ : ClassId} {A : Nat → Prop} (cx : CX RX10 cX10_poorNow (some .int) 3 p s m args meth c (dC, dI) (TY cI cJ)) (hA : ∀ q, s.heap.size ≤ q → A q) {q0 : Nat → Nat} {m0 : Mem} {post : Int32 → Prop} {k4 : Int32 → Int32 → Prop} (hk4 : ∀ (x1 : Int32) (x2 : Int32) (H : Heap) (locs : List Loc) (ls : Array Slot), va_P (dC, dI) vwCl (ww_X10 cI cJ q0 m0) H → va_D A (ww_X10 cI cJ q0 m0) → va_S A s.heap H locs → lv_has ls 3 [(0, .ref (q0 0)), (1, .int x1), (2, .int x2)] → k4 x1 x2 → W p l e ({ frames := 1, cells := 0, slots := 0, locals := 24 }) s m args below meth c H locs 0 0 (MQ below (va_Qi (S := Unit) (fun (r : Int32) (_u : Unit) => post r) (fun _u t => AT (dC, dI) (TY cI cJ) A (ww_X10 cI cJ q0 m0) t) A) args s 0 0 A) (F0 m 4 ls [])) : ∀ (x2 : Int32) (z0 : Int32) (H : Heap) (locs : List Loc) (ls : Array Slot), va_P (dC, dI) vwCl (ww_X10 cI cJ q0 m0) H → va_D A (ww_X10 cI cJ q0 m0) → va_S A s.heap H locs → lv_has ls 3 [(0, .ref (q0 0)), (2, .int x2)] → b_X10_poorNow_37 m0 post k4 x2 z0 → W p l e ({ frames := 1, cells := 0, slots := 0, locals := 24 }) s m args below meth c H locs 0 0 (MQ below (va_Qi (S := Unit) (fun (r : Int32) (_u : Unit) => post r) (fun _u t => AT (dC, dI) (TY cI cJ) A (ww_X10 cI cJ q0 m0) t) A) args s 0 0 A) (F0 m 37 ls [.int z0]) := by
  obtain ⟨hx, hb, hr, hml, hown, hts, hlocks, hK⟩ := id cx
  have cx' : CX RX10 cX10_poorNow (meth.sig.returnType) 3 p s m args meth c (dC, dI) (TY cI cJ) := ⟨hx, hb, rfl, hml, hown, hts, hlocks, hK⟩
  intro x2 z0 H locs ls hP hD hS hl h
  unfold b_X10_poorNow_37 at h
  refine lv_istore_n (lv' := [(1, .int z0), (0, .ref (q0 0)), (2, .int x2)]) hx hb dX10_poorNow_37 rfl hl (by decide) rfl (fun ls hl => ?_)
  obtain ⟨x2_1, ex2_1⟩ : ∃ z : Int32, z = x2 + 1 := ⟨_, rfl⟩
  have h := h x2_1 ex2_1
  refine lv_iinc (v := x2_1) (lv' := [(2, .int x2_1), (1, .int z0), (0, .ref (q0 0))]) hx hb dX10_poorNow_38 hl (k := 2) rfl (by rw [ex2_1]; rfl) (by decide) rfl (fun ls hl => ?_)
  refine lv_goto (tgt := 4) hx hb dX10_poorNow_41 (by decide) ?_
  exact hk4 z0 x2_1 H locs ls hP hD hS (lv_sub hl [2, 1, 0] rfl) h
set_option maxHeartbeats 4000000 in
set_option maxRecDepth 100000 in
theorem w_X10_poorNow_32 {p : Program} {l : Launch} {e : Env} {s : State} {m : MethodId} {args : Array Value} {below : List Frame} {meth : Method} {c : Code} {dC : Nat → ClassId} {dI : Nat → Nat → Nat} {cI cJ : ClassId} {A : Nat → Prop} (cx : CX RX10 cX10_poorNow (some .int) 3 p s m args meth c (dC, dI) (TY cI cJ)) (hA : ∀ q, s.heap.size ≤ q → A q) {q0 : Nat → Nat} {m0 : Mem} {post : Int32 → Prop} {k4 : Int32 → Int32 → Prop} (hk4 : ∀ (x1 : Int32) (x2 : Int32) (H : Heap) (locs : List Loc) (ls : Array Slot), va_P (dC, dI) vwCl (ww_X10 cI cJ q0 m0) H → va_D A (ww_X10 cI cJ q0 m0) → va_S A s.heap H locs → lv_has ls 3 [(0, .ref (q0 0)), (1, .int x1), (2, .int x2)] → k4 x1 x2 → W p l e ({ frames := 1, cells := 0, slots := 0, locals := 24 }) s m args below meth c H locs 0 0 (MQ below (va_Qi (S := Unit) (fun (r : Int32) (_u : Unit) => post r) (fun _u t => AT (dC, dI) (TY cI cJ) A (ww_X10 cI cJ q0 m0) t) A) args s 0 0 A) (F0 m 4 ls [])) : ∀ (x2 : Int32) (H : Heap) (locs : List Loc) (ls : Array Slot), va_P (dC, dI) vwCl (ww_X10 cI cJ q0 m0) H → va_D A (ww_X10 cI cJ q0 m0) → va_S A s.heap H locs → lv_has ls 3 [(0, .ref (q0 0)), (2, .int x2)] → b_X10_poorNow_32 m0 post k4 x2 → W p l e ({ frames := 1, cells := 0, slots := 0, locals := 24 }) s m args below meth c H locs 0 0 (MQ below (va_Qi (S := Unit) (fun (r : Int32) (_u : Unit) => post r) (fun _u t => AT (dC, dI) (TY cI cJ) A (ww_X10 cI cJ q0 m0) t) A) args s 0 0 A) (F0 m 32 ls []) := by
  obtain ⟨hx, hb, hr, hml, hown, hts, hlocks, hK⟩ := id cx
  have cx' : CX RX10 cX10_poorNow (meth.sig.returnType) 3 p s m args meth c (dC, dI) (TY cI cJ) := ⟨hx, hb, rfl, hml, hown, hts, hlocks, hK⟩
  intro x2 H locs ls hP hD hS hl h
  unfold b_X10_poorNow_32 at h
  refine lv_iload_n hx hb dX10_poorNow_32 rfl (lv_at hl 1 rfl) ?_
  refine lv_goto (tgt := 37) hx hb dX10_poorNow_33 (by decide) ?_
  exact w_X10_poorNow_37 cx hA hk4 x2 x2 H locs ls hP hD hS (lv_sub hl [0, 1] rfl) h
set_option maxHeartbeats 4000000 in
set_option maxRecDepth 100000 in
theorem w_X10_poorNow_4 {p : Program} {l : Launch} {e : Env} {s : State} {m : MethodId} {args : Array Value} {below : List Frame} {meth : Method} {c : Code} {dC : Nat → ClassId} {dI : Nat → Nat → Nat} {cI cJ : ClassId} {A : Nat → Prop} (cx : CX RX10 cX10_poorNow (some .int) 3 p s m args meth c (dC, dI) (TY cI cJ)) (hA : ∀ q, s.heap.size ≤ q → A q) {q0 : Nat → Nat} {m0 : Mem} {post : Int32 → Prop} : ∀ (n : Nat) (x1 : Int32) (x2 : Int32) (H : Heap) (locs : List Loc) (ls : Array Slot), va_P (dC, dI) vwCl (ww_X10 cI cJ q0 m0) H → va_D A (ww_X10 cI cJ q0 m0) → va_S A s.heap H locs → lv_has ls 3 [(0, .ref (q0 0)), (1, .int x1), (2, .int x2)] → b_X10_poorNow_4 m0 post n x1 x2 → W p l e ({ frames := 1, cells := 0, slots := 0, locals := 24 }) s m args below meth c H locs 0 0 (MQ below (va_Qi (S := Unit) (fun (r : Int32) (_u : Unit) => post r) (fun _u t => AT (dC, dI) (TY cI cJ) A (ww_X10 cI cJ q0 m0) t) A) args s 0 0 A) (F0 m 4 ls []) := by
  obtain ⟨hx, hb, hr, hml, hown, hts, hlocks, hK⟩ := id cx
  have cx' : CX RX10 cX10_poorNow (meth.sig.returnType) 3 p s m args meth c (dC, dI) (TY cI cJ) := ⟨hx, hb, rfl, hml, hown, hts, hlocks, hK⟩
  intro n
  induction n with
  | zero =>
    intro x1 x2 H locs ls hP hD hS hl h
    exact False.elim h
  | succ n ih =>
    intro x1 x2 H locs ls hP hD hS hl h
    unfold b_X10_poorNow_4 at h
    refine lv_iload_n hx hb dX10_poorNow_4 rfl (lv_at hl 2 rfl) ?_
    refine lv_aload_n hx hb dX10_poorNow_5 rfl (lv_at hl 0 rfl) ?_
    refine gf_v (k := 7) (v := .int (m0 0 7)) cx' hP 0 i_X10 rfl rfl (by decide) kw_722 rfl rfl dX10_poorNow_6 ?_
    refine lv_icmp_ge (tgt := 44) hx hb dX10_poorNow_9 (by decide) (fun c_1 => ?_) (fun c_1 => ?_)
    · have h := h.1 c_1
      refine lv_iload_n hx hb dX10_poorNow_44 rfl (lv_at hl 1 rfl) ?_
      exact rt_i (v := x1) (u := ()) cx hP hD hS h dX10_poorNow_45
    have h := h.2 c_1
    refine lv_iload_n hx hb dX10_poorNow_12 rfl (lv_at hl 1 rfl) ?_
    refine lv_iconst (v := (-1)) hx hb dX10_poorNow_13 (by decide) ?_
    refine lv_icmp_eq (tgt := 32) hx hb dX10_poorNow_14 (by decide) (fun c_2 => ?_) (fun c_2 => ?_)
    · have h := h.1 c_2
      exact w_X10_poorNow_32 cx hA ih x2 H locs ls hP hD hS (lv_sub hl [0, 2] rfl) h
    have h := h.2 c_2
    refine lv_aload_n hx hb dX10_poorNow_17 rfl (lv_at hl 0 rfl) ?_
    refine lv_iload_n hx hb dX10_poorNow_18 rfl (lv_at hl 2 rfl) ?_
    refine lv_iconst (v := 0) hx hb dX10_poorNow_19 (by decide) ?_
    refine call_i (run_V (As := [.int x2, .int 0]) (rest := []) cx' (c_X10_allBy l H.size q0 m0 x2 0 _ h) mv_X10_allBy kw_942 rfl rfl ⟨Nat.le_of_ble_eq_true rfl, Nat.le_of_ble_eq_true rfl⟩ hP hD rfl rfl rfl hl.1 rfl (Nat.le_of_ble_eq_true rfl) dX10_poorNow_20 ⟨Nat.zero_le _, Nat.zero_le _⟩) hD hS hA (fun r_3 u9 H locs hP hD hS h => ?_)
    have hP : va_P (dC, dI) vwCl (ww_X10 cI cJ q0 m0) H := hP
    have hD : va_D A (ww_X10 cI cJ q0 m0) := hD
    refine lv_aload_n hx hb dX10_poorNow_23 rfl (lv_at hl 0 rfl) ?_
    refine lv_iload_n hx hb dX10_poorNow_24 rfl (lv_at hl 1 rfl) ?_
    refine lv_iconst (v := 0) hx hb dX10_poorNow_25 (by decide) ?_
    refine call_i (run_V (As := [.int x1, .int 0]) (rest := [.int r_3]) cx' (c_X10_allBy l H.size q0 m0 x1 0 _ h) mv_X10_allBy kw_942 rfl rfl ⟨Nat.le_of_ble_eq_true rfl, Nat.le_of_ble_eq_true rfl⟩ hP hD rfl rfl rfl hl.1 rfl (Nat.le_of_ble_eq_true rfl) dX10_poorNow_26 ⟨Nat.zero_le _, Nat.zero_le _⟩) hD hS hA (fun r_4 u9 H locs hP hD hS h => ?_)
    have hP : va_P (dC, dI) vwCl (ww_X10 cI cJ q0 m0) H := hP
    have hD : va_D A (ww_X10 cI cJ q0 m0) := hD
    refine lv_icmp_le (tgt := 36) hx hb dX10_poorNow_29 (by decide) (fun c_5 => ?_) (fun c_5 => ?_)
    · have h := h.1 c_5
      refine lv_iload_n hx hb dX10_poorNow_36 rfl (lv_at hl 1 rfl) ?_
      exact w_X10_poorNow_37 cx hA ih x2 x1 H locs ls hP hD hS (lv_sub hl [0, 2] rfl) h
    have h := h.2 c_5
    exact w_X10_poorNow_32 cx hA ih x2 H locs ls hP hD hS (lv_sub hl [0, 2] rfl) h
set_option maxHeartbeats 4000000 in
set_option maxRecDepth 100000 in
theorem w_X10_poorNow_0 {p : Program} {l : Launch} {e : Env} {s : State} {m : MethodId} {args : Array Value} {below : List Frame} {meth : Method} {c : Code} {dC : Nat → ClassId} {dI : Nat → Nat → Nat} {cI cJ : ClassId} {A : Nat → Prop} (cx : CX RX10 cX10_poorNow (some .int) 3 p s m args meth c (dC, dI) (TY cI cJ)) (hA : ∀ q, s.heap.size ≤ q → A q) {q0 : Nat → Nat} {m0 : Mem} {post : Int32 → Prop} : ∀  (H : Heap) (locs : List Loc) (ls : Array Slot), va_P (dC, dI) vwCl (ww_X10 cI cJ q0 m0) H → va_D A (ww_X10 cI cJ q0 m0) → va_S A s.heap H locs → lv_has ls 3 [(0, .ref (q0 0))] → b_X10_poorNow_0 m0 post  → W p l e ({ frames := 1, cells := 0, slots := 0, locals := 24 }) s m args below meth c H locs 0 0 (MQ below (va_Qi (S := Unit) (fun (r : Int32) (_u : Unit) => post r) (fun _u t => AT (dC, dI) (TY cI cJ) A (ww_X10 cI cJ q0 m0) t) A) args s 0 0 A) (F0 m 0 ls []) := by
  obtain ⟨hx, hb, hr, hml, hown, hts, hlocks, hK⟩ := id cx
  have cx' : CX RX10 cX10_poorNow (meth.sig.returnType) 3 p s m args meth c (dC, dI) (TY cI cJ) := ⟨hx, hb, rfl, hml, hown, hts, hlocks, hK⟩
  intro H locs ls hP hD hS hl h
  unfold b_X10_poorNow_0 at h
  refine lv_iconst (v := (-1)) hx hb dX10_poorNow_0 (by decide) ?_
  refine lv_istore_n (lv' := [(1, .int (-1)), (0, .ref (q0 0))]) hx hb dX10_poorNow_1 rfl hl (by decide) rfl (fun ls hl => ?_)
  refine lv_iconst (v := 0) hx hb dX10_poorNow_2 (by decide) ?_
  refine lv_istore_n (lv' := [(2, .int 0), (1, .int (-1)), (0, .ref (q0 0))]) hx hb dX10_poorNow_3 rfl hl (by decide) rfl (fun ls hl => ?_)
  obtain ⟨n_1, h⟩ := h
  exact w_X10_poorNow_4 cx hA n_1 (-1) 0 H locs ls hP hD hS (lv_sub hl [2, 1, 0] rfl) h
set_option maxRecDepth 100000 in
theorem c_X10_poorNow (l : Launch) {dC : Nat → ClassId} {dI : Nat → Nat → Nat} {cI cJ : ClassId} (sz : Nat) (q0 : Nat → Nat) (m0 : Mem) (post : Int32 → Prop) (h : wp_X10_poorNow m0 post) : Met l yX10_poorNow (Cond.code yX10_poorNow cX10_poorNow 3 (some .int) :: gt) ({ frames := 1, cells := 0, slots := 0, locals := 24 }) (va_Pc [.ref (q0 0)] (PRE (dC, dI) (TY cI cJ) (ww_X10 cI cJ q0 m0) sz)) (va_Qi (S := Unit) (fun (r : Int32) (_u : Unit) => post r) (fun _u t => AT (dC, dI) (TY cI cJ) (va_A (ww_X10 cI cJ q0 m0) sz) (ww_X10 cI cJ q0 m0) t) (va_A (ww_X10 cI cJ q0 m0) sz)) 0 0 (va_A (ww_X10 cI cJ q0 m0) sz) :=
  met_of (own := RX10) (Qf := fun A => va_Qi (S := Unit) (fun (r : Int32) (_u : Unit) => post r) (fun _u t => AT (dC, dI) (TY cI cJ) A (ww_X10 cI cJ q0 m0) t) A) (by decide) rfl (Nat.le_of_ble_eq_true rfl) rfl (fun p e s m below meth c A cx hA ls hP hD hS hl => w_X10_poorNow_0 cx hA  _ _ ls hP hD hS hl h)
theorem mv_X10_poorNow : MV yX10_poorNow cX10_poorNow 3 (some .int) 0 := ⟨⟨kw_961, kw_11, by decide +kernel⟩, kw_960, ksel_35⟩
set_option maxHeartbeats 4000000 in
set_option maxRecDepth 100000 in
theorem w_X10_poor_0 {p : Program} {l : Launch} {e : Env} {s : State} {m : MethodId} {args : Array Value} {below : List Frame} {meth : Method} {c : Code} {dC : Nat → ClassId} {dI : Nat → Nat → Nat} {cI cJ : ClassId} {A : Nat → Prop} (cx : CX RX10 cX10_poor (some .int) 1 p s m args meth c (dC, dI) (TY cI cJ)) (hA : ∀ q, s.heap.size ≤ q → A q) {q0 : Nat → Nat} {post : Int32 → Mem → Prop} : ∀ (m0 : Mem) (H : Heap) (locs : List Loc) (ls : Array Slot), va_P (dC, dI) vwCl (ww_X10 cI cJ q0 m0) H → va_D A (ww_X10 cI cJ q0 m0) → va_S A s.heap H locs → lv_has ls 1 [(0, .ref (q0 0))] → b_X10_poor_0 post m0 → W p l e ({ frames := 6, cells := 0, slots := 0, locals := 132 }) s m args below meth c H locs 0 0 (MQ below (va_Qi (S := Mem) (fun (r : Int32) (u : Mem) => post r u) (fun u t => AT (dC, dI) (TY cI cJ) A (ww_X10 cI cJ q0 u) t) A) args s 0 0 A) (F0 m 0 ls []) := by
  obtain ⟨hx, hb, hr, hml, hown, hts, hlocks, hK⟩ := id cx
  have cx' : CX RX10 cX10_poor (meth.sig.returnType) 1 p s m args meth c (dC, dI) (TY cI cJ) := ⟨hx, hb, rfl, hml, hown, hts, hlocks, hK⟩
  intro m0 H locs ls hP hD hS hl h
  unfold b_X10_poor_0 at h
  refine lv_aload_n hx hb dX10_poor_0 rfl (lv_at hl 0 rfl) ?_
  refine call_v (run_V (As := []) (rest := []) cx' (c_X10_find l H.size q0 m0 _ h) mv_X10_find kw_906 rfl rfl ⟨Nat.le_of_ble_eq_true rfl, Nat.le_of_ble_eq_true rfl⟩ hP hD rfl rfl rfl hl.1 rfl (Nat.le_of_ble_eq_true rfl) dX10_poor_1 ⟨Nat.zero_le _, Nat.zero_le _⟩) hD hS hA (fun u9 H locs hP hD hS h => ?_)
  obtain ⟨m0_1, rfl⟩ : ∃ z, z = u9 := ⟨_, rfl⟩
  have hP : va_P (dC, dI) vwCl (ww_X10 cI cJ q0 m0_1) H := hP
  have hD : va_D A (ww_X10 cI cJ q0 m0_1) := hD
  refine lv_aload_n hx hb dX10_poor_4 rfl (lv_at hl 0 rfl) ?_
  refine call_i (run_V (As := []) (rest := []) cx' (c_X10_poorNow l H.size q0 m0_1 _ h) mv_X10_poorNow kw_958 rfl rfl ⟨Nat.le_of_ble_eq_true rfl, Nat.le_of_ble_eq_true rfl⟩ hP hD rfl rfl rfl hl.1 rfl (Nat.le_of_ble_eq_true rfl) dX10_poor_5 ⟨Nat.zero_le _, Nat.zero_le _⟩) hD hS hA (fun r_2 u9 H locs hP hD hS h => ?_)
  have hP : va_P (dC, dI) vwCl (ww_X10 cI cJ q0 m0_1) H := hP
  have hD : va_D A (ww_X10 cI cJ q0 m0_1) := hD
  exact rt_i (v := r_2) (u := m0_1) cx hP hD hS h dX10_poor_8
set_option maxRecDepth 100000 in
theorem c_X10_poor (l : Launch) {dC : Nat → ClassId} {dI : Nat → Nat → Nat} {cI cJ : ClassId} (sz : Nat) (q0 : Nat → Nat) (m0 : Mem) (post : Int32 → Mem → Prop) (h : wp_X10_poor m0 post) : Met l yX10_poor (Cond.code yX10_poor cX10_poor 1 (some .int) :: gt) ({ frames := 6, cells := 0, slots := 0, locals := 132 }) (va_Pc [.ref (q0 0)] (PRE (dC, dI) (TY cI cJ) (ww_X10 cI cJ q0 m0) sz)) (va_Qi (S := Mem) (fun (r : Int32) (u : Mem) => post r u) (fun u t => AT (dC, dI) (TY cI cJ) (va_A (ww_X10 cI cJ q0 m0) sz) (ww_X10 cI cJ q0 u) t) (va_A (ww_X10 cI cJ q0 m0) sz)) 0 0 (va_A (ww_X10 cI cJ q0 m0) sz) :=
  met_of (own := RX10) (Qf := fun A => va_Qi (S := Mem) (fun (r : Int32) (u : Mem) => post r u) (fun u t => AT (dC, dI) (TY cI cJ) A (ww_X10 cI cJ q0 u) t) A) (by decide) rfl (Nat.le_of_ble_eq_true rfl) rfl (fun p e s m below meth c A cx hA ls hP hD hS hl => w_X10_poor_0 cx hA m0 _ _ ls hP hD hS hl h)
theorem mv_X10_poor : MV yX10_poor cX10_poor 1 (some .int) 0 := ⟨⟨kw_957, kw_11, by decide +kernel⟩, kw_955, kw_956⟩
set_option maxHeartbeats 4000000 in
set_option maxRecDepth 100000 in
theorem w_X10_passedNow_11 {p : Program} {l : Launch} {e : Env} {s : State} {m : MethodId} {args : Array Value} {below : List Frame} {meth : Method} {c : Code} {dC : Nat → ClassId} {dI : Nat → Nat → Nat} {cI cJ : ClassId} {A : Nat → Prop} (cx : CX RX10 cX10_passedNow (some .int) 3 p s m args meth c (dC, dI) (TY cI cJ)) (hA : ∀ q, s.heap.size ≤ q → A q) {q0 : Nat → Nat} {m0 : Mem} {post : Int32 → Prop} : ∀ (n : Nat) (x1 : Int32) (x2 : Int32) (H : Heap) (locs : List Loc) (ls : Array Slot), va_P (dC, dI) vwCl (ww_X10 cI cJ q0 m0) H → va_D A (ww_X10 cI cJ q0 m0) → va_S A s.heap H locs → lv_has ls 3 [(0, .ref (q0 0)), (1, .int x1), (2, .int x2)] → b_X10_passedNow_11 m0 post n x1 x2 → W p l e ({ frames := 0, cells := 0, slots := 0, locals := 0 }) s m args below meth c H locs 0 0 (MQ below (va_Qi (S := Unit) (fun (r : Int32) (_u : Unit) => post r) (fun _u t => AT (dC, dI) (TY cI cJ) A (ww_X10 cI cJ q0 m0) t) A) args s 0 0 A) (F0 m 11 ls []) := by
  obtain ⟨hx, hb, hr, hml, hown, hts, hlocks, hK⟩ := id cx
  have cx' : CX RX10 cX10_passedNow (meth.sig.returnType) 3 p s m args meth c (dC, dI) (TY cI cJ) := ⟨hx, hb, rfl, hml, hown, hts, hlocks, hK⟩
  intro n
  induction n with
  | zero =>
    intro x1 x2 H locs ls hP hD hS hl h
    exact False.elim h
  | succ n ih =>
    intro x1 x2 H locs ls hP hD hS hl h
    unfold b_X10_passedNow_11 at h
    refine lv_iload_n hx hb dX10_passedNow_11 rfl (lv_at hl 2 rfl) ?_
    refine lv_aload_n hx hb dX10_passedNow_12 rfl (lv_at hl 0 rfl) ?_
    refine gf_v (k := 9) (v := .int (m0 0 9)) cx' hP 0 i_X10 rfl rfl (by decide) kw_724 rfl rfl dX10_passedNow_13 ?_
    refine lv_icmp_ge (tgt := 36) hx hb dX10_passedNow_16 (by decide) (fun c_1 => ?_) (fun c_1 => ?_)
    · have h := h.1 c_1
      refine lv_iload_n hx hb dX10_passedNow_36 rfl (lv_at hl 1 rfl) ?_
      exact rt_i (v := x1) (u := ()) cx hP hD hS h dX10_passedNow_37
    have h := h.2 c_1
    refine lv_iload_n hx hb dX10_passedNow_19 rfl (lv_at hl 1 rfl) ?_
    refine lv_aload_n hx hb dX10_passedNow_20 rfl (lv_at hl 0 rfl) ?_
    refine gf_v (k := 17) (v := .ref (q0 15)) cx' hP 0 i_X10 rfl rfl (by decide) kw_732 rfl rfl dX10_passedNow_21 ?_
    refine lv_iload_n hx hb dX10_passedNow_24 rfl (lv_at hl 2 rfl) ?_
    refine va_iald hx hb hK hP 15 0 rfl rfl h.1 dX10_passedNow_25 ?_
    have h := h.2
    refine lv_iconst (v := (-1)) hx hb dX10_passedNow_26 (by decide) ?_
    refine lv_ixor hx hb dX10_passedNow_27 ?_
    refine lv_iand hx hb dX10_passedNow_28 ?_
    refine lv_topi (fun x1_2 ex1_2 => ?_)
    have h := h x1_2 ex1_2
    refine lv_istore_n (lv' := [(1, .int x1_2), (0, .ref (q0 0)), (2, .int x2)]) hx hb dX10_passedNow_29 rfl hl (by decide) rfl (fun ls hl => ?_)
    obtain ⟨x2_3, ex2_3⟩ : ∃ z : Int32, z = x2 + 1 := ⟨_, rfl⟩
    have h := h x2_3 ex2_3
    refine lv_iinc (v := x2_3) (lv' := [(2, .int x2_3), (1, .int x1_2), (0, .ref (q0 0))]) hx hb dX10_passedNow_30 hl (k := 2) rfl (by rw [ex2_3]; rfl) (by decide) rfl (fun ls hl => ?_)
    refine lv_goto (tgt := 11) hx hb dX10_passedNow_33 (by decide) ?_
    exact ih x1_2 x2_3 H locs ls hP hD hS (lv_sub hl [2, 1, 0] rfl) h
set_option maxHeartbeats 4000000 in
set_option maxRecDepth 100000 in
theorem w_X10_passedNow_0 {p : Program} {l : Launch} {e : Env} {s : State} {m : MethodId} {args : Array Value} {below : List Frame} {meth : Method} {c : Code} {dC : Nat → ClassId} {dI : Nat → Nat → Nat} {cI cJ : ClassId} {A : Nat → Prop} (cx : CX RX10 cX10_passedNow (some .int) 3 p s m args meth c (dC, dI) (TY cI cJ)) (hA : ∀ q, s.heap.size ≤ q → A q) {q0 : Nat → Nat} {m0 : Mem} {post : Int32 → Prop} : ∀  (H : Heap) (locs : List Loc) (ls : Array Slot), va_P (dC, dI) vwCl (ww_X10 cI cJ q0 m0) H → va_D A (ww_X10 cI cJ q0 m0) → va_S A s.heap H locs → lv_has ls 3 [(0, .ref (q0 0))] → b_X10_passedNow_0 m0 post  → W p l e ({ frames := 0, cells := 0, slots := 0, locals := 0 }) s m args below meth c H locs 0 0 (MQ below (va_Qi (S := Unit) (fun (r : Int32) (_u : Unit) => post r) (fun _u t => AT (dC, dI) (TY cI cJ) A (ww_X10 cI cJ q0 m0) t) A) args s 0 0 A) (F0 m 0 ls []) := by
  obtain ⟨hx, hb, hr, hml, hown, hts, hlocks, hK⟩ := id cx
  have cx' : CX RX10 cX10_passedNow (meth.sig.returnType) 3 p s m args meth c (dC, dI) (TY cI cJ) := ⟨hx, hb, rfl, hml, hown, hts, hlocks, hK⟩
  intro H locs ls hP hD hS hl h
  unfold b_X10_passedNow_0 at h
  refine lv_iconst (v := 1) hx hb dX10_passedNow_0 (by decide) ?_
  refine lv_aload_n hx hb dX10_passedNow_1 rfl (lv_at hl 0 rfl) ?_
  refine gf_v (k := 7) (v := .int (m0 0 7)) cx' hP 0 i_X10 rfl rfl (by decide) kw_722 rfl rfl dX10_passedNow_2 ?_
  refine lv_ishl hx hb dX10_passedNow_5 ?_
  refine lv_iconst (v := 1) hx hb dX10_passedNow_6 (by decide) ?_
  refine lv_isub hx hb dX10_passedNow_7 ?_
  refine lv_topi (fun x1_1 ex1_1 => ?_)
  have h := h x1_1 ex1_1
  refine lv_istore_n (lv' := [(1, .int x1_1), (0, .ref (q0 0))]) hx hb dX10_passedNow_8 rfl hl (by decide) rfl (fun ls hl => ?_)
  refine lv_iconst (v := 0) hx hb dX10_passedNow_9 (by decide) ?_
  refine lv_istore_n (lv' := [(2, .int 0), (1, .int x1_1), (0, .ref (q0 0))]) hx hb dX10_passedNow_10 rfl hl (by decide) rfl (fun ls hl => ?_)
  obtain ⟨n_2, h⟩ := h
  exact w_X10_passedNow_11 cx hA n_2 x1_1 0 H locs ls hP hD hS (lv_sub hl [2, 1, 0] rfl) h
set_option maxRecDepth 100000 in
theorem c_X10_passedNow (l : Launch) {dC : Nat → ClassId} {dI : Nat → Nat → Nat} {cI cJ : ClassId} (sz : Nat) (q0 : Nat → Nat) (m0 : Mem) (post : Int32 → Prop) (h : wp_X10_passedNow m0 post) : Met l yX10_passedNow (Cond.code yX10_passedNow cX10_passedNow 3 (some .int) :: gt) ({ frames := 0, cells := 0, slots := 0, locals := 0 }) (va_Pc [.ref (q0 0)] (PRE (dC, dI) (TY cI cJ) (ww_X10 cI cJ q0 m0) sz)) (va_Qi (S := Unit) (fun (r : Int32) (_u : Unit) => post r) (fun _u t => AT (dC, dI) (TY cI cJ) (va_A (ww_X10 cI cJ q0 m0) sz) (ww_X10 cI cJ q0 m0) t) (va_A (ww_X10 cI cJ q0 m0) sz)) 0 0 (va_A (ww_X10 cI cJ q0 m0) sz) :=
  met_of (own := RX10) (Qf := fun A => va_Qi (S := Unit) (fun (r : Int32) (_u : Unit) => post r) (fun _u t => AT (dC, dI) (TY cI cJ) A (ww_X10 cI cJ q0 m0) t) A) (by decide) rfl (Nat.le_of_ble_eq_true rfl) rfl (fun p e s m below meth c A cx hA ls hP hD hS hl => w_X10_passedNow_0 cx hA  _ _ ls hP hD hS hl h)
theorem mv_X10_passedNow : MV yX10_passedNow cX10_passedNow 3 (some .int) 0 := ⟨⟨kw_969, kw_11, by decide +kernel⟩, kw_968, ksel_36⟩
set_option maxHeartbeats 4000000 in
set_option maxRecDepth 100000 in
theorem w_X10_passed_0 {p : Program} {l : Launch} {e : Env} {s : State} {m : MethodId} {args : Array Value} {below : List Frame} {meth : Method} {c : Code} {dC : Nat → ClassId} {dI : Nat → Nat → Nat} {cI cJ : ClassId} {A : Nat → Prop} (cx : CX RX10 cX10_passed (some .int) 1 p s m args meth c (dC, dI) (TY cI cJ)) (hA : ∀ q, s.heap.size ≤ q → A q) {q0 : Nat → Nat} {post : Int32 → Mem → Prop} : ∀ (m0 : Mem) (H : Heap) (locs : List Loc) (ls : Array Slot), va_P (dC, dI) vwCl (ww_X10 cI cJ q0 m0) H → va_D A (ww_X10 cI cJ q0 m0) → va_S A s.heap H locs → lv_has ls 1 [(0, .ref (q0 0))] → b_X10_passed_0 post m0 → W p l e ({ frames := 6, cells := 0, slots := 0, locals := 132 }) s m args below meth c H locs 0 0 (MQ below (va_Qi (S := Mem) (fun (r : Int32) (u : Mem) => post r u) (fun u t => AT (dC, dI) (TY cI cJ) A (ww_X10 cI cJ q0 u) t) A) args s 0 0 A) (F0 m 0 ls []) := by
  obtain ⟨hx, hb, hr, hml, hown, hts, hlocks, hK⟩ := id cx
  have cx' : CX RX10 cX10_passed (meth.sig.returnType) 1 p s m args meth c (dC, dI) (TY cI cJ) := ⟨hx, hb, rfl, hml, hown, hts, hlocks, hK⟩
  intro m0 H locs ls hP hD hS hl h
  unfold b_X10_passed_0 at h
  refine lv_aload_n hx hb dX10_passed_0 rfl (lv_at hl 0 rfl) ?_
  refine call_v (run_V (As := []) (rest := []) cx' (c_X10_find l H.size q0 m0 _ h) mv_X10_find kw_906 rfl rfl ⟨Nat.le_of_ble_eq_true rfl, Nat.le_of_ble_eq_true rfl⟩ hP hD rfl rfl rfl hl.1 rfl (Nat.le_of_ble_eq_true rfl) dX10_passed_1 ⟨Nat.zero_le _, Nat.zero_le _⟩) hD hS hA (fun u9 H locs hP hD hS h => ?_)
  obtain ⟨m0_1, rfl⟩ : ∃ z, z = u9 := ⟨_, rfl⟩
  have hP : va_P (dC, dI) vwCl (ww_X10 cI cJ q0 m0_1) H := hP
  have hD : va_D A (ww_X10 cI cJ q0 m0_1) := hD
  refine lv_aload_n hx hb dX10_passed_4 rfl (lv_at hl 0 rfl) ?_
  refine call_i (run_V (As := []) (rest := []) cx' (c_X10_passedNow l H.size q0 m0_1 _ h) mv_X10_passedNow kw_966 rfl rfl ⟨Nat.le_of_ble_eq_true rfl, Nat.le_of_ble_eq_true rfl⟩ hP hD rfl rfl rfl hl.1 rfl (Nat.le_of_ble_eq_true rfl) dX10_passed_5 ⟨Nat.zero_le _, Nat.zero_le _⟩) hD hS hA (fun r_2 u9 H locs hP hD hS h => ?_)
  have hP : va_P (dC, dI) vwCl (ww_X10 cI cJ q0 m0_1) H := hP
  have hD : va_D A (ww_X10 cI cJ q0 m0_1) := hD
  exact rt_i (v := r_2) (u := m0_1) cx hP hD hS h dX10_passed_8
set_option maxRecDepth 100000 in
theorem c_X10_passed (l : Launch) {dC : Nat → ClassId} {dI : Nat → Nat → Nat} {cI cJ : ClassId} (sz : Nat) (q0 : Nat → Nat) (m0 : Mem) (post : Int32 → Mem → Prop) (h : wp_X10_passed m0 post) : Met l yX10_passed (Cond.code yX10_passed cX10_passed 1 (some .int) :: gt) ({ frames := 6, cells := 0, slots := 0, locals := 132 }) (va_Pc [.ref (q0 0)] (PRE (dC, dI) (TY cI cJ) (ww_X10 cI cJ q0 m0) sz)) (va_Qi (S := Mem) (fun (r : Int32) (u : Mem) => post r u) (fun u t => AT (dC, dI) (TY cI cJ) (va_A (ww_X10 cI cJ q0 m0) sz) (ww_X10 cI cJ q0 u) t) (va_A (ww_X10 cI cJ q0 m0) sz)) 0 0 (va_A (ww_X10 cI cJ q0 m0) sz) :=
  met_of (own := RX10) (Qf := fun A => va_Qi (S := Mem) (fun (r : Int32) (u : Mem) => post r u) (fun u t => AT (dC, dI) (TY cI cJ) A (ww_X10 cI cJ q0 u) t) A) (by decide) rfl (Nat.le_of_ble_eq_true rfl) rfl (fun p e s m below meth c A cx hA ls hP hD hS hl => w_X10_passed_0 cx hA m0 _ _ ls hP hD hS hl h)
theorem mv_X10_passed : MV yX10_passed cX10_passed 1 (some .int) 0 := ⟨⟨kw_965, kw_11, by decide +kernel⟩, kw_963, kw_964⟩
set_option maxHeartbeats 4000000 in
set_option maxRecDepth 100000 in
theorem w_X10_weighs_48 {p : Program} {l : Launch} {e : Env} {s : State} {m : MethodId} {args : Array Value} {below : List Frame} {meth : Method} {c : Code} {dC : Nat → ClassId} {dI : Nat → Nat → Nat} {cI cJ : ClassId} {A : Nat → Prop} (cx : CX RX10 cX10_weighs none 5 p s m args meth c (dC, dI) (TY cI cJ)) (hA : ∀ q, s.heap.size ≤ q → A q) {q0 : Nat → Nat} {post : Mem → Prop} : ∀ (x2 : Int32) (x3 : Int32) (x4 : Int32) (m0 : Mem) (H : Heap) (locs : List Loc) (ls : Array Slot), va_P (dC, dI) vwCl (ww_X10 cI cJ q0 m0) H → va_D A (ww_X10 cI cJ q0 m0) → va_S A s.heap H locs → lv_has ls 5 [(0, .ref (q0 0)), (2, .int x2), (3, .int x3), (4, .int x4)] → b_X10_weighs_48 post x2 x3 x4 m0 → W p l e ({ frames := 1, cells := 0, slots := 0, locals := 24 }) s m args below meth c H locs 0 0 (MQ below (va_Qv (S := Mem) (fun (u : Mem) => post u) (fun u t => AT (dC, dI) (TY cI cJ) A (ww_X10 cI cJ q0 u) t) A) args s 0 0 A) (F0 m 48 ls []) := by
  obtain ⟨hx, hb, hr, hml, hown, hts, hlocks, hK⟩ := id cx
  have cx' : CX RX10 cX10_weighs (meth.sig.returnType) 5 p s m args meth c (dC, dI) (TY cI cJ) := ⟨hx, hb, rfl, hml, hown, hts, hlocks, hK⟩
  intro x2 x3 x4 m0 H locs ls hP hD hS hl h
  unfold b_X10_weighs_48 at h
  refine lv_aload_n hx hb dX10_weighs_48 rfl (lv_at hl 0 rfl) ?_
  refine lv_iload_n hx hb dX10_weighs_49 rfl (lv_at hl 1 rfl) ?_
  obtain ⟨m0_1, em0_1⟩ : ∃ z : Mem, z = up2 m0 0 18 x2 := ⟨_, rfl⟩
  have h := h m0_1 em0_1
  refine pf_v (k := 18) (tf := .int) cx' hP hD hS 0 (ww_X10 cI cJ q0 m0_1) i_X10 tyX10 tyX10_ok nmX10 rfl rfl (by decide) kw_733 rfl rfl rfl rfl rfl (Nat.le_of_ble_eq_true rfl) dX10_weighs_50 (by subst em0_1; rfl) (fun H locs hP hD hS => ?_)
  refine lv_aload_n hx hb dX10_weighs_53 rfl (lv_at hl 0 rfl) ?_
  refine lv_iload_n hx hb dX10_weighs_54 rfl (lv_at hl 2 rfl) ?_
  obtain ⟨m0_2, em0_2⟩ : ∃ z : Mem, z = up2 m0_1 0 19 x3 := ⟨_, rfl⟩
  have h := h m0_2 em0_2
  refine pf_v (k := 19) (tf := .int) cx' hP hD hS 0 (ww_X10 cI cJ q0 m0_2) i_X10 tyX10 tyX10_ok nmX10 rfl rfl (by decide) kw_734 rfl rfl rfl rfl rfl (Nat.le_of_ble_eq_true rfl) dX10_weighs_55 (by subst em0_2; rfl) (fun H locs hP hD hS => ?_)
  refine lv_aload_n hx hb dX10_weighs_58 rfl (lv_at hl 0 rfl) ?_
  refine lv_iload hx hb dX10_weighs_59 (lv_at hl 3 rfl) ?_
  obtain ⟨m0_3, em0_3⟩ : ∃ z : Mem, z = up2 m0_2 0 20 x4 := ⟨_, rfl⟩
  have h := h m0_3 em0_3
  refine pf_v (k := 20) (tf := .int) cx' hP hD hS 0 (ww_X10 cI cJ q0 m0_3) i_X10 tyX10 tyX10_ok nmX10 rfl rfl (by decide) kw_735 rfl rfl rfl rfl rfl (Nat.le_of_ble_eq_true rfl) dX10_weighs_61 (by subst em0_3; rfl) (fun H locs hP hD hS => ?_)
  exact rt_v (u := m0_3) cx hP hD hS h dX10_weighs_64
set_option maxHeartbeats 4000000 in
set_option maxRecDepth 100000 in
theorem w_X10_weighs_0 {p : Program} {l : Launch} {e : Env} {s : State} {m : MethodId} {args : Array Value} {below : List Frame} {meth : Method} {c : Code} {dC : Nat → ClassId} {dI : Nat → Nat → Nat} {cI cJ : ClassId} {A : Nat → Prop} (cx : CX RX10 cX10_weighs none 5 p s m args meth c (dC, dI) (TY cI cJ)) (hA : ∀ q, s.heap.size ≤ q → A q) {q0 : Nat → Nat} {post : Mem → Prop} : ∀ (x1 : Int32) (x2 : Int32) (m0 : Mem) (H : Heap) (locs : List Loc) (ls : Array Slot), va_P (dC, dI) vwCl (ww_X10 cI cJ q0 m0) H → va_D A (ww_X10 cI cJ q0 m0) → va_S A s.heap H locs → lv_has ls 5 [(0, .ref (q0 0)), (1, .int x1), (2, .int x2)] → b_X10_weighs_0 post x1 x2 m0 → W p l e ({ frames := 1, cells := 0, slots := 0, locals := 24 }) s m args below meth c H locs 0 0 (MQ below (va_Qv (S := Mem) (fun (u : Mem) => post u) (fun u t => AT (dC, dI) (TY cI cJ) A (ww_X10 cI cJ q0 u) t) A) args s 0 0 A) (F0 m 0 ls []) := by
  obtain ⟨hx, hb, hr, hml, hown, hts, hlocks, hK⟩ := id cx
  have cx' : CX RX10 cX10_weighs (meth.sig.returnType) 5 p s m args meth c (dC, dI) (TY cI cJ) := ⟨hx, hb, rfl, hml, hown, hts, hlocks, hK⟩
  intro x1 x2 m0 H locs ls hP hD hS hl h
  unfold b_X10_weighs_0 at h
  refine lv_aload_n hx hb dX10_weighs_0 rfl (lv_at hl 0 rfl) ?_
  refine lv_iload_n hx hb dX10_weighs_1 rfl (lv_at hl 1 rfl) ?_
  refine lv_iconst (v := 0) hx hb dX10_weighs_2 (by decide) ?_
  refine call_i (run_V (As := [.int x1, .int 0]) (rest := []) cx' (c_X10_allBy l H.size q0 m0 x1 0 _ h) mv_X10_allBy kw_942 rfl rfl ⟨Nat.le_of_ble_eq_true rfl, Nat.le_of_ble_eq_true rfl⟩ hP hD rfl rfl rfl hl.1 rfl (Nat.le_of_ble_eq_true rfl) dX10_weighs_3 ⟨Nat.zero_le _, Nat.zero_le _⟩) hD hS hA (fun r_1 u9 H locs hP hD hS h => ?_)
  have hP : va_P (dC, dI) vwCl (ww_X10 cI cJ q0 m0) H := hP
  have hD : va_D A (ww_X10 cI cJ q0 m0) := hD
  refine lv_istore_n (lv' := [(3, .int r_1), (0, .ref (q0 0)), (1, .int x1), (2, .int x2)]) hx hb dX10_weighs_6 rfl hl (by decide) rfl (fun ls hl => ?_)
  refine lv_aload_n hx hb dX10_weighs_7 rfl (lv_at hl 1 rfl) ?_
  refine lv_iload_n hx hb dX10_weighs_8 rfl (lv_at hl 2 rfl) ?_
  refine lv_iconst (v := 1) hx hb dX10_weighs_9 (by decide) ?_
  refine call_i (run_V (As := [.int x1, .int 1]) (rest := []) cx' (c_X10_allBy l H.size q0 m0 x1 1 _ h) mv_X10_allBy kw_942 rfl rfl ⟨Nat.le_of_ble_eq_true rfl, Nat.le_of_ble_eq_true rfl⟩ hP hD rfl rfl rfl hl.1 rfl (Nat.le_of_ble_eq_true rfl) dX10_weighs_10 ⟨Nat.zero_le _, Nat.zero_le _⟩) hD hS hA (fun r_2 u9 H locs hP hD hS h => ?_)
  have hP : va_P (dC, dI) vwCl (ww_X10 cI cJ q0 m0) H := hP
  have hD : va_D A (ww_X10 cI cJ q0 m0) := hD
  refine lv_istore (lv' := [(4, .int r_2), (3, .int r_1), (0, .ref (q0 0)), (1, .int x1), (2, .int x2)]) hx hb dX10_weighs_13 hl (by decide) rfl (fun ls hl => ?_)
  refine lv_aload_n hx hb dX10_weighs_15 rfl (lv_at hl 2 rfl) ?_
  refine gf_v (k := 18) (v := .int (m0 0 18)) cx' hP 0 i_X10 rfl rfl (by decide) kw_733 rfl rfl dX10_weighs_16 ?_
  refine lv_iconst (v := (-1)) hx hb dX10_weighs_19 (by decide) ?_
  refine lv_icmp_eq (tgt := 48) hx hb dX10_weighs_20 (by decide) (fun c_3 => ?_) (fun c_3 => ?_)
  · have h := h.1 c_3
    exact w_X10_weighs_48 cx hA x2 r_1 r_2 m0 H locs ls hP hD hS (lv_sub hl [2, 4, 1, 0] rfl) h
  have h := h.2 c_3
  refine lv_iload_n hx hb dX10_weighs_23 rfl (lv_at hl 1 rfl) ?_
  refine lv_aload_n hx hb dX10_weighs_24 rfl (lv_at hl 2 rfl) ?_
  refine gf_v (k := 19) (v := .int (m0 0 19)) cx' hP 0 i_X10 rfl rfl (by decide) kw_734 rfl rfl dX10_weighs_25 ?_
  refine lv_icmp_lt (tgt := 48) hx hb dX10_weighs_28 (by decide) (fun c_4 => ?_) (fun c_4 => ?_)
  · have h := h.1 c_4
    exact w_X10_weighs_48 cx hA x2 r_1 r_2 m0 H locs ls hP hD hS (lv_sub hl [2, 4, 1, 0] rfl) h
  have h := h.2 c_4
  refine lv_iload_n hx hb dX10_weighs_31 rfl (lv_at hl 1 rfl) ?_
  refine lv_aload_n hx hb dX10_weighs_32 rfl (lv_at hl 2 rfl) ?_
  refine gf_v (k := 19) (v := .int (m0 0 19)) cx' hP 0 i_X10 rfl rfl (by decide) kw_734 rfl rfl dX10_weighs_33 ?_
  refine lv_icmp_ne (tgt := 64) hx hb dX10_weighs_36 (by decide) (fun c_5 => ?_) (fun c_5 => ?_)
  · have h := h.1 c_5
    exact rt_v (u := m0) cx hP hD hS h dX10_weighs_64
  have h := h.2 c_5
  refine lv_iload hx hb dX10_weighs_39 (lv_at hl 0 rfl) ?_
  refine lv_aload_n hx hb dX10_weighs_41 rfl (lv_at hl 2 rfl) ?_
  refine gf_v (k := 20) (v := .int (m0 0 20)) cx' hP 0 i_X10 rfl rfl (by decide) kw_735 rfl rfl dX10_weighs_42 ?_
  refine lv_icmp_le (tgt := 64) hx hb dX10_weighs_45 (by decide) (fun c_6 => ?_) (fun c_6 => ?_)
  · have h := h.1 c_6
    exact rt_v (u := m0) cx hP hD hS h dX10_weighs_64
  have h := h.2 c_6
  exact w_X10_weighs_48 cx hA x2 r_1 r_2 m0 H locs ls hP hD hS (lv_sub hl [2, 4, 1, 0] rfl) h
set_option maxRecDepth 100000 in
theorem c_X10_weighs (l : Launch) {dC : Nat → ClassId} {dI : Nat → Nat → Nat} {cI cJ : ClassId} (sz : Nat) (q0 : Nat → Nat) (m0 : Mem) (x1 : Int32) (x2 : Int32) (post : Mem → Prop) (h : wp_X10_weighs m0 x1 x2 post) : Met l yX10_weighs (Cond.code yX10_weighs cX10_weighs 5 none :: gt) ({ frames := 1, cells := 0, slots := 0, locals := 24 }) (va_Pc [.ref (q0 0), .int x1, .int x2] (PRE (dC, dI) (TY cI cJ) (ww_X10 cI cJ q0 m0) sz)) (va_Qv (S := Mem) (fun (u : Mem) => post u) (fun u t => AT (dC, dI) (TY cI cJ) (va_A (ww_X10 cI cJ q0 m0) sz) (ww_X10 cI cJ q0 u) t) (va_A (ww_X10 cI cJ q0 m0) sz)) 0 0 (va_A (ww_X10 cI cJ q0 m0) sz) :=
  met_of (own := RX10) (Qf := fun A => va_Qv (S := Mem) (fun (u : Mem) => post u) (fun u t => AT (dC, dI) (TY cI cJ) A (ww_X10 cI cJ q0 u) t) A) (by decide) rfl (Nat.le_of_ble_eq_true rfl) rfl (fun p e s m below meth c A cx hA ls hP hD hS hl => w_X10_weighs_0 cx hA x1 x2 m0 _ _ ls hP hD hS hl h)
theorem mv_X10_weighs : MV yX10_weighs cX10_weighs 5 none 2 := ⟨⟨kw_985, kw_11, by decide +kernel⟩, kw_984, ksel_39⟩
set_option maxHeartbeats 4000000 in
set_option maxRecDepth 100000 in
theorem w_X10_livesAt_56 {p : Program} {l : Launch} {e : Env} {s : State} {m : MethodId} {args : Array Value} {below : List Frame} {meth : Method} {c : Code} {dC : Nat → ClassId} {dI : Nat → Nat → Nat} {cI cJ : ClassId} {A : Nat → Prop} (cx : CX RX10 cX10_livesAt none 6 p s m args meth c (dC, dI) (TY cI cJ)) (hA : ∀ q, s.heap.size ≤ q → A q) {q0 : Nat → Nat} {post : Mem → Prop} {k5 : Int32 → Int32 → Int32 → Int32 → Mem → Prop} (hk5 : ∀ (x1 : Int32) (x2 : Int32) (x3 : Int32) (x4 : Int32) (m0 : Mem) (H : Heap) (locs : List Loc) (ls : Array Slot), va_P (dC, dI) vwCl (ww_X10 cI cJ q0 m0) H → va_D A (ww_X10 cI cJ q0 m0) → va_S A s.heap H locs → lv_has ls 6 [(0, .ref (q0 0)), (1, .int x1), (2, .int x2), (3, .int x3), (4, .int x4)] → k5 x1 x2 x3 x4 m0 → W p l e ({ frames := 0, cells := 0, slots := 0, locals := 0 }) s m args below meth c H locs 0 0 (MQ below (va_Qv (S := Mem) (fun (u : Mem) => post u) (fun u t => AT (dC, dI) (TY cI cJ) A (ww_X10 cI cJ q0 u) t) A) args s 0 0 A) (F0 m 5 ls [])) : ∀ (x1 : Int32) (x2 : Int32) (x4 : Int32) (z0 : Int32) (z1 : Int32) (m0 : Mem) (H : Heap) (locs : List Loc) (ls : Array Slot), va_P (dC, dI) vwCl (ww_X10 cI cJ q0 m0) H → va_D A (ww_X10 cI cJ q0 m0) → va_S A s.heap H locs → lv_has ls 6 [(0, .ref (q0 0)), (1, .int x1), (2, .int x2), (4, .int x4)] → b_X10_livesAt_56 post k5 x1 x2 x4 z0 z1 m0 → W p l e ({ frames := 0, cells := 0, slots := 0, locals := 0 }) s m args below meth c H locs 0 0 (MQ below (va_Qv (S := Mem) (fun (u : Mem) => post u) (fun u t => AT (dC, dI) (TY cI cJ) A (ww_X10 cI cJ q0 u) t) A) args s 0 0 A) (F0 m 56 ls [.int z0, .int z1]) := by
  obtain ⟨hx, hb, hr, hml, hown, hts, hlocks, hK⟩ := id cx
  have cx' : CX RX10 cX10_livesAt (meth.sig.returnType) 6 p s m args meth c (dC, dI) (TY cI cJ) := ⟨hx, hb, rfl, hml, hown, hts, hlocks, hK⟩
  intro x1 x2 x4 z0 z1 m0 H locs ls hP hD hS hl h
  unfold b_X10_livesAt_56 at h
  refine lv_iadd hx hb dX10_livesAt_56 ?_
  refine lv_topi (fun x3_1 ex3_1 => ?_)
  have h := h x3_1 ex3_1
  refine lv_istore_n (lv' := [(3, .int x3_1), (0, .ref (q0 0)), (1, .int x1), (2, .int x2), (4, .int x4)]) hx hb dX10_livesAt_57 rfl hl (by decide) rfl (fun ls hl => ?_)
  refine lv_aload_n hx hb dX10_livesAt_58 rfl (lv_at hl 1 rfl) ?_
  refine gf_v (k := 11) (v := .ref (q0 9)) cx' hP 0 i_X10 rfl rfl (by decide) kw_726 rfl rfl dX10_livesAt_59 ?_
  refine lv_iconst (v := 0) hx hb dX10_livesAt_62 (by decide) ?_
  refine va_iald hx hb hK hP 9 0 rfl rfl h.1 dX10_livesAt_63 ?_
  have h := h.2
  refine lv_iconst (v := 1) hx hb dX10_livesAt_64 (by decide) ?_
  refine dia_i (ls := ls) (c0 := (m0 9 (Int32.toNatClampNeg 0)) = 1) (a := ((m0 0 7) - 1) - x3_1) (b := x3_1) (J := 80) (rest := []) (fun K => ?_) (fun v_3 ev_3 => ?_)
  · refine lv_icmp_ne (tgt := 79) hx hb dX10_livesAt_65 (by decide) (fun c_2 => ?_) (fun c_2 => ?_)
    · refine lv_iload_n hx hb dX10_livesAt_79 rfl (lv_at hl 0 rfl) ?_
      exact K _ (Or.inr ⟨c_2, rfl⟩)
    · refine lv_aload_n hx hb dX10_livesAt_68 rfl (lv_at hl 1 rfl) ?_
      refine gf_v (k := 7) (v := .int (m0 0 7)) cx' hP 0 i_X10 rfl rfl (by decide) kw_722 rfl rfl dX10_livesAt_69 ?_
      refine lv_iconst (v := 1) hx hb dX10_livesAt_72 (by decide) ?_
      refine lv_isub hx hb dX10_livesAt_73 ?_
      refine lv_iload_n hx hb dX10_livesAt_74 rfl (lv_at hl 0 rfl) ?_
      refine lv_isub hx hb dX10_livesAt_75 ?_
      refine lv_goto (tgt := 80) hx hb dX10_livesAt_76 (by decide) ?_
      exact K _ (Or.inl ⟨c_2, rfl⟩)
  have h := h v_3 ev_3
  refine lv_istore (lv' := [(5, .int v_3), (3, .int x3_1), (0, .ref (q0 0)), (1, .int x1), (2, .int x2), (4, .int x4)]) hx hb dX10_livesAt_80 hl (by decide) rfl (fun ls hl => ?_)
  refine lv_aload_n hx hb dX10_livesAt_82 rfl (lv_at hl 2 rfl) ?_
  refine gf_v (k := 12) (v := .ref (q0 10)) cx' hP 0 i_X10 rfl rfl (by decide) kw_727 rfl rfl dX10_livesAt_83 ?_
  refine lv_iload hx hb dX10_livesAt_86 (lv_at hl 5 rfl) ?_
  refine lv_iload hx hb dX10_livesAt_88 (lv_at hl 5 rfl) ?_
  refine lv_iload_n hx hb dX10_livesAt_90 rfl (lv_at hl 4 rfl) ?_
  refine dia_i (ls := ls) (c0 := x4 = x2) (a := x1) (b := v_3) (J := 100) (rest := [.int x4, .ref (q0 10)]) (fun K => ?_) (fun v_5 ev_5 => ?_)
  · refine lv_icmp_ne (tgt := 98) hx hb dX10_livesAt_91 (by decide) (fun c_4 => ?_) (fun c_4 => ?_)
    · refine lv_iload hx hb dX10_livesAt_98 (lv_at hl 0 rfl) ?_
      exact K _ (Or.inr ⟨c_4, rfl⟩)
    · refine lv_iload_n hx hb dX10_livesAt_94 rfl (lv_at hl 3 rfl) ?_
      refine lv_goto (tgt := 100) hx hb dX10_livesAt_95 (by decide) ?_
      exact K _ (Or.inl ⟨c_4, rfl⟩)
  have h := h v_5 ev_5
  obtain ⟨m0_6, em0_6⟩ : ∃ z : Mem, z = up2 m0 10 (Int32.toNatClampNeg x4) v_5 := ⟨_, rfl⟩
  have h1 := h.1
  have h := h.2 m0_6 em0_6
  refine st_i hx hb hK hP hD hS 10 0 (ww_X10 cI cJ q0 m0_6) rfl rfl h1 dX10_livesAt_100 (by subst em0_6; rfl) (fun H locs hP hD hS => ?_)
  refine lv_iload_n hx hb dX10_livesAt_101 rfl (lv_at hl 1 rfl) ?_
  refine lv_iload hx hb dX10_livesAt_102 (lv_at hl 5 rfl) ?_
  refine lv_iload_n hx hb dX10_livesAt_104 rfl (lv_at hl 4 rfl) ?_
  refine dia_i (ls := ls) (c0 := x4 = x2) (a := 0) (b := 1) (J := 113) (rest := [.int x3_1]) (fun K => ?_) (fun v_8 ev_8 => ?_)
  · refine lv_icmp_ne (tgt := 112) hx hb dX10_livesAt_105 (by decide) (fun c_7 => ?_) (fun c_7 => ?_)
    · refine lv_iconst (v := 1) hx hb dX10_livesAt_112 (by decide) ?_
      exact K _ (Or.inr ⟨c_7, rfl⟩)
    · refine lv_iconst (v := 0) hx hb dX10_livesAt_108 (by decide) ?_
      refine lv_goto (tgt := 113) hx hb dX10_livesAt_109 (by decide) ?_
      exact K _ (Or.inl ⟨c_7, rfl⟩)
  have h := h v_8 ev_8
  refine lv_iadd hx hb dX10_livesAt_113 ?_
  refine lv_topi (fun x3_9 ex3_9 => ?_)
  have h := h x3_9 ex3_9
  refine lv_istore_n (lv' := [(3, .int x3_9), (5, .int v_3), (0, .ref (q0 0)), (1, .int x1), (2, .int x2), (4, .int x4)]) hx hb dX10_livesAt_114 rfl hl (by decide) rfl (fun ls hl => ?_)
  obtain ⟨x4_10, ex4_10⟩ : ∃ z : Int32, z = x4 + 1 := ⟨_, rfl⟩
  have h := h x4_10 ex4_10
  refine lv_iinc (v := x4_10) (lv' := [(4, .int x4_10), (3, .int x3_9), (5, .int v_3), (0, .ref (q0 0)), (1, .int x1), (2, .int x2)]) hx hb dX10_livesAt_115 hl (k := 5) rfl (by rw [ex4_10]; rfl) (by decide) rfl (fun ls hl => ?_)
  refine lv_goto (tgt := 5) hx hb dX10_livesAt_118 (by decide) ?_
  exact hk5 x1 x2 x3_9 x4_10 m0_6 H locs ls hP hD hS (lv_sub hl [3, 4, 5, 1, 0] rfl) h
set_option maxHeartbeats 4000000 in
set_option maxRecDepth 100000 in
theorem w_X10_livesAt_55 {p : Program} {l : Launch} {e : Env} {s : State} {m : MethodId} {args : Array Value} {below : List Frame} {meth : Method} {c : Code} {dC : Nat → ClassId} {dI : Nat → Nat → Nat} {cI cJ : ClassId} {A : Nat → Prop} (cx : CX RX10 cX10_livesAt none 6 p s m args meth c (dC, dI) (TY cI cJ)) (hA : ∀ q, s.heap.size ≤ q → A q) {q0 : Nat → Nat} {post : Mem → Prop} {k5 : Int32 → Int32 → Int32 → Int32 → Mem → Prop} (hk5 : ∀ (x1 : Int32) (x2 : Int32) (x3 : Int32) (x4 : Int32) (m0 : Mem) (H : Heap) (locs : List Loc) (ls : Array Slot), va_P (dC, dI) vwCl (ww_X10 cI cJ q0 m0) H → va_D A (ww_X10 cI cJ q0 m0) → va_S A s.heap H locs → lv_has ls 6 [(0, .ref (q0 0)), (1, .int x1), (2, .int x2), (3, .int x3), (4, .int x4)] → k5 x1 x2 x3 x4 m0 → W p l e ({ frames := 0, cells := 0, slots := 0, locals := 0 }) s m args below meth c H locs 0 0 (MQ below (va_Qv (S := Mem) (fun (u : Mem) => post u) (fun u t => AT (dC, dI) (TY cI cJ) A (ww_X10 cI cJ q0 u) t) A) args s 0 0 A) (F0 m 5 ls [])) : ∀ (x1 : Int32) (x2 : Int32) (x4 : Int32) (z0 : Int32) (m0 : Mem) (H : Heap) (locs : List Loc) (ls : Array Slot), va_P (dC, dI) vwCl (ww_X10 cI cJ q0 m0) H → va_D A (ww_X10 cI cJ q0 m0) → va_S A s.heap H locs → lv_has ls 6 [(0, .ref (q0 0)), (1, .int x1), (2, .int x2), (4, .int x4)] → b_X10_livesAt_55 post k5 x1 x2 x4 z0 m0 → W p l e ({ frames := 0, cells := 0, slots := 0, locals := 0 }) s m args below meth c H locs 0 0 (MQ below (va_Qv (S := Mem) (fun (u : Mem) => post u) (fun u t => AT (dC, dI) (TY cI cJ) A (ww_X10 cI cJ q0 u) t) A) args s 0 0 A) (F0 m 55 ls [.int z0]) := by
  obtain ⟨hx, hb, hr, hml, hown, hts, hlocks, hK⟩ := id cx
  have cx' : CX RX10 cX10_livesAt (meth.sig.returnType) 6 p s m args meth c (dC, dI) (TY cI cJ) := ⟨hx, hb, rfl, hml, hown, hts, hlocks, hK⟩
  intro x1 x2 x4 z0 m0 H locs ls hP hD hS hl h
  unfold b_X10_livesAt_55 at h
  refine lv_iconst (v := 0) hx hb dX10_livesAt_55 (by decide) ?_
  exact w_X10_livesAt_56 cx hA hk5 x1 x2 x4 0 z0 m0 H locs ls hP hD hS (lv_sub hl [0, 1, 2, 3] rfl) h
set_option maxHeartbeats 4000000 in
set_option maxRecDepth 100000 in
theorem w_X10_livesAt_5 {p : Program} {l : Launch} {e : Env} {s : State} {m : MethodId} {args : Array Value} {below : List Frame} {meth : Method} {c : Code} {dC : Nat → ClassId} {dI : Nat → Nat → Nat} {cI cJ : ClassId} {A : Nat → Prop} (cx : CX RX10 cX10_livesAt none 6 p s m args meth c (dC, dI) (TY cI cJ)) (hA : ∀ q, s.heap.size ≤ q → A q) {q0 : Nat → Nat} {post : Mem → Prop} : ∀ (n : Nat) (x1 : Int32) (x2 : Int32) (x3 : Int32) (x4 : Int32) (m0 : Mem) (H : Heap) (locs : List Loc) (ls : Array Slot), va_P (dC, dI) vwCl (ww_X10 cI cJ q0 m0) H → va_D A (ww_X10 cI cJ q0 m0) → va_S A s.heap H locs → lv_has ls 6 [(0, .ref (q0 0)), (1, .int x1), (2, .int x2), (3, .int x3), (4, .int x4)] → b_X10_livesAt_5 post n x1 x2 x3 x4 m0 → W p l e ({ frames := 0, cells := 0, slots := 0, locals := 0 }) s m args below meth c H locs 0 0 (MQ below (va_Qv (S := Mem) (fun (u : Mem) => post u) (fun u t => AT (dC, dI) (TY cI cJ) A (ww_X10 cI cJ q0 u) t) A) args s 0 0 A) (F0 m 5 ls []) := by
  obtain ⟨hx, hb, hr, hml, hown, hts, hlocks, hK⟩ := id cx
  have cx' : CX RX10 cX10_livesAt (meth.sig.returnType) 6 p s m args meth c (dC, dI) (TY cI cJ) := ⟨hx, hb, rfl, hml, hown, hts, hlocks, hK⟩
  intro n
  induction n with
  | zero =>
    intro x1 x2 x3 x4 m0 H locs ls hP hD hS hl h
    exact False.elim h
  | succ n ih =>
    intro x1 x2 x3 x4 m0 H locs ls hP hD hS hl h
    unfold b_X10_livesAt_5 at h
    refine lv_iload hx hb dX10_livesAt_5 (lv_at hl 4 rfl) ?_
    refine lv_aload_n hx hb dX10_livesAt_7 rfl (lv_at hl 0 rfl) ?_
    refine gf_v (k := 7) (v := .int (m0 0 7)) cx' hP 0 i_X10 rfl rfl (by decide) kw_722 rfl rfl dX10_livesAt_8 ?_
    refine lv_icmp_ge (tgt := 121) hx hb dX10_livesAt_11 (by decide) (fun c_1 => ?_) (fun c_1 => ?_)
    · have h := h.1 c_1
      exact rt_v (u := m0) cx hP hD hS h dX10_livesAt_121
    have h := h.2 c_1
    refine lv_aload_n hx hb dX10_livesAt_14 rfl (lv_at hl 0 rfl) ?_
    refine gf_v (k := 11) (v := .ref (q0 9)) cx' hP 0 i_X10 rfl rfl (by decide) kw_726 rfl rfl dX10_livesAt_15 ?_
    refine lv_iconst (v := 0) hx hb dX10_livesAt_18 (by decide) ?_
    refine va_iald hx hb hK hP 9 0 rfl rfl h.1 dX10_livesAt_19 ?_
    have h := h.2
    refine lv_iconst (v := 1) hx hb dX10_livesAt_20 (by decide) ?_
    refine dia_i (ls := ls) (c0 := (m0 9 (Int32.toNatClampNeg 0)) = 1) (a := ((m0 0 7) - 1) - x3) (b := x3) (J := 36) (rest := []) (fun K => ?_) (fun v_3 ev_3 => ?_)
    · refine lv_icmp_ne (tgt := 35) hx hb dX10_livesAt_21 (by decide) (fun c_2 => ?_) (fun c_2 => ?_)
      · refine lv_iload_n hx hb dX10_livesAt_35 rfl (lv_at hl 3 rfl) ?_
        exact K _ (Or.inr ⟨c_2, rfl⟩)
      · refine lv_aload_n hx hb dX10_livesAt_24 rfl (lv_at hl 0 rfl) ?_
        refine gf_v (k := 7) (v := .int (m0 0 7)) cx' hP 0 i_X10 rfl rfl (by decide) kw_722 rfl rfl dX10_livesAt_25 ?_
        refine lv_iconst (v := 1) hx hb dX10_livesAt_28 (by decide) ?_
        refine lv_isub hx hb dX10_livesAt_29 ?_
        refine lv_iload_n hx hb dX10_livesAt_30 rfl (lv_at hl 3 rfl) ?_
        refine lv_isub hx hb dX10_livesAt_31 ?_
        refine lv_goto (tgt := 36) hx hb dX10_livesAt_32 (by decide) ?_
        exact K _ (Or.inl ⟨c_2, rfl⟩)
    have h := h v_3 ev_3
    refine lv_istore (lv' := [(5, .int v_3), (0, .ref (q0 0)), (1, .int x1), (2, .int x2), (3, .int x3), (4, .int x4)]) hx hb dX10_livesAt_36 hl (by decide) rfl (fun ls hl => ?_)
    refine lv_iload_n hx hb dX10_livesAt_38 rfl (lv_at hl 4 rfl) ?_
    refine lv_iload hx hb dX10_livesAt_39 (lv_at hl 5 rfl) ?_
    refine lv_iload_n hx hb dX10_livesAt_41 rfl (lv_at hl 3 rfl) ?_
    refine lv_icmp_eq (tgt := 55) hx hb dX10_livesAt_42 (by decide) (fun c_4 => ?_) (fun c_4 => ?_)
    · have h := h.1 c_4
      exact w_X10_livesAt_55 cx hA ih x1 x2 x4 x3 m0 H locs ls hP hD hS (lv_sub hl [1, 2, 3, 5] rfl) h
    have h := h.2 c_4
    refine lv_iload hx hb dX10_livesAt_45 (lv_at hl 0 rfl) ?_
    refine lv_iload_n hx hb dX10_livesAt_47 rfl (lv_at hl 2 rfl) ?_
    refine lv_icmp_ne (tgt := 55) hx hb dX10_livesAt_48 (by decide) (fun c_5 => ?_) (fun c_5 => ?_)
    · have h := h.1 c_5
      exact w_X10_livesAt_55 cx hA ih x1 x2 x4 x3 m0 H locs ls hP hD hS (lv_sub hl [1, 2, 3, 5] rfl) h
    have h := h.2 c_5
    refine lv_iconst (v := 1) hx hb dX10_livesAt_51 (by decide) ?_
    refine lv_goto (tgt := 56) hx hb dX10_livesAt_52 (by decide) ?_
    exact w_X10_livesAt_56 cx hA ih x1 x2 x4 1 x3 m0 H locs ls hP hD hS (lv_sub hl [1, 2, 3, 5] rfl) h
set_option maxHeartbeats 4000000 in
set_option maxRecDepth 100000 in
theorem w_X10_livesAt_0 {p : Program} {l : Launch} {e : Env} {s : State} {m : MethodId} {args : Array Value} {below : List Frame} {meth : Method} {c : Code} {dC : Nat → ClassId} {dI : Nat → Nat → Nat} {cI cJ : ClassId} {A : Nat → Prop} (cx : CX RX10 cX10_livesAt none 6 p s m args meth c (dC, dI) (TY cI cJ)) (hA : ∀ q, s.heap.size ≤ q → A q) {q0 : Nat → Nat} {post : Mem → Prop} : ∀ (x1 : Int32) (x2 : Int32) (m0 : Mem) (H : Heap) (locs : List Loc) (ls : Array Slot), va_P (dC, dI) vwCl (ww_X10 cI cJ q0 m0) H → va_D A (ww_X10 cI cJ q0 m0) → va_S A s.heap H locs → lv_has ls 6 [(0, .ref (q0 0)), (1, .int x1), (2, .int x2)] → b_X10_livesAt_0 post x1 x2 m0 → W p l e ({ frames := 0, cells := 0, slots := 0, locals := 0 }) s m args below meth c H locs 0 0 (MQ below (va_Qv (S := Mem) (fun (u : Mem) => post u) (fun u t => AT (dC, dI) (TY cI cJ) A (ww_X10 cI cJ q0 u) t) A) args s 0 0 A) (F0 m 0 ls []) := by
  obtain ⟨hx, hb, hr, hml, hown, hts, hlocks, hK⟩ := id cx
  have cx' : CX RX10 cX10_livesAt (meth.sig.returnType) 6 p s m args meth c (dC, dI) (TY cI cJ) := ⟨hx, hb, rfl, hml, hown, hts, hlocks, hK⟩
  intro x1 x2 m0 H locs ls hP hD hS hl h
  unfold b_X10_livesAt_0 at h
  refine lv_iconst (v := 0) hx hb dX10_livesAt_0 (by decide) ?_
  refine lv_istore_n (lv' := [(3, .int 0), (0, .ref (q0 0)), (1, .int x1), (2, .int x2)]) hx hb dX10_livesAt_1 rfl hl (by decide) rfl (fun ls hl => ?_)
  refine lv_iconst (v := 0) hx hb dX10_livesAt_2 (by decide) ?_
  refine lv_istore (lv' := [(4, .int 0), (3, .int 0), (0, .ref (q0 0)), (1, .int x1), (2, .int x2)]) hx hb dX10_livesAt_3 hl (by decide) rfl (fun ls hl => ?_)
  obtain ⟨n_1, h⟩ := h
  exact w_X10_livesAt_5 cx hA n_1 x1 x2 0 0 m0 H locs ls hP hD hS (lv_sub hl [2, 3, 4, 1, 0] rfl) h
set_option maxRecDepth 100000 in
theorem c_X10_livesAt (l : Launch) {dC : Nat → ClassId} {dI : Nat → Nat → Nat} {cI cJ : ClassId} (sz : Nat) (q0 : Nat → Nat) (m0 : Mem) (x1 : Int32) (x2 : Int32) (post : Mem → Prop) (h : wp_X10_livesAt m0 x1 x2 post) : Met l yX10_livesAt (Cond.code yX10_livesAt cX10_livesAt 6 none :: gt) ({ frames := 0, cells := 0, slots := 0, locals := 0 }) (va_Pc [.ref (q0 0), .int x1, .int x2] (PRE (dC, dI) (TY cI cJ) (ww_X10 cI cJ q0 m0) sz)) (va_Qv (S := Mem) (fun (u : Mem) => post u) (fun u t => AT (dC, dI) (TY cI cJ) (va_A (ww_X10 cI cJ q0 m0) sz) (ww_X10 cI cJ q0 u) t) (va_A (ww_X10 cI cJ q0 m0) sz)) 0 0 (va_A (ww_X10 cI cJ q0 m0) sz) :=
  met_of (own := RX10) (Qf := fun A => va_Qv (S := Mem) (fun (u : Mem) => post u) (fun u t => AT (dC, dI) (TY cI cJ) A (ww_X10 cI cJ q0 u) t) A) (by decide) rfl (Nat.le_of_ble_eq_true rfl) rfl (fun p e s m below meth c A cx hA ls hP hD hS hl => w_X10_livesAt_0 cx hA x1 x2 m0 _ _ ls hP hD hS hl h)
theorem mv_X10_livesAt : MV yX10_livesAt cX10_livesAt 6 none 2 := ⟨⟨kw_981, kw_11, by decide +kernel⟩, kw_980, ksel_38⟩
set_option maxHeartbeats 4000000 in
set_option maxRecDepth 100000 in
theorem w_X10_liveOf_7 {p : Program} {l : Launch} {e : Env} {s : State} {m : MethodId} {args : Array Value} {below : List Frame} {meth : Method} {c : Code} {dC : Nat → ClassId} {dI : Nat → Nat → Nat} {cI cJ : ClassId} {A : Nat → Prop} (cx : CX RX10 cX10_liveOf (some .int) 4 p s m args meth c (dC, dI) (TY cI cJ)) (hA : ∀ q, s.heap.size ≤ q → A q) {q0 : Nat → Nat} {post : Int32 → Mem → Prop} : ∀ (n : Nat) (x1 : Int32) (x2 : Int32) (x3 : Int32) (m0 : Mem) (H : Heap) (locs : List Loc) (ls : Array Slot), va_P (dC, dI) vwCl (ww_X10 cI cJ q0 m0) H → va_D A (ww_X10 cI cJ q0 m0) → va_S A s.heap H locs → lv_has ls 4 [(0, .ref (q0 0)), (1, .int x1), (2, .int x2), (3, .int x3)] → b_X10_liveOf_7 post n x1 x2 x3 m0 → W p l e ({ frames := 4, cells := 0, slots := 0, locals := 90 }) s m args below meth c H locs 0 0 (MQ below (va_Qi (S := Mem) (fun (r : Int32) (u : Mem) => post r u) (fun u t => AT (dC, dI) (TY cI cJ) A (ww_X10 cI cJ q0 u) t) A) args s 0 0 A) (F0 m 7 ls []) := by
  obtain ⟨hx, hb, hr, hml, hown, hts, hlocks, hK⟩ := id cx
  have cx' : CX RX10 cX10_liveOf (meth.sig.returnType) 4 p s m args meth c (dC, dI) (TY cI cJ) := ⟨hx, hb, rfl, hml, hown, hts, hlocks, hK⟩
  intro n
  induction n with
  | zero =>
    intro x1 x2 x3 m0 H locs ls hP hD hS hl h
    exact False.elim h
  | succ n ih =>
    intro x1 x2 x3 m0 H locs ls hP hD hS hl h
    unfold b_X10_liveOf_7 at h
    refine lv_iload_n hx hb dX10_liveOf_7 rfl (lv_at hl 3 rfl) ?_
    refine lv_aload_n hx hb dX10_liveOf_8 rfl (lv_at hl 0 rfl) ?_
    refine gf_v (k := 7) (v := .int (m0 0 7)) cx' hP 0 i_X10 rfl rfl (by decide) kw_722 rfl rfl dX10_liveOf_9 ?_
    refine lv_icmp_ge (tgt := 37) hx hb dX10_liveOf_12 (by decide) (fun c_1 => ?_) (fun c_1 => ?_)
    · have h := h.1 c_1
      refine lv_aload_n hx hb dX10_liveOf_37 rfl (lv_at hl 0 rfl) ?_
      refine call_v (run_V (As := []) (rest := []) cx' (c_X10_findRow l H.size q0 m0 _ h) mv_X10_findRow kw_897 rfl rfl ⟨Nat.le_of_ble_eq_true rfl, Nat.le_of_ble_eq_true rfl⟩ hP hD rfl rfl rfl hl.1 rfl (Nat.le_of_ble_eq_true rfl) dX10_liveOf_38 ⟨Nat.zero_le _, Nat.zero_le _⟩) hD hS hA (fun u9 H locs hP hD hS h => ?_)
      obtain ⟨m0_2, rfl⟩ : ∃ z, z = u9 := ⟨_, rfl⟩
      have hP : va_P (dC, dI) vwCl (ww_X10 cI cJ q0 m0_2) H := hP
      have hD : va_D A (ww_X10 cI cJ q0 m0_2) := hD
      refine lv_aload_n hx hb dX10_liveOf_41 rfl (lv_at hl 0 rfl) ?_
      refine call_v (run_V (As := []) (rest := []) cx' (c_X10_feedsAll l H.size q0 m0_2 _ h) mv_X10_feedsAll kw_910 rfl rfl ⟨Nat.le_of_ble_eq_true rfl, Nat.le_of_ble_eq_true rfl⟩ hP hD rfl rfl rfl hl.1 rfl (Nat.le_of_ble_eq_true rfl) dX10_liveOf_42 ⟨Nat.zero_le _, Nat.zero_le _⟩) hD hS hA (fun u9 H locs hP hD hS h => ?_)
      obtain ⟨m0_3, rfl⟩ : ∃ z, z = u9 := ⟨_, rfl⟩
      have hP : va_P (dC, dI) vwCl (ww_X10 cI cJ q0 m0_3) H := hP
      have hD : va_D A (ww_X10 cI cJ q0 m0_3) := hD
      refine lv_iload_n hx hb dX10_liveOf_45 rfl (lv_at hl 2 rfl) ?_
      refine dia_i (ls := ls) (c0 := x2 = 0) (a := m0_3 0 18) (b := m0_3 0 19) (J := 60) (rest := []) (fun K => ?_) (fun v_5 ev_5 => ?_)
      · refine lv_if_ne (tgt := 56) hx hb dX10_liveOf_46 (by decide) (fun c_4 => ?_) (fun c_4 => ?_)
        · refine lv_aload_n hx hb dX10_liveOf_56 rfl (lv_at hl 0 rfl) ?_
          refine gf_v (k := 19) (v := .int (m0_3 0 19)) cx' hP 0 i_X10 rfl rfl (by decide) kw_734 rfl rfl dX10_liveOf_57 ?_
          exact K _ (Or.inr ⟨c_4, rfl⟩)
        · refine lv_aload_n hx hb dX10_liveOf_49 rfl (lv_at hl 0 rfl) ?_
          refine gf_v (k := 18) (v := .int (m0_3 0 18)) cx' hP 0 i_X10 rfl rfl (by decide) kw_733 rfl rfl dX10_liveOf_50 ?_
          refine lv_goto (tgt := 60) hx hb dX10_liveOf_53 (by decide) ?_
          exact K _ (Or.inl ⟨c_4, rfl⟩)
      have h := h v_5 ev_5
      exact rt_i (v := v_5) (u := m0_3) cx hP hD hS h dX10_liveOf_60
    have h := h.2 c_1
    refine lv_aload_n hx hb dX10_liveOf_15 rfl (lv_at hl 0 rfl) ?_
    refine lv_iload_n hx hb dX10_liveOf_16 rfl (lv_at hl 1 rfl) ?_
    refine lv_iload_n hx hb dX10_liveOf_17 rfl (lv_at hl 3 rfl) ?_
    refine call_v (run_V (As := [.int x1, .int x3]) (rest := []) cx' (c_X10_livesAt l H.size q0 m0 x1 x3 _ h) mv_X10_livesAt kw_978 rfl rfl ⟨Nat.le_of_ble_eq_true rfl, Nat.le_of_ble_eq_true rfl⟩ hP hD rfl rfl rfl hl.1 rfl (Nat.le_of_ble_eq_true rfl) dX10_liveOf_18 ⟨Nat.zero_le _, Nat.zero_le _⟩) hD hS hA (fun u9 H locs hP hD hS h => ?_)
    obtain ⟨m0_6, rfl⟩ : ∃ z, z = u9 := ⟨_, rfl⟩
    have hP : va_P (dC, dI) vwCl (ww_X10 cI cJ q0 m0_6) H := hP
    have hD : va_D A (ww_X10 cI cJ q0 m0_6) := hD
    refine lv_aload_n hx hb dX10_liveOf_21 rfl (lv_at hl 0 rfl) ?_
    refine call_v (run_V (As := []) (rest := []) cx' (c_X10_feedsAll l H.size q0 m0_6 _ h) mv_X10_feedsAll kw_910 rfl rfl ⟨Nat.le_of_ble_eq_true rfl, Nat.le_of_ble_eq_true rfl⟩ hP hD rfl rfl rfl hl.1 rfl (Nat.le_of_ble_eq_true rfl) dX10_liveOf_22 ⟨Nat.zero_le _, Nat.zero_le _⟩) hD hS hA (fun u9 H locs hP hD hS h => ?_)
    obtain ⟨m0_7, rfl⟩ : ∃ z, z = u9 := ⟨_, rfl⟩
    have hP : va_P (dC, dI) vwCl (ww_X10 cI cJ q0 m0_7) H := hP
    have hD : va_D A (ww_X10 cI cJ q0 m0_7) := hD
    refine lv_aload_n hx hb dX10_liveOf_25 rfl (lv_at hl 0 rfl) ?_
    refine lv_iload_n hx hb dX10_liveOf_26 rfl (lv_at hl 1 rfl) ?_
    refine lv_iload_n hx hb dX10_liveOf_27 rfl (lv_at hl 3 rfl) ?_
    refine call_v (run_V (As := [.int x1, .int x3]) (rest := []) cx' (c_X10_weighs l H.size q0 m0_7 x1 x3 _ h) mv_X10_weighs kw_982 rfl rfl ⟨Nat.le_of_ble_eq_true rfl, Nat.le_of_ble_eq_true rfl⟩ hP hD rfl rfl rfl hl.1 rfl (Nat.le_of_ble_eq_true rfl) dX10_liveOf_28 ⟨Nat.zero_le _, Nat.zero_le _⟩) hD hS hA (fun u9 H locs hP hD hS h => ?_)
    obtain ⟨m0_8, rfl⟩ : ∃ z, z = u9 := ⟨_, rfl⟩
    have hP : va_P (dC, dI) vwCl (ww_X10 cI cJ q0 m0_8) H := hP
    have hD : va_D A (ww_X10 cI cJ q0 m0_8) := hD
    obtain ⟨x3_9, ex3_9⟩ : ∃ z : Int32, z = x3 + 1 := ⟨_, rfl⟩
    have h := h x3_9 ex3_9
    refine lv_iinc (v := x3_9) (lv' := [(3, .int x3_9), (0, .ref (q0 0)), (1, .int x1), (2, .int x2)]) hx hb dX10_liveOf_31 hl (k := 3) rfl (by rw [ex3_9]; rfl) (by decide) rfl (fun ls hl => ?_)
    refine lv_goto (tgt := 7) hx hb dX10_liveOf_34 (by decide) ?_
    exact ih x1 x2 x3_9 m0_8 H locs ls hP hD hS (lv_sub hl [1, 2, 3, 0] rfl) h
set_option maxHeartbeats 4000000 in
set_option maxRecDepth 100000 in
theorem w_X10_liveOf_0 {p : Program} {l : Launch} {e : Env} {s : State} {m : MethodId} {args : Array Value} {below : List Frame} {meth : Method} {c : Code} {dC : Nat → ClassId} {dI : Nat → Nat → Nat} {cI cJ : ClassId} {A : Nat → Prop} (cx : CX RX10 cX10_liveOf (some .int) 4 p s m args meth c (dC, dI) (TY cI cJ)) (hA : ∀ q, s.heap.size ≤ q → A q) {q0 : Nat → Nat} {post : Int32 → Mem → Prop} : ∀ (x1 : Int32) (x2 : Int32) (m0 : Mem) (H : Heap) (locs : List Loc) (ls : Array Slot), va_P (dC, dI) vwCl (ww_X10 cI cJ q0 m0) H → va_D A (ww_X10 cI cJ q0 m0) → va_S A s.heap H locs → lv_has ls 4 [(0, .ref (q0 0)), (1, .int x1), (2, .int x2)] → b_X10_liveOf_0 post x1 x2 m0 → W p l e ({ frames := 4, cells := 0, slots := 0, locals := 90 }) s m args below meth c H locs 0 0 (MQ below (va_Qi (S := Mem) (fun (r : Int32) (u : Mem) => post r u) (fun u t => AT (dC, dI) (TY cI cJ) A (ww_X10 cI cJ q0 u) t) A) args s 0 0 A) (F0 m 0 ls []) := by
  obtain ⟨hx, hb, hr, hml, hown, hts, hlocks, hK⟩ := id cx
  have cx' : CX RX10 cX10_liveOf (meth.sig.returnType) 4 p s m args meth c (dC, dI) (TY cI cJ) := ⟨hx, hb, rfl, hml, hown, hts, hlocks, hK⟩
  intro x1 x2 m0 H locs ls hP hD hS hl h
  unfold b_X10_liveOf_0 at h
  refine lv_aload_n hx hb dX10_liveOf_0 rfl (lv_at hl 0 rfl) ?_
  refine lv_iconst (v := (-1)) hx hb dX10_liveOf_1 (by decide) ?_
  obtain ⟨m0_1, em0_1⟩ : ∃ z : Mem, z = up2 m0 0 18 (-1) := ⟨_, rfl⟩
  have h := h m0_1 em0_1
  refine pf_v (k := 18) (tf := .int) cx' hP hD hS 0 (ww_X10 cI cJ q0 m0_1) i_X10 tyX10 tyX10_ok nmX10 rfl rfl (by decide) kw_733 rfl rfl rfl rfl rfl (Nat.le_of_ble_eq_true rfl) dX10_liveOf_2 (by subst em0_1; rfl) (fun H locs hP hD hS => ?_)
  refine lv_iconst (v := 0) hx hb dX10_liveOf_5 (by decide) ?_
  refine lv_istore_n (lv' := [(3, .int 0), (0, .ref (q0 0)), (1, .int x1), (2, .int x2)]) hx hb dX10_liveOf_6 rfl hl (by decide) rfl (fun ls hl => ?_)
  obtain ⟨n_2, h⟩ := h
  exact w_X10_liveOf_7 cx hA n_2 x1 x2 0 m0_1 H locs ls hP hD hS (lv_sub hl [1, 2, 3, 0] rfl) h
set_option maxRecDepth 100000 in
theorem c_X10_liveOf (l : Launch) {dC : Nat → ClassId} {dI : Nat → Nat → Nat} {cI cJ : ClassId} (sz : Nat) (q0 : Nat → Nat) (m0 : Mem) (x1 : Int32) (x2 : Int32) (post : Int32 → Mem → Prop) (h : wp_X10_liveOf m0 x1 x2 post) : Met l yX10_liveOf (Cond.code yX10_liveOf cX10_liveOf 4 (some .int) :: gt) ({ frames := 4, cells := 0, slots := 0, locals := 90 }) (va_Pc [.ref (q0 0), .int x1, .int x2] (PRE (dC, dI) (TY cI cJ) (ww_X10 cI cJ q0 m0) sz)) (va_Qi (S := Mem) (fun (r : Int32) (u : Mem) => post r u) (fun u t => AT (dC, dI) (TY cI cJ) (va_A (ww_X10 cI cJ q0 m0) sz) (ww_X10 cI cJ q0 u) t) (va_A (ww_X10 cI cJ q0 m0) sz)) 0 0 (va_A (ww_X10 cI cJ q0 m0) sz) :=
  met_of (own := RX10) (Qf := fun A => va_Qi (S := Mem) (fun (r : Int32) (u : Mem) => post r u) (fun u t => AT (dC, dI) (TY cI cJ) A (ww_X10 cI cJ q0 u) t) A) (by decide) rfl (Nat.le_of_ble_eq_true rfl) rfl (fun p e s m below meth c A cx hA ls hP hD hS hl => w_X10_liveOf_0 cx hA x1 x2 m0 _ _ ls hP hD hS hl h)
theorem mv_X10_liveOf : MV yX10_liveOf cX10_liveOf 4 (some .int) 2 := ⟨⟨kw_977, kw_11, by decide +kernel⟩, kw_976, ksel_37⟩
set_option maxHeartbeats 4000000 in
set_option maxRecDepth 100000 in
theorem w_X10_live_0 {p : Program} {l : Launch} {e : Env} {s : State} {m : MethodId} {args : Array Value} {below : List Frame} {meth : Method} {c : Code} {dC : Nat → ClassId} {dI : Nat → Nat → Nat} {cI cJ : ClassId} {A : Nat → Prop} (cx : CX RX10 cX10_live (some .int) 3 p s m args meth c (dC, dI) (TY cI cJ)) (hA : ∀ q, s.heap.size ≤ q → A q) {q0 : Nat → Nat} {post : Int32 → Mem → Prop} : ∀ (x1 : Int32) (x2 : Int32) (m0 : Mem) (H : Heap) (locs : List Loc) (ls : Array Slot), va_P (dC, dI) vwCl (ww_X10 cI cJ q0 m0) H → va_D A (ww_X10 cI cJ q0 m0) → va_S A s.heap H locs → lv_has ls 3 [(0, .ref (q0 0)), (1, .int x1), (2, .int x2)] → b_X10_live_0 post x1 x2 m0 → W p l e ({ frames := 6, cells := 0, slots := 0, locals := 132 }) s m args below meth c H locs 0 0 (MQ below (va_Qi (S := Mem) (fun (r : Int32) (u : Mem) => post r u) (fun u t => AT (dC, dI) (TY cI cJ) A (ww_X10 cI cJ q0 u) t) A) args s 0 0 A) (F0 m 0 ls []) := by
  obtain ⟨hx, hb, hr, hml, hown, hts, hlocks, hK⟩ := id cx
  have cx' : CX RX10 cX10_live (meth.sig.returnType) 3 p s m args meth c (dC, dI) (TY cI cJ) := ⟨hx, hb, rfl, hml, hown, hts, hlocks, hK⟩
  intro x1 x2 m0 H locs ls hP hD hS hl h
  unfold b_X10_live_0 at h
  refine lv_aload_n hx hb dX10_live_0 rfl (lv_at hl 0 rfl) ?_
  refine call_v (run_V (As := []) (rest := []) cx' (c_X10_find l H.size q0 m0 _ h) mv_X10_find kw_906 rfl rfl ⟨Nat.le_of_ble_eq_true rfl, Nat.le_of_ble_eq_true rfl⟩ hP hD rfl rfl rfl hl.1 rfl (Nat.le_of_ble_eq_true rfl) dX10_live_1 ⟨Nat.zero_le _, Nat.zero_le _⟩) hD hS hA (fun u9 H locs hP hD hS h => ?_)
  obtain ⟨m0_1, rfl⟩ : ∃ z, z = u9 := ⟨_, rfl⟩
  have hP : va_P (dC, dI) vwCl (ww_X10 cI cJ q0 m0_1) H := hP
  have hD : va_D A (ww_X10 cI cJ q0 m0_1) := hD
  refine lv_aload_n hx hb dX10_live_4 rfl (lv_at hl 0 rfl) ?_
  refine lv_iload_n hx hb dX10_live_5 rfl (lv_at hl 1 rfl) ?_
  refine call_i (run_V (As := [.int x1]) (rest := []) cx' (c_X10_isHouse l H.size q0 m0_1 x1 _ h) mv_X10_isHouse kw_873 rfl rfl ⟨Nat.le_of_ble_eq_true rfl, Nat.le_of_ble_eq_true rfl⟩ hP hD rfl rfl rfl hl.1 rfl (Nat.le_of_ble_eq_true rfl) dX10_live_6 ⟨Nat.zero_le _, Nat.zero_le _⟩) hD hS hA (fun r_2 u9 H locs hP hD hS h => ?_)
  have hP : va_P (dC, dI) vwCl (ww_X10 cI cJ q0 m0_1) H := hP
  have hD : va_D A (ww_X10 cI cJ q0 m0_1) := hD
  refine lv_if_eq (tgt := 28) hx hb dX10_live_9 (by decide) (fun c_3 => ?_) (fun c_3 => ?_)
  · have h := h.1 c_3
    refine lv_bipush (v := (-2)) hx hb dX10_live_28 (by decide) ?_
    exact rt_i (v := (-2)) (u := m0_1) cx hP hD hS h dX10_live_30
  have h := h.2 c_3
  refine lv_iload_n hx hb dX10_live_12 rfl (lv_at hl 2 rfl) ?_
  refine callN_i (run_S (As := [.int x2]) (rest := []) (wc := []) cx' (c_X10_isTwo l H.size x2 _ h) ms_X10_isTwo kw_832 rfl rfl ⟨Nat.le_of_ble_eq_true rfl, Nat.le_of_ble_eq_true rfl⟩ nilP nilD (A := A) rfl hl.1 rfl (Nat.le_of_ble_eq_true rfl) dX10_live_13 ⟨Nat.zero_le _, Nat.zero_le _⟩) hP hS hA (fun r_4 H locs hP hS h => ?_)
  refine lv_if_eq (tgt := 28) hx hb dX10_live_16 (by decide) (fun c_5 => ?_) (fun c_5 => ?_)
  · have h := h.1 c_5
    refine lv_bipush (v := (-2)) hx hb dX10_live_28 (by decide) ?_
    exact rt_i (v := (-2)) (u := m0_1) cx hP hD hS h dX10_live_30
  have h := h.2 c_5
  refine lv_aload_n hx hb dX10_live_19 rfl (lv_at hl 0 rfl) ?_
  refine lv_iload_n hx hb dX10_live_20 rfl (lv_at hl 1 rfl) ?_
  refine lv_iload_n hx hb dX10_live_21 rfl (lv_at hl 2 rfl) ?_
  refine call_i (run_V (As := [.int x1, .int x2]) (rest := []) cx' (c_X10_liveOf l H.size q0 m0_1 x1 x2 _ h) mv_X10_liveOf kw_974 rfl rfl ⟨Nat.le_of_ble_eq_true rfl, Nat.le_of_ble_eq_true rfl⟩ hP hD rfl rfl rfl hl.1 rfl (Nat.le_of_ble_eq_true rfl) dX10_live_22 ⟨Nat.zero_le _, Nat.zero_le _⟩) hD hS hA (fun r_6 u9 H locs hP hD hS h => ?_)
  obtain ⟨m0_7, rfl⟩ : ∃ z, z = u9 := ⟨_, rfl⟩
  have hP : va_P (dC, dI) vwCl (ww_X10 cI cJ q0 m0_7) H := hP
  have hD : va_D A (ww_X10 cI cJ q0 m0_7) := hD
  refine lv_goto (tgt := 30) hx hb dX10_live_25 (by decide) ?_
  exact rt_i (v := r_6) (u := m0_7) cx hP hD hS h dX10_live_30
set_option maxRecDepth 100000 in
theorem c_X10_live (l : Launch) {dC : Nat → ClassId} {dI : Nat → Nat → Nat} {cI cJ : ClassId} (sz : Nat) (q0 : Nat → Nat) (m0 : Mem) (x1 : Int32) (x2 : Int32) (post : Int32 → Mem → Prop) (h : wp_X10_live m0 x1 x2 post) : Met l yX10_live (Cond.code yX10_live cX10_live 3 (some .int) :: gt) ({ frames := 6, cells := 0, slots := 0, locals := 132 }) (va_Pc [.ref (q0 0), .int x1, .int x2] (PRE (dC, dI) (TY cI cJ) (ww_X10 cI cJ q0 m0) sz)) (va_Qi (S := Mem) (fun (r : Int32) (u : Mem) => post r u) (fun u t => AT (dC, dI) (TY cI cJ) (va_A (ww_X10 cI cJ q0 m0) sz) (ww_X10 cI cJ q0 u) t) (va_A (ww_X10 cI cJ q0 m0) sz)) 0 0 (va_A (ww_X10 cI cJ q0 m0) sz) :=
  met_of (own := RX10) (Qf := fun A => va_Qi (S := Mem) (fun (r : Int32) (u : Mem) => post r u) (fun u t => AT (dC, dI) (TY cI cJ) A (ww_X10 cI cJ q0 u) t) A) (by decide) rfl (Nat.le_of_ble_eq_true rfl) rfl (fun p e s m below meth c A cx hA ls hP hD hS hl => w_X10_live_0 cx hA x1 x2 m0 _ _ ls hP hD hS hl h)
theorem mv_X10_live : MV yX10_live cX10_live 3 (some .int) 2 := ⟨⟨kw_973, kw_11, by decide +kernel⟩, kw_971, kw_972⟩
set_option maxHeartbeats 4000000 in
set_option maxRecDepth 100000 in
theorem w_X10_cookOf_17 {p : Program} {l : Launch} {e : Env} {s : State} {m : MethodId} {args : Array Value} {below : List Frame} {meth : Method} {c : Code} {dC : Nat → ClassId} {dI : Nat → Nat → Nat} {cI cJ : ClassId} {A : Nat → Prop} (cx : CX RX10 cX10_cookOf (some .int) 5 p s m args meth c (dC, dI) (TY cI cJ)) (hA : ∀ q, s.heap.size ≤ q → A q) {q0 : Nat → Nat} {post : Int32 → Mem → Prop} : ∀ (n : Nat) (x1 : Int32) (x2 : Int32) (x3 : Int32) (x4 : Int32) (m0 : Mem) (H : Heap) (locs : List Loc) (ls : Array Slot), va_P (dC, dI) vwCl (ww_X10 cI cJ q0 m0) H → va_D A (ww_X10 cI cJ q0 m0) → va_S A s.heap H locs → lv_has ls 5 [(0, .ref (q0 0)), (1, .int x1), (2, .int x2), (3, .int x3), (4, .int x4)] → b_X10_cookOf_17 post n x1 x2 x3 x4 m0 → W p l e ({ frames := 4, cells := 0, slots := 0, locals := 90 }) s m args below meth c H locs 0 0 (MQ below (va_Qi (S := Mem) (fun (r : Int32) (u : Mem) => post r u) (fun u t => AT (dC, dI) (TY cI cJ) A (ww_X10 cI cJ q0 u) t) A) args s 0 0 A) (F0 m 17 ls []) := by
  obtain ⟨hx, hb, hr, hml, hown, hts, hlocks, hK⟩ := id cx
  have cx' : CX RX10 cX10_cookOf (meth.sig.returnType) 5 p s m args meth c (dC, dI) (TY cI cJ) := ⟨hx, hb, rfl, hml, hown, hts, hlocks, hK⟩
  intro n
  induction n with
  | zero =>
    intro x1 x2 x3 x4 m0 H locs ls hP hD hS hl h
    exact False.elim h
  | succ n ih =>
    intro x1 x2 x3 x4 m0 H locs ls hP hD hS hl h
    unfold b_X10_cookOf_17 at h
    refine lv_iload hx hb dX10_cookOf_17 (lv_at hl 4 rfl) ?_
    refine lv_iconst (v := 4) hx hb dX10_cookOf_19 (by decide) ?_
    refine lv_icmp_ge (tgt := 50) hx hb dX10_cookOf_20 (by decide) (fun c_1 => ?_) (fun c_1 => ?_)
    · have h := h.1 c_1
      refine lv_aload_n hx hb dX10_cookOf_50 rfl (lv_at hl 0 rfl) ?_
      refine gf_v (k := 8) (v := .ref (q0 7)) cx' hP 0 i_X10 rfl rfl (by decide) kw_723 rfl rfl dX10_cookOf_51 ?_
      refine lv_iconst (v := 3) hx hb dX10_cookOf_54 (by decide) ?_
      refine lv_iload_n hx hb dX10_cookOf_55 rfl (lv_at hl 1 rfl) ?_
      refine lv_imul hx hb dX10_cookOf_56 ?_
      refine lv_iload_n hx hb dX10_cookOf_57 rfl (lv_at hl 3 rfl) ?_
      obtain ⟨m0_2, em0_2⟩ : ∃ z : Mem, z = up2 m0 7 (Int32.toNatClampNeg (3 * x1)) x3 := ⟨_, rfl⟩
      have h1 := h.1
      have h := h.2 m0_2 em0_2
      refine st_i hx hb hK hP hD hS 7 0 (ww_X10 cI cJ q0 m0_2) rfl rfl h1 dX10_cookOf_58 (by subst em0_2; rfl) (fun H locs hP hD hS => ?_)
      refine lv_aload_n hx hb dX10_cookOf_59 rfl (lv_at hl 0 rfl) ?_
      refine call_v (run_V (As := []) (rest := []) cx' (c_X10_feedsAll l H.size q0 m0_2 _ h) mv_X10_feedsAll kw_910 rfl rfl ⟨Nat.le_of_ble_eq_true rfl, Nat.le_of_ble_eq_true rfl⟩ hP hD rfl rfl rfl hl.1 rfl (Nat.le_of_ble_eq_true rfl) dX10_cookOf_60 ⟨Nat.zero_le _, Nat.zero_le _⟩) hD hS hA (fun u9 H locs hP hD hS h => ?_)
      obtain ⟨m0_3, rfl⟩ : ∃ z, z = u9 := ⟨_, rfl⟩
      have hP : va_P (dC, dI) vwCl (ww_X10 cI cJ q0 m0_3) H := hP
      have hD : va_D A (ww_X10 cI cJ q0 m0_3) := hD
      refine lv_iload_n hx hb dX10_cookOf_63 rfl (lv_at hl 2 rfl) ?_
      refine dia_i (ls := ls) (c0 := x2 = 0) (a := m0_3 0 18) (b := m0_3 0 19) (J := 78) (rest := []) (fun K => ?_) (fun v_5 ev_5 => ?_)
      · refine lv_if_ne (tgt := 74) hx hb dX10_cookOf_64 (by decide) (fun c_4 => ?_) (fun c_4 => ?_)
        · refine lv_aload_n hx hb dX10_cookOf_74 rfl (lv_at hl 0 rfl) ?_
          refine gf_v (k := 19) (v := .int (m0_3 0 19)) cx' hP 0 i_X10 rfl rfl (by decide) kw_734 rfl rfl dX10_cookOf_75 ?_
          exact K _ (Or.inr ⟨c_4, rfl⟩)
        · refine lv_aload_n hx hb dX10_cookOf_67 rfl (lv_at hl 0 rfl) ?_
          refine gf_v (k := 18) (v := .int (m0_3 0 18)) cx' hP 0 i_X10 rfl rfl (by decide) kw_733 rfl rfl dX10_cookOf_68 ?_
          refine lv_goto (tgt := 78) hx hb dX10_cookOf_71 (by decide) ?_
          exact K _ (Or.inl ⟨c_4, rfl⟩)
      have h := h v_5 ev_5
      exact rt_i (v := v_5) (u := m0_3) cx hP hD hS h dX10_cookOf_78
    have h := h.2 c_1
    refine lv_aload_n hx hb dX10_cookOf_23 rfl (lv_at hl 0 rfl) ?_
    refine gf_v (k := 8) (v := .ref (q0 7)) cx' hP 0 i_X10 rfl rfl (by decide) kw_723 rfl rfl dX10_cookOf_24 ?_
    refine lv_iconst (v := 3) hx hb dX10_cookOf_27 (by decide) ?_
    refine lv_iload_n hx hb dX10_cookOf_28 rfl (lv_at hl 1 rfl) ?_
    refine lv_imul hx hb dX10_cookOf_29 ?_
    refine lv_iload hx hb dX10_cookOf_30 (lv_at hl 4 rfl) ?_
    obtain ⟨m0_6, em0_6⟩ : ∃ z : Mem, z = up2 m0 7 (Int32.toNatClampNeg (3 * x1)) x4 := ⟨_, rfl⟩
    have h1 := h.1
    have h := h.2 m0_6 em0_6
    refine st_i hx hb hK hP hD hS 7 0 (ww_X10 cI cJ q0 m0_6) rfl rfl h1 dX10_cookOf_32 (by subst em0_6; rfl) (fun H locs hP hD hS => ?_)
    refine lv_aload_n hx hb dX10_cookOf_33 rfl (lv_at hl 0 rfl) ?_
    refine call_v (run_V (As := []) (rest := []) cx' (c_X10_feedsAll l H.size q0 m0_6 _ h) mv_X10_feedsAll kw_910 rfl rfl ⟨Nat.le_of_ble_eq_true rfl, Nat.le_of_ble_eq_true rfl⟩ hP hD rfl rfl rfl hl.1 rfl (Nat.le_of_ble_eq_true rfl) dX10_cookOf_34 ⟨Nat.zero_le _, Nat.zero_le _⟩) hD hS hA (fun u9 H locs hP hD hS h => ?_)
    obtain ⟨m0_7, rfl⟩ : ∃ z, z = u9 := ⟨_, rfl⟩
    have hP : va_P (dC, dI) vwCl (ww_X10 cI cJ q0 m0_7) H := hP
    have hD : va_D A (ww_X10 cI cJ q0 m0_7) := hD
    refine lv_aload_n hx hb dX10_cookOf_37 rfl (lv_at hl 0 rfl) ?_
    refine lv_iload_n hx hb dX10_cookOf_38 rfl (lv_at hl 1 rfl) ?_
    refine lv_iload hx hb dX10_cookOf_39 (lv_at hl 4 rfl) ?_
    refine call_v (run_V (As := [.int x1, .int x4]) (rest := []) cx' (c_X10_weighs l H.size q0 m0_7 x1 x4 _ h) mv_X10_weighs kw_982 rfl rfl ⟨Nat.le_of_ble_eq_true rfl, Nat.le_of_ble_eq_true rfl⟩ hP hD rfl rfl rfl hl.1 rfl (Nat.le_of_ble_eq_true rfl) dX10_cookOf_41 ⟨Nat.zero_le _, Nat.zero_le _⟩) hD hS hA (fun u9 H locs hP hD hS h => ?_)
    obtain ⟨m0_8, rfl⟩ : ∃ z, z = u9 := ⟨_, rfl⟩
    have hP : va_P (dC, dI) vwCl (ww_X10 cI cJ q0 m0_8) H := hP
    have hD : va_D A (ww_X10 cI cJ q0 m0_8) := hD
    obtain ⟨x4_9, ex4_9⟩ : ∃ z : Int32, z = x4 + 1 := ⟨_, rfl⟩
    have h := h x4_9 ex4_9
    refine lv_iinc (v := x4_9) (lv' := [(4, .int x4_9), (0, .ref (q0 0)), (1, .int x1), (2, .int x2), (3, .int x3)]) hx hb dX10_cookOf_44 hl (k := 4) rfl (by rw [ex4_9]; rfl) (by decide) rfl (fun ls hl => ?_)
    refine lv_goto (tgt := 17) hx hb dX10_cookOf_47 (by decide) ?_
    exact ih x1 x2 x3 x4_9 m0_8 H locs ls hP hD hS (lv_sub hl [1, 2, 3, 4, 0] rfl) h
set_option maxHeartbeats 4000000 in
set_option maxRecDepth 100000 in
theorem w_X10_cookOf_0 {p : Program} {l : Launch} {e : Env} {s : State} {m : MethodId} {args : Array Value} {below : List Frame} {meth : Method} {c : Code} {dC : Nat → ClassId} {dI : Nat → Nat → Nat} {cI cJ : ClassId} {A : Nat → Prop} (cx : CX RX10 cX10_cookOf (some .int) 5 p s m args meth c (dC, dI) (TY cI cJ)) (hA : ∀ q, s.heap.size ≤ q → A q) {q0 : Nat → Nat} {post : Int32 → Mem → Prop} : ∀ (x1 : Int32) (x2 : Int32) (m0 : Mem) (H : Heap) (locs : List Loc) (ls : Array Slot), va_P (dC, dI) vwCl (ww_X10 cI cJ q0 m0) H → va_D A (ww_X10 cI cJ q0 m0) → va_S A s.heap H locs → lv_has ls 5 [(0, .ref (q0 0)), (1, .int x1), (2, .int x2)] → b_X10_cookOf_0 post x1 x2 m0 → W p l e ({ frames := 4, cells := 0, slots := 0, locals := 90 }) s m args below meth c H locs 0 0 (MQ below (va_Qi (S := Mem) (fun (r : Int32) (u : Mem) => post r u) (fun u t => AT (dC, dI) (TY cI cJ) A (ww_X10 cI cJ q0 u) t) A) args s 0 0 A) (F0 m 0 ls []) := by
  obtain ⟨hx, hb, hr, hml, hown, hts, hlocks, hK⟩ := id cx
  have cx' : CX RX10 cX10_cookOf (meth.sig.returnType) 5 p s m args meth c (dC, dI) (TY cI cJ) := ⟨hx, hb, rfl, hml, hown, hts, hlocks, hK⟩
  intro x1 x2 m0 H locs ls hP hD hS hl h
  unfold b_X10_cookOf_0 at h
  refine lv_aload_n hx hb dX10_cookOf_0 rfl (lv_at hl 0 rfl) ?_
  refine gf_v (k := 8) (v := .ref (q0 7)) cx' hP 0 i_X10 rfl rfl (by decide) kw_723 rfl rfl dX10_cookOf_1 ?_
  refine lv_iconst (v := 3) hx hb dX10_cookOf_4 (by decide) ?_
  refine lv_iload_n hx hb dX10_cookOf_5 rfl (lv_at hl 1 rfl) ?_
  refine lv_imul hx hb dX10_cookOf_6 ?_
  refine va_iald hx hb hK hP 7 0 rfl rfl h.1 dX10_cookOf_7 ?_
  have h := h.2
  refine lv_topi (fun x3_1 ex3_1 => ?_)
  have h := h x3_1 ex3_1
  refine lv_istore_n (lv' := [(3, .int x3_1), (0, .ref (q0 0)), (1, .int x1), (2, .int x2)]) hx hb dX10_cookOf_8 rfl hl (by decide) rfl (fun ls hl => ?_)
  refine lv_aload_n hx hb dX10_cookOf_9 rfl (lv_at hl 1 rfl) ?_
  refine lv_iconst (v := (-1)) hx hb dX10_cookOf_10 (by decide) ?_
  obtain ⟨m0_2, em0_2⟩ : ∃ z : Mem, z = up2 m0 0 18 (-1) := ⟨_, rfl⟩
  have h := h m0_2 em0_2
  refine pf_v (k := 18) (tf := .int) cx' hP hD hS 0 (ww_X10 cI cJ q0 m0_2) i_X10 tyX10 tyX10_ok nmX10 rfl rfl (by decide) kw_733 rfl rfl rfl rfl rfl (Nat.le_of_ble_eq_true rfl) dX10_cookOf_11 (by subst em0_2; rfl) (fun H locs hP hD hS => ?_)
  refine lv_iconst (v := 0) hx hb dX10_cookOf_14 (by decide) ?_
  refine lv_istore (lv' := [(4, .int 0), (3, .int x3_1), (0, .ref (q0 0)), (1, .int x1), (2, .int x2)]) hx hb dX10_cookOf_15 hl (by decide) rfl (fun ls hl => ?_)
  obtain ⟨n_3, h⟩ := h
  exact w_X10_cookOf_17 cx hA n_3 x1 x2 x3_1 0 m0_2 H locs ls hP hD hS (lv_sub hl [2, 3, 4, 1, 0] rfl) h
set_option maxRecDepth 100000 in
theorem c_X10_cookOf (l : Launch) {dC : Nat → ClassId} {dI : Nat → Nat → Nat} {cI cJ : ClassId} (sz : Nat) (q0 : Nat → Nat) (m0 : Mem) (x1 : Int32) (x2 : Int32) (post : Int32 → Mem → Prop) (h : wp_X10_cookOf m0 x1 x2 post) : Met l yX10_cookOf (Cond.code yX10_cookOf cX10_cookOf 5 (some .int) :: gt) ({ frames := 4, cells := 0, slots := 0, locals := 90 }) (va_Pc [.ref (q0 0), .int x1, .int x2] (PRE (dC, dI) (TY cI cJ) (ww_X10 cI cJ q0 m0) sz)) (va_Qi (S := Mem) (fun (r : Int32) (u : Mem) => post r u) (fun u t => AT (dC, dI) (TY cI cJ) (va_A (ww_X10 cI cJ q0 m0) sz) (ww_X10 cI cJ q0 u) t) (va_A (ww_X10 cI cJ q0 m0) sz)) 0 0 (va_A (ww_X10 cI cJ q0 m0) sz) :=
  met_of (own := RX10) (Qf := fun A => va_Qi (S := Mem) (fun (r : Int32) (u : Mem) => post r u) (fun u t => AT (dC, dI) (TY cI cJ) A (ww_X10 cI cJ q0 u) t) A) (by decide) rfl (Nat.le_of_ble_eq_true rfl) rfl (fun p e s m below meth c A cx hA ls hP hD hS hl => w_X10_cookOf_0 cx hA x1 x2 m0 _ _ ls hP hD hS hl h)
theorem mv_X10_cookOf : MV yX10_cookOf cX10_cookOf 5 (some .int) 2 := ⟨⟨kw_993, kw_11, by decide +kernel⟩, kw_992, ksel_40⟩
set_option maxHeartbeats 4000000 in
set_option maxRecDepth 100000 in
theorem w_X10_cook_0 {p : Program} {l : Launch} {e : Env} {s : State} {m : MethodId} {args : Array Value} {below : List Frame} {meth : Method} {c : Code} {dC : Nat → ClassId} {dI : Nat → Nat → Nat} {cI cJ : ClassId} {A : Nat → Prop} (cx : CX RX10 cX10_cook (some .int) 3 p s m args meth c (dC, dI) (TY cI cJ)) (hA : ∀ q, s.heap.size ≤ q → A q) {q0 : Nat → Nat} {post : Int32 → Mem → Prop} : ∀ (x1 : Int32) (x2 : Int32) (m0 : Mem) (H : Heap) (locs : List Loc) (ls : Array Slot), va_P (dC, dI) vwCl (ww_X10 cI cJ q0 m0) H → va_D A (ww_X10 cI cJ q0 m0) → va_S A s.heap H locs → lv_has ls 3 [(0, .ref (q0 0)), (1, .int x1), (2, .int x2)] → b_X10_cook_0 post x1 x2 m0 → W p l e ({ frames := 6, cells := 0, slots := 0, locals := 132 }) s m args below meth c H locs 0 0 (MQ below (va_Qi (S := Mem) (fun (r : Int32) (u : Mem) => post r u) (fun u t => AT (dC, dI) (TY cI cJ) A (ww_X10 cI cJ q0 u) t) A) args s 0 0 A) (F0 m 0 ls []) := by
  obtain ⟨hx, hb, hr, hml, hown, hts, hlocks, hK⟩ := id cx
  have cx' : CX RX10 cX10_cook (meth.sig.returnType) 3 p s m args meth c (dC, dI) (TY cI cJ) := ⟨hx, hb, rfl, hml, hown, hts, hlocks, hK⟩
  intro x1 x2 m0 H locs ls hP hD hS hl h
  unfold b_X10_cook_0 at h
  refine lv_aload_n hx hb dX10_cook_0 rfl (lv_at hl 0 rfl) ?_
  refine call_v (run_V (As := []) (rest := []) cx' (c_X10_find l H.size q0 m0 _ h) mv_X10_find kw_906 rfl rfl ⟨Nat.le_of_ble_eq_true rfl, Nat.le_of_ble_eq_true rfl⟩ hP hD rfl rfl rfl hl.1 rfl (Nat.le_of_ble_eq_true rfl) dX10_cook_1 ⟨Nat.zero_le _, Nat.zero_le _⟩) hD hS hA (fun u9 H locs hP hD hS h => ?_)
  obtain ⟨m0_1, rfl⟩ : ∃ z, z = u9 := ⟨_, rfl⟩
  have hP : va_P (dC, dI) vwCl (ww_X10 cI cJ q0 m0_1) H := hP
  have hD : va_D A (ww_X10 cI cJ q0 m0_1) := hD
  refine lv_aload_n hx hb dX10_cook_4 rfl (lv_at hl 0 rfl) ?_
  refine lv_iload_n hx hb dX10_cook_5 rfl (lv_at hl 1 rfl) ?_
  refine call_i (run_V (As := [.int x1]) (rest := []) cx' (c_X10_isHouse l H.size q0 m0_1 x1 _ h) mv_X10_isHouse kw_873 rfl rfl ⟨Nat.le_of_ble_eq_true rfl, Nat.le_of_ble_eq_true rfl⟩ hP hD rfl rfl rfl hl.1 rfl (Nat.le_of_ble_eq_true rfl) dX10_cook_6 ⟨Nat.zero_le _, Nat.zero_le _⟩) hD hS hA (fun r_2 u9 H locs hP hD hS h => ?_)
  have hP : va_P (dC, dI) vwCl (ww_X10 cI cJ q0 m0_1) H := hP
  have hD : va_D A (ww_X10 cI cJ q0 m0_1) := hD
  refine lv_if_eq (tgt := 28) hx hb dX10_cook_9 (by decide) (fun c_3 => ?_) (fun c_3 => ?_)
  · have h := h.1 c_3
    refine lv_bipush (v := (-2)) hx hb dX10_cook_28 (by decide) ?_
    exact rt_i (v := (-2)) (u := m0_1) cx hP hD hS h dX10_cook_30
  have h := h.2 c_3
  refine lv_iload_n hx hb dX10_cook_12 rfl (lv_at hl 2 rfl) ?_
  refine callN_i (run_S (As := [.int x2]) (rest := []) (wc := []) cx' (c_X10_isTwo l H.size x2 _ h) ms_X10_isTwo kw_832 rfl rfl ⟨Nat.le_of_ble_eq_true rfl, Nat.le_of_ble_eq_true rfl⟩ nilP nilD (A := A) rfl hl.1 rfl (Nat.le_of_ble_eq_true rfl) dX10_cook_13 ⟨Nat.zero_le _, Nat.zero_le _⟩) hP hS hA (fun r_4 H locs hP hS h => ?_)
  refine lv_if_eq (tgt := 28) hx hb dX10_cook_16 (by decide) (fun c_5 => ?_) (fun c_5 => ?_)
  · have h := h.1 c_5
    refine lv_bipush (v := (-2)) hx hb dX10_cook_28 (by decide) ?_
    exact rt_i (v := (-2)) (u := m0_1) cx hP hD hS h dX10_cook_30
  have h := h.2 c_5
  refine lv_aload_n hx hb dX10_cook_19 rfl (lv_at hl 0 rfl) ?_
  refine lv_iload_n hx hb dX10_cook_20 rfl (lv_at hl 1 rfl) ?_
  refine lv_iload_n hx hb dX10_cook_21 rfl (lv_at hl 2 rfl) ?_
  refine call_i (run_V (As := [.int x1, .int x2]) (rest := []) cx' (c_X10_cookOf l H.size q0 m0_1 x1 x2 _ h) mv_X10_cookOf kw_990 rfl rfl ⟨Nat.le_of_ble_eq_true rfl, Nat.le_of_ble_eq_true rfl⟩ hP hD rfl rfl rfl hl.1 rfl (Nat.le_of_ble_eq_true rfl) dX10_cook_22 ⟨Nat.zero_le _, Nat.zero_le _⟩) hD hS hA (fun r_6 u9 H locs hP hD hS h => ?_)
  obtain ⟨m0_7, rfl⟩ : ∃ z, z = u9 := ⟨_, rfl⟩
  have hP : va_P (dC, dI) vwCl (ww_X10 cI cJ q0 m0_7) H := hP
  have hD : va_D A (ww_X10 cI cJ q0 m0_7) := hD
  refine lv_goto (tgt := 30) hx hb dX10_cook_25 (by decide) ?_
  exact rt_i (v := r_6) (u := m0_7) cx hP hD hS h dX10_cook_30
set_option maxRecDepth 100000 in
theorem c_X10_cook (l : Launch) {dC : Nat → ClassId} {dI : Nat → Nat → Nat} {cI cJ : ClassId} (sz : Nat) (q0 : Nat → Nat) (m0 : Mem) (x1 : Int32) (x2 : Int32) (post : Int32 → Mem → Prop) (h : wp_X10_cook m0 x1 x2 post) : Met l yX10_cook (Cond.code yX10_cook cX10_cook 3 (some .int) :: gt) ({ frames := 6, cells := 0, slots := 0, locals := 132 }) (va_Pc [.ref (q0 0), .int x1, .int x2] (PRE (dC, dI) (TY cI cJ) (ww_X10 cI cJ q0 m0) sz)) (va_Qi (S := Mem) (fun (r : Int32) (u : Mem) => post r u) (fun u t => AT (dC, dI) (TY cI cJ) (va_A (ww_X10 cI cJ q0 m0) sz) (ww_X10 cI cJ q0 u) t) (va_A (ww_X10 cI cJ q0 m0) sz)) 0 0 (va_A (ww_X10 cI cJ q0 m0) sz) :=
  met_of (own := RX10) (Qf := fun A => va_Qi (S := Mem) (fun (r : Int32) (u : Mem) => post r u) (fun u t => AT (dC, dI) (TY cI cJ) A (ww_X10 cI cJ q0 u) t) A) (by decide) rfl (Nat.le_of_ble_eq_true rfl) rfl (fun p e s m below meth c A cx hA ls hP hD hS hl => w_X10_cook_0 cx hA x1 x2 m0 _ _ ls hP hD hS hl h)
theorem mv_X10_cook : MV yX10_cook cX10_cook 3 (some .int) 2 := ⟨⟨kw_989, kw_11, by decide +kernel⟩, kw_987, kw_988⟩
set_option maxHeartbeats 4000000 in
set_option maxRecDepth 100000 in
theorem w_X10_fastOf_74 {p : Program} {l : Launch} {e : Env} {s : State} {m : MethodId} {args : Array Value} {below : List Frame} {meth : Method} {c : Code} {dC : Nat → ClassId} {dI : Nat → Nat → Nat} {cI cJ : ClassId} {A : Nat → Prop} (cx : CX RX10 cX10_fastOf (some .int) 7 p s m args meth c (dC, dI) (TY cI cJ)) (hA : ∀ q, s.heap.size ≤ q → A q) {q0 : Nat → Nat} {post : Int32 → Mem → Prop} {k14 : Int32 → Int32 → Int32 → Int32 → Int32 → Int32 → Mem → Prop} (hk14 : ∀ (x1 : Int32) (x2 : Int32) (x3 : Int32) (x4 : Int32) (x5 : Int32) (x6 : Int32) (m0 : Mem) (H : Heap) (locs : List Loc) (ls : Array Slot), va_P (dC, dI) vwCl (ww_X10 cI cJ q0 m0) H → va_D A (ww_X10 cI cJ q0 m0) → va_S A s.heap H locs → lv_has ls 7 [(0, .ref (q0 0)), (1, .int x1), (2, .int x2), (3, .int x3), (4, .int x4), (5, .int x5), (6, .int x6)] → k14 x1 x2 x3 x4 x5 x6 m0 → W p l e ({ frames := 3, cells := 0, slots := 0, locals := 69 }) s m args below meth c H locs 0 0 (MQ below (va_Qi (S := Mem) (fun (r : Int32) (u : Mem) => post r u) (fun u t => AT (dC, dI) (TY cI cJ) A (ww_X10 cI cJ q0 u) t) A) args s 0 0 A) (F0 m 14 ls [])) : ∀ (x1 : Int32) (x2 : Int32) (x3 : Int32) (x4 : Int32) (x6 : Int32) (z0 : Int32) (m0 : Mem) (H : Heap) (locs : List Loc) (ls : Array Slot), va_P (dC, dI) vwCl (ww_X10 cI cJ q0 m0) H → va_D A (ww_X10 cI cJ q0 m0) → va_S A s.heap H locs → lv_has ls 7 [(0, .ref (q0 0)), (1, .int x1), (2, .int x2), (3, .int x3), (4, .int x4), (6, .int x6)] → b_X10_fastOf_74 post k14 x1 x2 x3 x4 x6 z0 m0 → W p l e ({ frames := 3, cells := 0, slots := 0, locals := 69 }) s m args below meth c H locs 0 0 (MQ below (va_Qi (S := Mem) (fun (r : Int32) (u : Mem) => post r u) (fun u t => AT (dC, dI) (TY cI cJ) A (ww_X10 cI cJ q0 u) t) A) args s 0 0 A) (F0 m 74 ls [.int z0]) := by
  obtain ⟨hx, hb, hr, hml, hown, hts, hlocks, hK⟩ := id cx
  have cx' : CX RX10 cX10_fastOf (meth.sig.returnType) 7 p s m args meth c (dC, dI) (TY cI cJ) := ⟨hx, hb, rfl, hml, hown, hts, hlocks, hK⟩
  intro x1 x2 x3 x4 x6 z0 m0 H locs ls hP hD hS hl h
  unfold b_X10_fastOf_74 at h
  refine lv_istore (lv' := [(5, .int z0), (0, .ref (q0 0)), (1, .int x1), (2, .int x2), (3, .int x3), (4, .int x4), (6, .int x6)]) hx hb dX10_fastOf_74 hl (by decide) rfl (fun ls hl => ?_)
  obtain ⟨x6_1, ex6_1⟩ : ∃ z : Int32, z = x6 + 1 := ⟨_, rfl⟩
  have h := h x6_1 ex6_1
  refine lv_iinc (v := x6_1) (lv' := [(6, .int x6_1), (5, .int z0), (0, .ref (q0 0)), (1, .int x1), (2, .int x2), (3, .int x3), (4, .int x4)]) hx hb dX10_fastOf_76 hl (k := 6) rfl (by rw [ex6_1]; rfl) (by decide) rfl (fun ls hl => ?_)
  refine lv_goto (tgt := 14) hx hb dX10_fastOf_79 (by decide) ?_
  exact hk14 x1 x2 x3 x4 z0 x6_1 m0 H locs ls hP hD hS (lv_sub hl [2, 3, 4, 5, 6, 1, 0] rfl) h
set_option maxHeartbeats 4000000 in
set_option maxRecDepth 100000 in
theorem w_X10_fastOf_72 {p : Program} {l : Launch} {e : Env} {s : State} {m : MethodId} {args : Array Value} {below : List Frame} {meth : Method} {c : Code} {dC : Nat → ClassId} {dI : Nat → Nat → Nat} {cI cJ : ClassId} {A : Nat → Prop} (cx : CX RX10 cX10_fastOf (some .int) 7 p s m args meth c (dC, dI) (TY cI cJ)) (hA : ∀ q, s.heap.size ≤ q → A q) {q0 : Nat → Nat} {post : Int32 → Mem → Prop} {k14 : Int32 → Int32 → Int32 → Int32 → Int32 → Int32 → Mem → Prop} (hk14 : ∀ (x1 : Int32) (x2 : Int32) (x3 : Int32) (x4 : Int32) (x5 : Int32) (x6 : Int32) (m0 : Mem) (H : Heap) (locs : List Loc) (ls : Array Slot), va_P (dC, dI) vwCl (ww_X10 cI cJ q0 m0) H → va_D A (ww_X10 cI cJ q0 m0) → va_S A s.heap H locs → lv_has ls 7 [(0, .ref (q0 0)), (1, .int x1), (2, .int x2), (3, .int x3), (4, .int x4), (5, .int x5), (6, .int x6)] → k14 x1 x2 x3 x4 x5 x6 m0 → W p l e ({ frames := 3, cells := 0, slots := 0, locals := 69 }) s m args below meth c H locs 0 0 (MQ below (va_Qi (S := Mem) (fun (r : Int32) (u : Mem) => post r u) (fun u t => AT (dC, dI) (TY cI cJ) A (ww_X10 cI cJ q0 u) t) A) args s 0 0 A) (F0 m 14 ls [])) : ∀ (x1 : Int32) (x2 : Int32) (x3 : Int32) (x4 : Int32) (x5 : Int32) (x6 : Int32) (m0 : Mem) (H : Heap) (locs : List Loc) (ls : Array Slot), va_P (dC, dI) vwCl (ww_X10 cI cJ q0 m0) H → va_D A (ww_X10 cI cJ q0 m0) → va_S A s.heap H locs → lv_has ls 7 [(0, .ref (q0 0)), (1, .int x1), (2, .int x2), (3, .int x3), (4, .int x4), (5, .int x5), (6, .int x6)] → b_X10_fastOf_72 post k14 x1 x2 x3 x4 x5 x6 m0 → W p l e ({ frames := 3, cells := 0, slots := 0, locals := 69 }) s m args below meth c H locs 0 0 (MQ below (va_Qi (S := Mem) (fun (r : Int32) (u : Mem) => post r u) (fun u t => AT (dC, dI) (TY cI cJ) A (ww_X10 cI cJ q0 u) t) A) args s 0 0 A) (F0 m 72 ls []) := by
  obtain ⟨hx, hb, hr, hml, hown, hts, hlocks, hK⟩ := id cx
  have cx' : CX RX10 cX10_fastOf (meth.sig.returnType) 7 p s m args meth c (dC, dI) (TY cI cJ) := ⟨hx, hb, rfl, hml, hown, hts, hlocks, hK⟩
  intro x1 x2 x3 x4 x5 x6 m0 H locs ls hP hD hS hl h
  unfold b_X10_fastOf_72 at h
  refine lv_iload hx hb dX10_fastOf_72 (lv_at hl 5 rfl) ?_
  exact w_X10_fastOf_74 cx hA hk14 x1 x2 x3 x4 x6 x5 m0 H locs ls hP hD hS (lv_sub hl [0, 1, 2, 3, 4, 6] rfl) h
set_option maxHeartbeats 4000000 in
set_option maxRecDepth 100000 in
theorem w_X10_fastOf_67 {p : Program} {l : Launch} {e : Env} {s : State} {m : MethodId} {args : Array Value} {below : List Frame} {meth : Method} {c : Code} {dC : Nat → ClassId} {dI : Nat → Nat → Nat} {cI cJ : ClassId} {A : Nat → Prop} (cx : CX RX10 cX10_fastOf (some .int) 7 p s m args meth c (dC, dI) (TY cI cJ)) (hA : ∀ q, s.heap.size ≤ q → A q) {q0 : Nat → Nat} {post : Int32 → Mem → Prop} {k14 : Int32 → Int32 → Int32 → Int32 → Int32 → Int32 → Mem → Prop} (hk14 : ∀ (x1 : Int32) (x2 : Int32) (x3 : Int32) (x4 : Int32) (x5 : Int32) (x6 : Int32) (m0 : Mem) (H : Heap) (locs : List Loc) (ls : Array Slot), va_P (dC, dI) vwCl (ww_X10 cI cJ q0 m0) H → va_D A (ww_X10 cI cJ q0 m0) → va_S A s.heap H locs → lv_has ls 7 [(0, .ref (q0 0)), (1, .int x1), (2, .int x2), (3, .int x3), (4, .int x4), (5, .int x5), (6, .int x6)] → k14 x1 x2 x3 x4 x5 x6 m0 → W p l e ({ frames := 3, cells := 0, slots := 0, locals := 69 }) s m args below meth c H locs 0 0 (MQ below (va_Qi (S := Mem) (fun (r : Int32) (u : Mem) => post r u) (fun u t => AT (dC, dI) (TY cI cJ) A (ww_X10 cI cJ q0 u) t) A) args s 0 0 A) (F0 m 14 ls [])) : ∀ (x1 : Int32) (x2 : Int32) (x3 : Int32) (x4 : Int32) (x6 : Int32) (m0 : Mem) (H : Heap) (locs : List Loc) (ls : Array Slot), va_P (dC, dI) vwCl (ww_X10 cI cJ q0 m0) H → va_D A (ww_X10 cI cJ q0 m0) → va_S A s.heap H locs → lv_has ls 7 [(0, .ref (q0 0)), (1, .int x1), (2, .int x2), (3, .int x3), (4, .int x4), (6, .int x6)] → b_X10_fastOf_67 post k14 x1 x2 x3 x4 x6 m0 → W p l e ({ frames := 3, cells := 0, slots := 0, locals := 69 }) s m args below meth c H locs 0 0 (MQ below (va_Qi (S := Mem) (fun (r : Int32) (u : Mem) => post r u) (fun u t => AT (dC, dI) (TY cI cJ) A (ww_X10 cI cJ q0 u) t) A) args s 0 0 A) (F0 m 67 ls []) := by
  obtain ⟨hx, hb, hr, hml, hown, hts, hlocks, hK⟩ := id cx
  have cx' : CX RX10 cX10_fastOf (meth.sig.returnType) 7 p s m args meth c (dC, dI) (TY cI cJ) := ⟨hx, hb, rfl, hml, hown, hts, hlocks, hK⟩
  intro x1 x2 x3 x4 x6 m0 H locs ls hP hD hS hl h
  unfold b_X10_fastOf_67 at h
  refine lv_iload hx hb dX10_fastOf_67 (lv_at hl 5 rfl) ?_
  refine lv_goto (tgt := 74) hx hb dX10_fastOf_69 (by decide) ?_
  exact w_X10_fastOf_74 cx hA hk14 x1 x2 x3 x4 x6 x6 m0 H locs ls hP hD hS (lv_sub hl [0, 1, 2, 3, 4, 5] rfl) h
set_option maxHeartbeats 4000000 in
set_option maxRecDepth 100000 in
theorem w_X10_fastOf_14 {p : Program} {l : Launch} {e : Env} {s : State} {m : MethodId} {args : Array Value} {below : List Frame} {meth : Method} {c : Code} {dC : Nat → ClassId} {dI : Nat → Nat → Nat} {cI cJ : ClassId} {A : Nat → Prop} (cx : CX RX10 cX10_fastOf (some .int) 7 p s m args meth c (dC, dI) (TY cI cJ)) (hA : ∀ q, s.heap.size ≤ q → A q) {q0 : Nat → Nat} {post : Int32 → Mem → Prop} : ∀ (n : Nat) (x1 : Int32) (x2 : Int32) (x3 : Int32) (x4 : Int32) (x5 : Int32) (x6 : Int32) (m0 : Mem) (H : Heap) (locs : List Loc) (ls : Array Slot), va_P (dC, dI) vwCl (ww_X10 cI cJ q0 m0) H → va_D A (ww_X10 cI cJ q0 m0) → va_S A s.heap H locs → lv_has ls 7 [(0, .ref (q0 0)), (1, .int x1), (2, .int x2), (3, .int x3), (4, .int x4), (5, .int x5), (6, .int x6)] → b_X10_fastOf_14 post n x1 x2 x3 x4 x5 x6 m0 → W p l e ({ frames := 3, cells := 0, slots := 0, locals := 69 }) s m args below meth c H locs 0 0 (MQ below (va_Qi (S := Mem) (fun (r : Int32) (u : Mem) => post r u) (fun u t => AT (dC, dI) (TY cI cJ) A (ww_X10 cI cJ q0 u) t) A) args s 0 0 A) (F0 m 14 ls []) := by
  obtain ⟨hx, hb, hr, hml, hown, hts, hlocks, hK⟩ := id cx
  have cx' : CX RX10 cX10_fastOf (meth.sig.returnType) 7 p s m args meth c (dC, dI) (TY cI cJ) := ⟨hx, hb, rfl, hml, hown, hts, hlocks, hK⟩
  intro n
  induction n with
  | zero =>
    intro x1 x2 x3 x4 x5 x6 m0 H locs ls hP hD hS hl h
    exact False.elim h
  | succ n ih =>
    intro x1 x2 x3 x4 x5 x6 m0 H locs ls hP hD hS hl h
    unfold b_X10_fastOf_14 at h
    refine lv_iload hx hb dX10_fastOf_14 (lv_at hl 6 rfl) ?_
    refine lv_iconst (v := 1) hx hb dX10_fastOf_16 (by decide) ?_
    refine lv_aload_n hx hb dX10_fastOf_17 rfl (lv_at hl 0 rfl) ?_
    refine gf_v (k := 7) (v := .int (m0 0 7)) cx' hP 0 i_X10 rfl rfl (by decide) kw_722 rfl rfl dX10_fastOf_18 ?_
    refine lv_ishl hx hb dX10_fastOf_21 ?_
    refine lv_icmp_ge (tgt := 82) hx hb dX10_fastOf_22 (by decide) (fun c_1 => ?_) (fun c_1 => ?_)
    · have h := h.1 c_1
      refine lv_aload_n hx hb dX10_fastOf_82 rfl (lv_at hl 0 rfl) ?_
      refine gf_v (k := 11) (v := .ref (q0 9)) cx' hP 0 i_X10 rfl rfl (by decide) kw_726 rfl rfl dX10_fastOf_83 ?_
      refine lv_iconst (v := 1) hx hb dX10_fastOf_86 (by decide) ?_
      refine lv_iload hx hb dX10_fastOf_87 (lv_at hl 4 rfl) ?_
      obtain ⟨m0_2, em0_2⟩ : ∃ z : Mem, z = up2 m0 9 (Int32.toNatClampNeg 1) x4 := ⟨_, rfl⟩
      have h1 := h.1
      have h := h.2 m0_2 em0_2
      refine st_i hx hb hK hP hD hS 9 0 (ww_X10 cI cJ q0 m0_2) rfl rfl h1 dX10_fastOf_89 (by subst em0_2; rfl) (fun H locs hP hD hS => ?_)
      refine lv_aload_n hx hb dX10_fastOf_90 rfl (lv_at hl 0 rfl) ?_
      refine lv_iload_n hx hb dX10_fastOf_91 rfl (lv_at hl 2 rfl) ?_
      refine call_v (run_V (As := [.int x2]) (rest := []) cx' (c_X10_feeds l H.size q0 m0_2 x2 _ h) mv_X10_feeds kw_914 rfl rfl ⟨Nat.le_of_ble_eq_true rfl, Nat.le_of_ble_eq_true rfl⟩ hP hD rfl rfl rfl hl.1 rfl (Nat.le_of_ble_eq_true rfl) dX10_fastOf_92 ⟨Nat.zero_le _, Nat.zero_le _⟩) hD hS hA (fun u9 H locs hP hD hS h => ?_)
      obtain ⟨m0_3, rfl⟩ : ∃ z, z = u9 := ⟨_, rfl⟩
      have hP : va_P (dC, dI) vwCl (ww_X10 cI cJ q0 m0_3) H := hP
      have hD : va_D A (ww_X10 cI cJ q0 m0_3) := hD
      refine lv_iload hx hb dX10_fastOf_95 (lv_at hl 5 rfl) ?_
      refine lv_iconst (v := (-1)) hx hb dX10_fastOf_97 (by decide) ?_
      refine lv_icmp_eq (tgt := 106) hx hb dX10_fastOf_98 (by decide) (fun c_4 => ?_) (fun c_4 => ?_)
      · have h := h.1 c_4
        refine lv_iload hx hb dX10_fastOf_106 (lv_at hl 5 rfl) ?_
        refine lv_goto (tgt := 116) hx hb dX10_fastOf_108 (by decide) ?_
        exact rt_i (v := x5) (u := m0_3) cx hP hD hS h dX10_fastOf_116
      have h := h.2 c_4
      refine lv_iload_n hx hb dX10_fastOf_101 rfl (lv_at hl 3 rfl) ?_
      refine lv_iconst (v := 1) hx hb dX10_fastOf_102 (by decide) ?_
      refine lv_icmp_ne (tgt := 111) hx hb dX10_fastOf_103 (by decide) (fun c_5 => ?_) (fun c_5 => ?_)
      · have h := h.1 c_5
        refine lv_iload hx hb dX10_fastOf_111 (lv_at hl 5 rfl) ?_
        refine callN_i (run_S (As := [.int x5]) (rest := []) (wc := []) cx' (c_X10_ones l H.size x5 _ h) ms_X10_ones kw_935 rfl rfl ⟨Nat.le_of_ble_eq_true rfl, Nat.le_of_ble_eq_true rfl⟩ nilP nilD (A := A) rfl hl.1 rfl (Nat.le_of_ble_eq_true rfl) dX10_fastOf_113 ⟨Nat.zero_le _, Nat.zero_le _⟩) hP hS hA (fun r_6 H locs hP hS h => ?_)
        exact rt_i (v := r_6) (u := m0_3) cx hP hD hS h dX10_fastOf_116
      have h := h.2 c_5
      refine lv_iload hx hb dX10_fastOf_106 (lv_at hl 5 rfl) ?_
      refine lv_goto (tgt := 116) hx hb dX10_fastOf_108 (by decide) ?_
      exact rt_i (v := x5) (u := m0_3) cx hP hD hS h dX10_fastOf_116
    have h := h.2 c_1
    refine lv_aload_n hx hb dX10_fastOf_25 rfl (lv_at hl 0 rfl) ?_
    refine gf_v (k := 11) (v := .ref (q0 9)) cx' hP 0 i_X10 rfl rfl (by decide) kw_726 rfl rfl dX10_fastOf_26 ?_
    refine lv_iconst (v := 1) hx hb dX10_fastOf_29 (by decide) ?_
    refine lv_iload hx hb dX10_fastOf_30 (lv_at hl 6 rfl) ?_
    obtain ⟨m0_7, em0_7⟩ : ∃ z : Mem, z = up2 m0 9 (Int32.toNatClampNeg 1) x6 := ⟨_, rfl⟩
    have h1 := h.1
    have h := h.2 m0_7 em0_7
    refine st_i hx hb hK hP hD hS 9 0 (ww_X10 cI cJ q0 m0_7) rfl rfl h1 dX10_fastOf_32 (by subst em0_7; rfl) (fun H locs hP hD hS => ?_)
    refine lv_aload_n hx hb dX10_fastOf_33 rfl (lv_at hl 0 rfl) ?_
    refine lv_iload_n hx hb dX10_fastOf_34 rfl (lv_at hl 2 rfl) ?_
    refine call_v (run_V (As := [.int x2]) (rest := []) cx' (c_X10_feeds l H.size q0 m0_7 x2 _ h) mv_X10_feeds kw_914 rfl rfl ⟨Nat.le_of_ble_eq_true rfl, Nat.le_of_ble_eq_true rfl⟩ hP hD rfl rfl rfl hl.1 rfl (Nat.le_of_ble_eq_true rfl) dX10_fastOf_35 ⟨Nat.zero_le _, Nat.zero_le _⟩) hD hS hA (fun u9 H locs hP hD hS h => ?_)
    obtain ⟨m0_8, rfl⟩ : ∃ z, z = u9 := ⟨_, rfl⟩
    have hP : va_P (dC, dI) vwCl (ww_X10 cI cJ q0 m0_8) H := hP
    have hD : va_D A (ww_X10 cI cJ q0 m0_8) := hD
    refine lv_aload_n hx hb dX10_fastOf_38 rfl (lv_at hl 0 rfl) ?_
    refine gf_v (k := 14) (v := .ref (q0 12)) cx' hP 0 i_X10 rfl rfl (by decide) kw_729 rfl rfl dX10_fastOf_39 ?_
    refine lv_iload_n hx hb dX10_fastOf_42 rfl (lv_at hl 2 rfl) ?_
    refine va_iald hx hb hK hP 12 0 rfl rfl h.1 dX10_fastOf_43 ?_
    have h := h.2
    refine lv_iload_n hx hb dX10_fastOf_44 rfl (lv_at hl 1 rfl) ?_
    refine lv_icmp_ne (tgt := 72) hx hb dX10_fastOf_45 (by decide) (fun c_9 => ?_) (fun c_9 => ?_)
    · have h := h.1 c_9
      exact w_X10_fastOf_72 cx hA ih x1 x2 x3 x4 x5 x6 m0_8 H locs ls hP hD hS (lv_sub hl [0, 1, 2, 3, 4, 5, 6] rfl) h
    have h := h.2 c_9
    refine lv_iload hx hb dX10_fastOf_48 (lv_at hl 5 rfl) ?_
    refine lv_iconst (v := (-1)) hx hb dX10_fastOf_50 (by decide) ?_
    refine lv_icmp_eq (tgt := 67) hx hb dX10_fastOf_51 (by decide) (fun c_10 => ?_) (fun c_10 => ?_)
    · have h := h.1 c_10
      exact w_X10_fastOf_67 cx hA ih x1 x2 x3 x4 x6 m0_8 H locs ls hP hD hS (lv_sub hl [0, 1, 2, 3, 4, 6] rfl) h
    have h := h.2 c_10
    refine lv_iload hx hb dX10_fastOf_54 (lv_at hl 6 rfl) ?_
    refine callN_i (run_S (As := [.int x6]) (rest := []) (wc := []) cx' (c_X10_ones l H.size x6 _ h) ms_X10_ones kw_935 rfl rfl ⟨Nat.le_of_ble_eq_true rfl, Nat.le_of_ble_eq_true rfl⟩ nilP nilD (A := A) rfl hl.1 rfl (Nat.le_of_ble_eq_true rfl) dX10_fastOf_56 ⟨Nat.zero_le _, Nat.zero_le _⟩) hP hS hA (fun r_11 H locs hP hS h => ?_)
    refine lv_iload hx hb dX10_fastOf_59 (lv_at hl 5 rfl) ?_
    refine callN_i (run_S (As := [.int x5]) (rest := [.int r_11]) (wc := []) cx' (c_X10_ones l H.size x5 _ h) ms_X10_ones kw_935 rfl rfl ⟨Nat.le_of_ble_eq_true rfl, Nat.le_of_ble_eq_true rfl⟩ nilP nilD (A := A) rfl hl.1 rfl (Nat.le_of_ble_eq_true rfl) dX10_fastOf_61 ⟨Nat.zero_le _, Nat.zero_le _⟩) hP hS hA (fun r_12 H locs hP hS h => ?_)
    refine lv_icmp_ge (tgt := 72) hx hb dX10_fastOf_64 (by decide) (fun c_13 => ?_) (fun c_13 => ?_)
    · have h := h.1 c_13
      exact w_X10_fastOf_72 cx hA ih x1 x2 x3 x4 x5 x6 m0_8 H locs ls hP hD hS (lv_sub hl [0, 1, 2, 3, 4, 5, 6] rfl) h
    have h := h.2 c_13
    exact w_X10_fastOf_67 cx hA ih x1 x2 x3 x4 x6 m0_8 H locs ls hP hD hS (lv_sub hl [0, 1, 2, 3, 4, 6] rfl) h
set_option maxHeartbeats 4000000 in
set_option maxRecDepth 100000 in
theorem w_X10_fastOf_0 {p : Program} {l : Launch} {e : Env} {s : State} {m : MethodId} {args : Array Value} {below : List Frame} {meth : Method} {c : Code} {dC : Nat → ClassId} {dI : Nat → Nat → Nat} {cI cJ : ClassId} {A : Nat → Prop} (cx : CX RX10 cX10_fastOf (some .int) 7 p s m args meth c (dC, dI) (TY cI cJ)) (hA : ∀ q, s.heap.size ≤ q → A q) {q0 : Nat → Nat} {post : Int32 → Mem → Prop} : ∀ (x1 : Int32) (x2 : Int32) (x3 : Int32) (m0 : Mem) (H : Heap) (locs : List Loc) (ls : Array Slot), va_P (dC, dI) vwCl (ww_X10 cI cJ q0 m0) H → va_D A (ww_X10 cI cJ q0 m0) → va_S A s.heap H locs → lv_has ls 7 [(0, .ref (q0 0)), (1, .int x1), (2, .int x2), (3, .int x3)] → b_X10_fastOf_0 post x1 x2 x3 m0 → W p l e ({ frames := 3, cells := 0, slots := 0, locals := 69 }) s m args below meth c H locs 0 0 (MQ below (va_Qi (S := Mem) (fun (r : Int32) (u : Mem) => post r u) (fun u t => AT (dC, dI) (TY cI cJ) A (ww_X10 cI cJ q0 u) t) A) args s 0 0 A) (F0 m 0 ls []) := by
  obtain ⟨hx, hb, hr, hml, hown, hts, hlocks, hK⟩ := id cx
  have cx' : CX RX10 cX10_fastOf (meth.sig.returnType) 7 p s m args meth c (dC, dI) (TY cI cJ) := ⟨hx, hb, rfl, hml, hown, hts, hlocks, hK⟩
  intro x1 x2 x3 m0 H locs ls hP hD hS hl h
  unfold b_X10_fastOf_0 at h
  refine lv_aload_n hx hb dX10_fastOf_0 rfl (lv_at hl 0 rfl) ?_
  refine gf_v (k := 11) (v := .ref (q0 9)) cx' hP 0 i_X10 rfl rfl (by decide) kw_726 rfl rfl dX10_fastOf_1 ?_
  refine lv_iconst (v := 1) hx hb dX10_fastOf_4 (by decide) ?_
  refine va_iald hx hb hK hP 9 0 rfl rfl h.1 dX10_fastOf_5 ?_
  have h := h.2
  refine lv_topi (fun x4_1 ex4_1 => ?_)
  have h := h x4_1 ex4_1
  refine lv_istore (lv' := [(4, .int x4_1), (0, .ref (q0 0)), (1, .int x1), (2, .int x2), (3, .int x3)]) hx hb dX10_fastOf_6 hl (by decide) rfl (fun ls hl => ?_)
  refine lv_iconst (v := (-1)) hx hb dX10_fastOf_8 (by decide) ?_
  refine lv_istore (lv' := [(5, .int (-1)), (4, .int x4_1), (0, .ref (q0 0)), (1, .int x1), (2, .int x2), (3, .int x3)]) hx hb dX10_fastOf_9 hl (by decide) rfl (fun ls hl => ?_)
  refine lv_iconst (v := 0) hx hb dX10_fastOf_11 (by decide) ?_
  refine lv_istore (lv' := [(6, .int 0), (5, .int (-1)), (4, .int x4_1), (0, .ref (q0 0)), (1, .int x1), (2, .int x2), (3, .int x3)]) hx hb dX10_fastOf_12 hl (by decide) rfl (fun ls hl => ?_)
  obtain ⟨n_2, h⟩ := h
  exact w_X10_fastOf_14 cx hA n_2 x1 x2 x3 x4_1 (-1) 0 m0 H locs ls hP hD hS (lv_sub hl [3, 4, 5, 6, 2, 1, 0] rfl) h
set_option maxRecDepth 100000 in
theorem c_X10_fastOf (l : Launch) {dC : Nat → ClassId} {dI : Nat → Nat → Nat} {cI cJ : ClassId} (sz : Nat) (q0 : Nat → Nat) (m0 : Mem) (x1 : Int32) (x2 : Int32) (x3 : Int32) (post : Int32 → Mem → Prop) (h : wp_X10_fastOf m0 x1 x2 x3 post) : Met l yX10_fastOf (Cond.code yX10_fastOf cX10_fastOf 7 (some .int) :: gt) ({ frames := 3, cells := 0, slots := 0, locals := 69 }) (va_Pc [.ref (q0 0), .int x1, .int x2, .int x3] (PRE (dC, dI) (TY cI cJ) (ww_X10 cI cJ q0 m0) sz)) (va_Qi (S := Mem) (fun (r : Int32) (u : Mem) => post r u) (fun u t => AT (dC, dI) (TY cI cJ) (va_A (ww_X10 cI cJ q0 m0) sz) (ww_X10 cI cJ q0 u) t) (va_A (ww_X10 cI cJ q0 m0) sz)) 0 0 (va_A (ww_X10 cI cJ q0 m0) sz) :=
  met_of (own := RX10) (Qf := fun A => va_Qi (S := Mem) (fun (r : Int32) (u : Mem) => post r u) (fun u t => AT (dC, dI) (TY cI cJ) A (ww_X10 cI cJ q0 u) t) A) (by decide) rfl (Nat.le_of_ble_eq_true rfl) rfl (fun p e s m below meth c A cx hA ls hP hD hS hl => w_X10_fastOf_0 cx hA x1 x2 x3 m0 _ _ ls hP hD hS hl h)
theorem mv_X10_fastOf : MV yX10_fastOf cX10_fastOf 7 (some .int) 3 := ⟨⟨kw_1001, kw_11, by decide +kernel⟩, kw_1000, ksel_41⟩
set_option maxHeartbeats 4000000 in
set_option maxRecDepth 100000 in
theorem w_X10_fast_0 {p : Program} {l : Launch} {e : Env} {s : State} {m : MethodId} {args : Array Value} {below : List Frame} {meth : Method} {c : Code} {dC : Nat → ClassId} {dI : Nat → Nat → Nat} {cI cJ : ClassId} {A : Nat → Prop} (cx : CX RX10 cX10_fast (some .int) 4 p s m args meth c (dC, dI) (TY cI cJ)) (hA : ∀ q, s.heap.size ≤ q → A q) {q0 : Nat → Nat} {post : Int32 → Mem → Prop} : ∀ (x1 : Int32) (x2 : Int32) (x3 : Int32) (m0 : Mem) (H : Heap) (locs : List Loc) (ls : Array Slot), va_P (dC, dI) vwCl (ww_X10 cI cJ q0 m0) H → va_D A (ww_X10 cI cJ q0 m0) → va_S A s.heap H locs → lv_has ls 4 [(0, .ref (q0 0)), (1, .int x1), (2, .int x2), (3, .int x3)] → b_X10_fast_0 post x1 x2 x3 m0 → W p l e ({ frames := 6, cells := 0, slots := 0, locals := 132 }) s m args below meth c H locs 0 0 (MQ below (va_Qi (S := Mem) (fun (r : Int32) (u : Mem) => post r u) (fun u t => AT (dC, dI) (TY cI cJ) A (ww_X10 cI cJ q0 u) t) A) args s 0 0 A) (F0 m 0 ls []) := by
  obtain ⟨hx, hb, hr, hml, hown, hts, hlocks, hK⟩ := id cx
  have cx' : CX RX10 cX10_fast (meth.sig.returnType) 4 p s m args meth c (dC, dI) (TY cI cJ) := ⟨hx, hb, rfl, hml, hown, hts, hlocks, hK⟩
  intro x1 x2 x3 m0 H locs ls hP hD hS hl h
  unfold b_X10_fast_0 at h
  refine lv_aload_n hx hb dX10_fast_0 rfl (lv_at hl 0 rfl) ?_
  refine call_v (run_V (As := []) (rest := []) cx' (c_X10_find l H.size q0 m0 _ h) mv_X10_find kw_906 rfl rfl ⟨Nat.le_of_ble_eq_true rfl, Nat.le_of_ble_eq_true rfl⟩ hP hD rfl rfl rfl hl.1 rfl (Nat.le_of_ble_eq_true rfl) dX10_fast_1 ⟨Nat.zero_le _, Nat.zero_le _⟩) hD hS hA (fun u9 H locs hP hD hS h => ?_)
  obtain ⟨m0_1, rfl⟩ : ∃ z, z = u9 := ⟨_, rfl⟩
  have hP : va_P (dC, dI) vwCl (ww_X10 cI cJ q0 m0_1) H := hP
  have hD : va_D A (ww_X10 cI cJ q0 m0_1) := hD
  refine lv_aload_n hx hb dX10_fast_4 rfl (lv_at hl 0 rfl) ?_
  refine lv_iload_n hx hb dX10_fast_5 rfl (lv_at hl 1 rfl) ?_
  refine call_i (run_V (As := [.int x1]) (rest := []) cx' (c_X10_isHouse l H.size q0 m0_1 x1 _ h) mv_X10_isHouse kw_873 rfl rfl ⟨Nat.le_of_ble_eq_true rfl, Nat.le_of_ble_eq_true rfl⟩ hP hD rfl rfl rfl hl.1 rfl (Nat.le_of_ble_eq_true rfl) dX10_fast_6 ⟨Nat.zero_le _, Nat.zero_le _⟩) hD hS hA (fun r_2 u9 H locs hP hD hS h => ?_)
  have hP : va_P (dC, dI) vwCl (ww_X10 cI cJ q0 m0_1) H := hP
  have hD : va_D A (ww_X10 cI cJ q0 m0_1) := hD
  refine lv_if_eq (tgt := 37) hx hb dX10_fast_9 (by decide) (fun c_3 => ?_) (fun c_3 => ?_)
  · have h := h.1 c_3
    refine lv_bipush (v := (-2)) hx hb dX10_fast_37 (by decide) ?_
    exact rt_i (v := (-2)) (u := m0_1) cx hP hD hS h dX10_fast_39
  have h := h.2 c_3
  refine lv_aload_n hx hb dX10_fast_12 rfl (lv_at hl 0 rfl) ?_
  refine lv_iload_n hx hb dX10_fast_13 rfl (lv_at hl 2 rfl) ?_
  refine call_i (run_V (As := [.int x2]) (rest := []) cx' (c_X10_isGuest l H.size q0 m0_1 x2 _ h) mv_X10_isGuest kw_881 rfl rfl ⟨Nat.le_of_ble_eq_true rfl, Nat.le_of_ble_eq_true rfl⟩ hP hD rfl rfl rfl hl.1 rfl (Nat.le_of_ble_eq_true rfl) dX10_fast_14 ⟨Nat.zero_le _, Nat.zero_le _⟩) hD hS hA (fun r_4 u9 H locs hP hD hS h => ?_)
  have hP : va_P (dC, dI) vwCl (ww_X10 cI cJ q0 m0_1) H := hP
  have hD : va_D A (ww_X10 cI cJ q0 m0_1) := hD
  refine lv_if_eq (tgt := 37) hx hb dX10_fast_17 (by decide) (fun c_5 => ?_) (fun c_5 => ?_)
  · have h := h.1 c_5
    refine lv_bipush (v := (-2)) hx hb dX10_fast_37 (by decide) ?_
    exact rt_i (v := (-2)) (u := m0_1) cx hP hD hS h dX10_fast_39
  have h := h.2 c_5
  refine lv_iload_n hx hb dX10_fast_20 rfl (lv_at hl 3 rfl) ?_
  refine callN_i (run_S (As := [.int x3]) (rest := []) (wc := []) cx' (c_X10_isTwo l H.size x3 _ h) ms_X10_isTwo kw_832 rfl rfl ⟨Nat.le_of_ble_eq_true rfl, Nat.le_of_ble_eq_true rfl⟩ nilP nilD (A := A) rfl hl.1 rfl (Nat.le_of_ble_eq_true rfl) dX10_fast_21 ⟨Nat.zero_le _, Nat.zero_le _⟩) hP hS hA (fun r_6 H locs hP hS h => ?_)
  refine lv_if_eq (tgt := 37) hx hb dX10_fast_24 (by decide) (fun c_7 => ?_) (fun c_7 => ?_)
  · have h := h.1 c_7
    refine lv_bipush (v := (-2)) hx hb dX10_fast_37 (by decide) ?_
    exact rt_i (v := (-2)) (u := m0_1) cx hP hD hS h dX10_fast_39
  have h := h.2 c_7
  refine lv_aload_n hx hb dX10_fast_27 rfl (lv_at hl 0 rfl) ?_
  refine lv_iload_n hx hb dX10_fast_28 rfl (lv_at hl 1 rfl) ?_
  refine lv_iload_n hx hb dX10_fast_29 rfl (lv_at hl 2 rfl) ?_
  refine lv_iload_n hx hb dX10_fast_30 rfl (lv_at hl 3 rfl) ?_
  refine call_i (run_V (As := [.int x1, .int x2, .int x3]) (rest := []) cx' (c_X10_fastOf l H.size q0 m0_1 x1 x2 x3 _ h) mv_X10_fastOf kw_998 rfl rfl ⟨Nat.le_of_ble_eq_true rfl, Nat.le_of_ble_eq_true rfl⟩ hP hD rfl rfl rfl hl.1 rfl (Nat.le_of_ble_eq_true rfl) dX10_fast_31 ⟨Nat.zero_le _, Nat.zero_le _⟩) hD hS hA (fun r_8 u9 H locs hP hD hS h => ?_)
  obtain ⟨m0_9, rfl⟩ : ∃ z, z = u9 := ⟨_, rfl⟩
  have hP : va_P (dC, dI) vwCl (ww_X10 cI cJ q0 m0_9) H := hP
  have hD : va_D A (ww_X10 cI cJ q0 m0_9) := hD
  refine lv_goto (tgt := 39) hx hb dX10_fast_34 (by decide) ?_
  exact rt_i (v := r_8) (u := m0_9) cx hP hD hS h dX10_fast_39
set_option maxRecDepth 100000 in
theorem c_X10_fast (l : Launch) {dC : Nat → ClassId} {dI : Nat → Nat → Nat} {cI cJ : ClassId} (sz : Nat) (q0 : Nat → Nat) (m0 : Mem) (x1 : Int32) (x2 : Int32) (x3 : Int32) (post : Int32 → Mem → Prop) (h : wp_X10_fast m0 x1 x2 x3 post) : Met l yX10_fast (Cond.code yX10_fast cX10_fast 4 (some .int) :: gt) ({ frames := 6, cells := 0, slots := 0, locals := 132 }) (va_Pc [.ref (q0 0), .int x1, .int x2, .int x3] (PRE (dC, dI) (TY cI cJ) (ww_X10 cI cJ q0 m0) sz)) (va_Qi (S := Mem) (fun (r : Int32) (u : Mem) => post r u) (fun u t => AT (dC, dI) (TY cI cJ) (va_A (ww_X10 cI cJ q0 m0) sz) (ww_X10 cI cJ q0 u) t) (va_A (ww_X10 cI cJ q0 m0) sz)) 0 0 (va_A (ww_X10 cI cJ q0 m0) sz) :=
  met_of (own := RX10) (Qf := fun A => va_Qi (S := Mem) (fun (r : Int32) (u : Mem) => post r u) (fun u t => AT (dC, dI) (TY cI cJ) A (ww_X10 cI cJ q0 u) t) A) (by decide) rfl (Nat.le_of_ble_eq_true rfl) rfl (fun p e s m below meth c A cx hA ls hP hD hS hl => w_X10_fast_0 cx hA x1 x2 x3 m0 _ _ ls hP hD hS hl h)
theorem mv_X10_fast : MV yX10_fast cX10_fast 4 (some .int) 3 := ⟨⟨kw_997, kw_11, by decide +kernel⟩, kw_995, kw_996⟩
set_option maxHeartbeats 4000000 in
set_option maxRecDepth 100000 in
theorem w_X10_soupOf_18 {p : Program} {l : Launch} {e : Env} {s : State} {m : MethodId} {args : Array Value} {below : List Frame} {meth : Method} {c : Code} {dC : Nat → ClassId} {dI : Nat → Nat → Nat} {cI cJ : ClassId} {A : Nat → Prop} (cx : CX RX10 cX10_soupOf (some .int) 6 p s m args meth c (dC, dI) (TY cI cJ)) (hA : ∀ q, s.heap.size ≤ q → A q) {q0 : Nat → Nat} {post : Int32 → Mem → Prop} : ∀ (n : Nat) (x1 : Int32) (x2 : Int32) (x3 : Int32) (x4 : Int32) (x5 : Int32) (m0 : Mem) (H : Heap) (locs : List Loc) (ls : Array Slot), va_P (dC, dI) vwCl (ww_X10 cI cJ q0 m0) H → va_D A (ww_X10 cI cJ q0 m0) → va_S A s.heap H locs → lv_has ls 6 [(0, .ref (q0 0)), (1, .int x1), (2, .int x2), (3, .int x3), (4, .int x4), (5, .int x5)] → b_X10_soupOf_18 post n x1 x2 x3 x4 x5 m0 → W p l e ({ frames := 3, cells := 0, slots := 0, locals := 69 }) s m args below meth c H locs 0 0 (MQ below (va_Qi (S := Mem) (fun (r : Int32) (u : Mem) => post r u) (fun u t => AT (dC, dI) (TY cI cJ) A (ww_X10 cI cJ q0 u) t) A) args s 0 0 A) (F0 m 18 ls []) := by
  obtain ⟨hx, hb, hr, hml, hown, hts, hlocks, hK⟩ := id cx
  have cx' : CX RX10 cX10_soupOf (meth.sig.returnType) 6 p s m args meth c (dC, dI) (TY cI cJ) := ⟨hx, hb, rfl, hml, hown, hts, hlocks, hK⟩
  intro n
  induction n with
  | zero =>
    intro x1 x2 x3 x4 x5 m0 H locs ls hP hD hS hl h
    exact False.elim h
  | succ n ih =>
    intro x1 x2 x3 x4 x5 m0 H locs ls hP hD hS hl h
    unfold b_X10_soupOf_18 at h
    refine lv_iload hx hb dX10_soupOf_18 (lv_at hl 5 rfl) ?_
    refine lv_if_le (tgt := 65) hx hb dX10_soupOf_20 (by decide) (fun c_1 => ?_) (fun c_1 => ?_)
    · have h := h.1 c_1
      refine lv_aload_n hx hb dX10_soupOf_65 rfl (lv_at hl 0 rfl) ?_
      refine gf_v (k := 8) (v := .ref (q0 7)) cx' hP 0 i_X10 rfl rfl (by decide) kw_723 rfl rfl dX10_soupOf_66 ?_
      refine lv_iconst (v := 3) hx hb dX10_soupOf_69 (by decide) ?_
      refine lv_iload_n hx hb dX10_soupOf_70 rfl (lv_at hl 1 rfl) ?_
      refine lv_imul hx hb dX10_soupOf_71 ?_
      refine lv_iconst (v := 1) hx hb dX10_soupOf_72 (by decide) ?_
      refine lv_iadd hx hb dX10_soupOf_73 ?_
      refine lv_iload_n hx hb dX10_soupOf_74 rfl (lv_at hl 3 rfl) ?_
      obtain ⟨m0_2, em0_2⟩ : ∃ z : Mem, z = up2 m0 7 (Int32.toNatClampNeg ((3 * x1) + 1)) x3 := ⟨_, rfl⟩
      have h1 := h.1
      have h := h.2 m0_2 em0_2
      refine st_i hx hb hK hP hD hS 7 0 (ww_X10 cI cJ q0 m0_2) rfl rfl h1 dX10_soupOf_75 (by subst em0_2; rfl) (fun H locs hP hD hS => ?_)
      refine lv_aload_n hx hb dX10_soupOf_76 rfl (lv_at hl 0 rfl) ?_
      refine lv_iload_n hx hb dX10_soupOf_77 rfl (lv_at hl 2 rfl) ?_
      refine call_v (run_V (As := [.int x2]) (rest := []) cx' (c_X10_feeds l H.size q0 m0_2 x2 _ h) mv_X10_feeds kw_914 rfl rfl ⟨Nat.le_of_ble_eq_true rfl, Nat.le_of_ble_eq_true rfl⟩ hP hD rfl rfl rfl hl.1 rfl (Nat.le_of_ble_eq_true rfl) dX10_soupOf_78 ⟨Nat.zero_le _, Nat.zero_le _⟩) hD hS hA (fun u9 H locs hP hD hS h => ?_)
      obtain ⟨m0_3, rfl⟩ : ∃ z, z = u9 := ⟨_, rfl⟩
      have hP : va_P (dC, dI) vwCl (ww_X10 cI cJ q0 m0_3) H := hP
      have hD : va_D A (ww_X10 cI cJ q0 m0_3) := hD
      refine lv_iload hx hb dX10_soupOf_81 (lv_at hl 4 rfl) ?_
      exact rt_i (v := x4) (u := m0_3) cx hP hD hS h dX10_soupOf_83
    have h := h.2 c_1
    refine lv_aload_n hx hb dX10_soupOf_23 rfl (lv_at hl 0 rfl) ?_
    refine gf_v (k := 8) (v := .ref (q0 7)) cx' hP 0 i_X10 rfl rfl (by decide) kw_723 rfl rfl dX10_soupOf_24 ?_
    refine lv_iconst (v := 3) hx hb dX10_soupOf_27 (by decide) ?_
    refine lv_iload_n hx hb dX10_soupOf_28 rfl (lv_at hl 1 rfl) ?_
    refine lv_imul hx hb dX10_soupOf_29 ?_
    refine lv_iconst (v := 1) hx hb dX10_soupOf_30 (by decide) ?_
    refine lv_iadd hx hb dX10_soupOf_31 ?_
    refine lv_iload hx hb dX10_soupOf_32 (lv_at hl 5 rfl) ?_
    obtain ⟨m0_4, em0_4⟩ : ∃ z : Mem, z = up2 m0 7 (Int32.toNatClampNeg ((3 * x1) + 1)) x5 := ⟨_, rfl⟩
    have h1 := h.1
    have h := h.2 m0_4 em0_4
    refine st_i hx hb hK hP hD hS 7 0 (ww_X10 cI cJ q0 m0_4) rfl rfl h1 dX10_soupOf_34 (by subst em0_4; rfl) (fun H locs hP hD hS => ?_)
    refine lv_aload_n hx hb dX10_soupOf_35 rfl (lv_at hl 0 rfl) ?_
    refine lv_iload_n hx hb dX10_soupOf_36 rfl (lv_at hl 2 rfl) ?_
    refine call_v (run_V (As := [.int x2]) (rest := []) cx' (c_X10_feeds l H.size q0 m0_4 x2 _ h) mv_X10_feeds kw_914 rfl rfl ⟨Nat.le_of_ble_eq_true rfl, Nat.le_of_ble_eq_true rfl⟩ hP hD rfl rfl rfl hl.1 rfl (Nat.le_of_ble_eq_true rfl) dX10_soupOf_37 ⟨Nat.zero_le _, Nat.zero_le _⟩) hD hS hA (fun u9 H locs hP hD hS h => ?_)
    obtain ⟨m0_5, rfl⟩ : ∃ z, z = u9 := ⟨_, rfl⟩
    have hP : va_P (dC, dI) vwCl (ww_X10 cI cJ q0 m0_5) H := hP
    have hD : va_D A (ww_X10 cI cJ q0 m0_5) := hD
    refine lv_aload_n hx hb dX10_soupOf_40 rfl (lv_at hl 0 rfl) ?_
    refine gf_v (k := 14) (v := .ref (q0 12)) cx' hP 0 i_X10 rfl rfl (by decide) kw_729 rfl rfl dX10_soupOf_41 ?_
    refine lv_iload_n hx hb dX10_soupOf_44 rfl (lv_at hl 2 rfl) ?_
    refine va_iald hx hb hK hP 12 0 rfl rfl h.1 dX10_soupOf_45 ?_
    have h := h.2
    refine lv_iload_n hx hb dX10_soupOf_46 rfl (lv_at hl 1 rfl) ?_
    refine dia_i (ls := ls) (c0 := (m0_5 12 (Int32.toNatClampNeg x2)) = x1) (a := x5) (b := x4) (J := 57) (rest := []) (fun K => ?_) (fun v_7 ev_7 => ?_)
    · refine lv_icmp_ne (tgt := 55) hx hb dX10_soupOf_47 (by decide) (fun c_6 => ?_) (fun c_6 => ?_)
      · refine lv_iload hx hb dX10_soupOf_55 (lv_at hl 4 rfl) ?_
        exact K _ (Or.inr ⟨c_6, rfl⟩)
      · refine lv_iload hx hb dX10_soupOf_50 (lv_at hl 5 rfl) ?_
        refine lv_goto (tgt := 57) hx hb dX10_soupOf_52 (by decide) ?_
        exact K _ (Or.inl ⟨c_6, rfl⟩)
    have h := h v_7 ev_7
    refine lv_istore (lv' := [(4, .int v_7), (0, .ref (q0 0)), (1, .int x1), (2, .int x2), (3, .int x3), (5, .int x5)]) hx hb dX10_soupOf_57 hl (by decide) rfl (fun ls hl => ?_)
    obtain ⟨x5_8, ex5_8⟩ : ∃ z : Int32, z = x5 + (-1) := ⟨_, rfl⟩
    have h := h x5_8 ex5_8
    refine lv_iinc (v := x5_8) (lv' := [(5, .int x5_8), (4, .int v_7), (0, .ref (q0 0)), (1, .int x1), (2, .int x2), (3, .int x3)]) hx hb dX10_soupOf_59 hl (k := 5) rfl (by rw [ex5_8]; rfl) (by decide) rfl (fun ls hl => ?_)
    refine lv_goto (tgt := 18) hx hb dX10_soupOf_62 (by decide) ?_
    exact ih x1 x2 x3 v_7 x5_8 m0_5 H locs ls hP hD hS (lv_sub hl [2, 3, 4, 5, 1, 0] rfl) h
set_option maxHeartbeats 4000000 in
set_option maxRecDepth 100000 in
theorem w_X10_soupOf_0 {p : Program} {l : Launch} {e : Env} {s : State} {m : MethodId} {args : Array Value} {below : List Frame} {meth : Method} {c : Code} {dC : Nat → ClassId} {dI : Nat → Nat → Nat} {cI cJ : ClassId} {A : Nat → Prop} (cx : CX RX10 cX10_soupOf (some .int) 6 p s m args meth c (dC, dI) (TY cI cJ)) (hA : ∀ q, s.heap.size ≤ q → A q) {q0 : Nat → Nat} {post : Int32 → Mem → Prop} : ∀ (x1 : Int32) (x2 : Int32) (m0 : Mem) (H : Heap) (locs : List Loc) (ls : Array Slot), va_P (dC, dI) vwCl (ww_X10 cI cJ q0 m0) H → va_D A (ww_X10 cI cJ q0 m0) → va_S A s.heap H locs → lv_has ls 6 [(0, .ref (q0 0)), (1, .int x1), (2, .int x2)] → b_X10_soupOf_0 post x1 x2 m0 → W p l e ({ frames := 3, cells := 0, slots := 0, locals := 69 }) s m args below meth c H locs 0 0 (MQ below (va_Qi (S := Mem) (fun (r : Int32) (u : Mem) => post r u) (fun u t => AT (dC, dI) (TY cI cJ) A (ww_X10 cI cJ q0 u) t) A) args s 0 0 A) (F0 m 0 ls []) := by
  obtain ⟨hx, hb, hr, hml, hown, hts, hlocks, hK⟩ := id cx
  have cx' : CX RX10 cX10_soupOf (meth.sig.returnType) 6 p s m args meth c (dC, dI) (TY cI cJ) := ⟨hx, hb, rfl, hml, hown, hts, hlocks, hK⟩
  intro x1 x2 m0 H locs ls hP hD hS hl h
  unfold b_X10_soupOf_0 at h
  refine lv_aload_n hx hb dX10_soupOf_0 rfl (lv_at hl 0 rfl) ?_
  refine gf_v (k := 8) (v := .ref (q0 7)) cx' hP 0 i_X10 rfl rfl (by decide) kw_723 rfl rfl dX10_soupOf_1 ?_
  refine lv_iconst (v := 3) hx hb dX10_soupOf_4 (by decide) ?_
  refine lv_iload_n hx hb dX10_soupOf_5 rfl (lv_at hl 1 rfl) ?_
  refine lv_imul hx hb dX10_soupOf_6 ?_
  refine lv_iconst (v := 1) hx hb dX10_soupOf_7 (by decide) ?_
  refine lv_iadd hx hb dX10_soupOf_8 ?_
  refine va_iald hx hb hK hP 7 0 rfl rfl h.1 dX10_soupOf_9 ?_
  have h := h.2
  refine lv_topi (fun x3_1 ex3_1 => ?_)
  have h := h x3_1 ex3_1
  refine lv_istore_n (lv' := [(3, .int x3_1), (0, .ref (q0 0)), (1, .int x1), (2, .int x2)]) hx hb dX10_soupOf_10 rfl hl (by decide) rfl (fun ls hl => ?_)
  refine lv_iconst (v := (-1)) hx hb dX10_soupOf_11 (by decide) ?_
  refine lv_istore (lv' := [(4, .int (-1)), (3, .int x3_1), (0, .ref (q0 0)), (1, .int x1), (2, .int x2)]) hx hb dX10_soupOf_12 hl (by decide) rfl (fun ls hl => ?_)
  refine lv_bipush (v := 9) hx hb dX10_soupOf_14 (by decide) ?_
  refine lv_istore (lv' := [(5, .int 9), (4, .int (-1)), (3, .int x3_1), (0, .ref (q0 0)), (1, .int x1), (2, .int x2)]) hx hb dX10_soupOf_16 hl (by decide) rfl (fun ls hl => ?_)
  obtain ⟨n_2, h⟩ := h
  exact w_X10_soupOf_18 cx hA n_2 x1 x2 x3_1 (-1) 9 m0 H locs ls hP hD hS (lv_sub hl [3, 4, 5, 2, 1, 0] rfl) h
set_option maxRecDepth 100000 in
theorem c_X10_soupOf (l : Launch) {dC : Nat → ClassId} {dI : Nat → Nat → Nat} {cI cJ : ClassId} (sz : Nat) (q0 : Nat → Nat) (m0 : Mem) (x1 : Int32) (x2 : Int32) (post : Int32 → Mem → Prop) (h : wp_X10_soupOf m0 x1 x2 post) : Met l yX10_soupOf (Cond.code yX10_soupOf cX10_soupOf 6 (some .int) :: gt) ({ frames := 3, cells := 0, slots := 0, locals := 69 }) (va_Pc [.ref (q0 0), .int x1, .int x2] (PRE (dC, dI) (TY cI cJ) (ww_X10 cI cJ q0 m0) sz)) (va_Qi (S := Mem) (fun (r : Int32) (u : Mem) => post r u) (fun u t => AT (dC, dI) (TY cI cJ) (va_A (ww_X10 cI cJ q0 m0) sz) (ww_X10 cI cJ q0 u) t) (va_A (ww_X10 cI cJ q0 m0) sz)) 0 0 (va_A (ww_X10 cI cJ q0 m0) sz) :=
  met_of (own := RX10) (Qf := fun A => va_Qi (S := Mem) (fun (r : Int32) (u : Mem) => post r u) (fun u t => AT (dC, dI) (TY cI cJ) A (ww_X10 cI cJ q0 u) t) A) (by decide) rfl (Nat.le_of_ble_eq_true rfl) rfl (fun p e s m below meth c A cx hA ls hP hD hS hl => w_X10_soupOf_0 cx hA x1 x2 m0 _ _ ls hP hD hS hl h)
theorem mv_X10_soupOf : MV yX10_soupOf cX10_soupOf 6 (some .int) 2 := ⟨⟨kw_1009, kw_11, by decide +kernel⟩, kw_1008, ksel_42⟩
set_option maxHeartbeats 4000000 in
set_option maxRecDepth 100000 in
theorem w_X10_soup_0 {p : Program} {l : Launch} {e : Env} {s : State} {m : MethodId} {args : Array Value} {below : List Frame} {meth : Method} {c : Code} {dC : Nat → ClassId} {dI : Nat → Nat → Nat} {cI cJ : ClassId} {A : Nat → Prop} (cx : CX RX10 cX10_soup (some .int) 3 p s m args meth c (dC, dI) (TY cI cJ)) (hA : ∀ q, s.heap.size ≤ q → A q) {q0 : Nat → Nat} {post : Int32 → Mem → Prop} : ∀ (x1 : Int32) (x2 : Int32) (m0 : Mem) (H : Heap) (locs : List Loc) (ls : Array Slot), va_P (dC, dI) vwCl (ww_X10 cI cJ q0 m0) H → va_D A (ww_X10 cI cJ q0 m0) → va_S A s.heap H locs → lv_has ls 3 [(0, .ref (q0 0)), (1, .int x1), (2, .int x2)] → b_X10_soup_0 post x1 x2 m0 → W p l e ({ frames := 6, cells := 0, slots := 0, locals := 132 }) s m args below meth c H locs 0 0 (MQ below (va_Qi (S := Mem) (fun (r : Int32) (u : Mem) => post r u) (fun u t => AT (dC, dI) (TY cI cJ) A (ww_X10 cI cJ q0 u) t) A) args s 0 0 A) (F0 m 0 ls []) := by
  obtain ⟨hx, hb, hr, hml, hown, hts, hlocks, hK⟩ := id cx
  have cx' : CX RX10 cX10_soup (meth.sig.returnType) 3 p s m args meth c (dC, dI) (TY cI cJ) := ⟨hx, hb, rfl, hml, hown, hts, hlocks, hK⟩
  intro x1 x2 m0 H locs ls hP hD hS hl h
  unfold b_X10_soup_0 at h
  refine lv_aload_n hx hb dX10_soup_0 rfl (lv_at hl 0 rfl) ?_
  refine call_v (run_V (As := []) (rest := []) cx' (c_X10_find l H.size q0 m0 _ h) mv_X10_find kw_906 rfl rfl ⟨Nat.le_of_ble_eq_true rfl, Nat.le_of_ble_eq_true rfl⟩ hP hD rfl rfl rfl hl.1 rfl (Nat.le_of_ble_eq_true rfl) dX10_soup_1 ⟨Nat.zero_le _, Nat.zero_le _⟩) hD hS hA (fun u9 H locs hP hD hS h => ?_)
  obtain ⟨m0_1, rfl⟩ : ∃ z, z = u9 := ⟨_, rfl⟩
  have hP : va_P (dC, dI) vwCl (ww_X10 cI cJ q0 m0_1) H := hP
  have hD : va_D A (ww_X10 cI cJ q0 m0_1) := hD
  refine lv_aload_n hx hb dX10_soup_4 rfl (lv_at hl 0 rfl) ?_
  refine lv_iload_n hx hb dX10_soup_5 rfl (lv_at hl 1 rfl) ?_
  refine call_i (run_V (As := [.int x1]) (rest := []) cx' (c_X10_isHouse l H.size q0 m0_1 x1 _ h) mv_X10_isHouse kw_873 rfl rfl ⟨Nat.le_of_ble_eq_true rfl, Nat.le_of_ble_eq_true rfl⟩ hP hD rfl rfl rfl hl.1 rfl (Nat.le_of_ble_eq_true rfl) dX10_soup_6 ⟨Nat.zero_le _, Nat.zero_le _⟩) hD hS hA (fun r_2 u9 H locs hP hD hS h => ?_)
  have hP : va_P (dC, dI) vwCl (ww_X10 cI cJ q0 m0_1) H := hP
  have hD : va_D A (ww_X10 cI cJ q0 m0_1) := hD
  refine lv_if_eq (tgt := 29) hx hb dX10_soup_9 (by decide) (fun c_3 => ?_) (fun c_3 => ?_)
  · have h := h.1 c_3
    refine lv_bipush (v := (-2)) hx hb dX10_soup_29 (by decide) ?_
    exact rt_i (v := (-2)) (u := m0_1) cx hP hD hS h dX10_soup_31
  have h := h.2 c_3
  refine lv_aload_n hx hb dX10_soup_12 rfl (lv_at hl 0 rfl) ?_
  refine lv_iload_n hx hb dX10_soup_13 rfl (lv_at hl 2 rfl) ?_
  refine call_i (run_V (As := [.int x2]) (rest := []) cx' (c_X10_isGuest l H.size q0 m0_1 x2 _ h) mv_X10_isGuest kw_881 rfl rfl ⟨Nat.le_of_ble_eq_true rfl, Nat.le_of_ble_eq_true rfl⟩ hP hD rfl rfl rfl hl.1 rfl (Nat.le_of_ble_eq_true rfl) dX10_soup_14 ⟨Nat.zero_le _, Nat.zero_le _⟩) hD hS hA (fun r_4 u9 H locs hP hD hS h => ?_)
  have hP : va_P (dC, dI) vwCl (ww_X10 cI cJ q0 m0_1) H := hP
  have hD : va_D A (ww_X10 cI cJ q0 m0_1) := hD
  refine lv_if_eq (tgt := 29) hx hb dX10_soup_17 (by decide) (fun c_5 => ?_) (fun c_5 => ?_)
  · have h := h.1 c_5
    refine lv_bipush (v := (-2)) hx hb dX10_soup_29 (by decide) ?_
    exact rt_i (v := (-2)) (u := m0_1) cx hP hD hS h dX10_soup_31
  have h := h.2 c_5
  refine lv_aload_n hx hb dX10_soup_20 rfl (lv_at hl 0 rfl) ?_
  refine lv_iload_n hx hb dX10_soup_21 rfl (lv_at hl 1 rfl) ?_
  refine lv_iload_n hx hb dX10_soup_22 rfl (lv_at hl 2 rfl) ?_
  refine call_i (run_V (As := [.int x1, .int x2]) (rest := []) cx' (c_X10_soupOf l H.size q0 m0_1 x1 x2 _ h) mv_X10_soupOf kw_1006 rfl rfl ⟨Nat.le_of_ble_eq_true rfl, Nat.le_of_ble_eq_true rfl⟩ hP hD rfl rfl rfl hl.1 rfl (Nat.le_of_ble_eq_true rfl) dX10_soup_23 ⟨Nat.zero_le _, Nat.zero_le _⟩) hD hS hA (fun r_6 u9 H locs hP hD hS h => ?_)
  obtain ⟨m0_7, rfl⟩ : ∃ z, z = u9 := ⟨_, rfl⟩
  have hP : va_P (dC, dI) vwCl (ww_X10 cI cJ q0 m0_7) H := hP
  have hD : va_D A (ww_X10 cI cJ q0 m0_7) := hD
  refine lv_goto (tgt := 31) hx hb dX10_soup_26 (by decide) ?_
  exact rt_i (v := r_6) (u := m0_7) cx hP hD hS h dX10_soup_31
set_option maxRecDepth 100000 in
theorem c_X10_soup (l : Launch) {dC : Nat → ClassId} {dI : Nat → Nat → Nat} {cI cJ : ClassId} (sz : Nat) (q0 : Nat → Nat) (m0 : Mem) (x1 : Int32) (x2 : Int32) (post : Int32 → Mem → Prop) (h : wp_X10_soup m0 x1 x2 post) : Met l yX10_soup (Cond.code yX10_soup cX10_soup 3 (some .int) :: gt) ({ frames := 6, cells := 0, slots := 0, locals := 132 }) (va_Pc [.ref (q0 0), .int x1, .int x2] (PRE (dC, dI) (TY cI cJ) (ww_X10 cI cJ q0 m0) sz)) (va_Qi (S := Mem) (fun (r : Int32) (u : Mem) => post r u) (fun u t => AT (dC, dI) (TY cI cJ) (va_A (ww_X10 cI cJ q0 m0) sz) (ww_X10 cI cJ q0 u) t) (va_A (ww_X10 cI cJ q0 m0) sz)) 0 0 (va_A (ww_X10 cI cJ q0 m0) sz) :=
  met_of (own := RX10) (Qf := fun A => va_Qi (S := Mem) (fun (r : Int32) (u : Mem) => post r u) (fun u t => AT (dC, dI) (TY cI cJ) A (ww_X10 cI cJ q0 u) t) A) (by decide) rfl (Nat.le_of_ble_eq_true rfl) rfl (fun p e s m below meth c A cx hA ls hP hD hS hl => w_X10_soup_0 cx hA x1 x2 m0 _ _ ls hP hD hS hl h)
theorem mv_X10_soup : MV yX10_soup cX10_soup 3 (some .int) 2 := ⟨⟨kw_1005, kw_11, by decide +kernel⟩, kw_1003, kw_1004⟩
set_option maxHeartbeats 4000000 in
set_option maxRecDepth 100000 in
theorem w_X10_seen_0 {p : Program} {l : Launch} {e : Env} {s : State} {m : MethodId} {args : Array Value} {below : List Frame} {meth : Method} {c : Code} {dC : Nat → ClassId} {dI : Nat → Nat → Nat} {cI cJ : ClassId} {A : Nat → Prop} (cx : CX RX10 cX10_seen (some .int) 3 p s m args meth c (dC, dI) (TY cI cJ)) (hA : ∀ q, s.heap.size ≤ q → A q) {q0 : Nat → Nat} {post : Int32 → Mem → Prop} : ∀ (x1 : Int32) (x2 : Int32) (m0 : Mem) (H : Heap) (locs : List Loc) (ls : Array Slot), va_P (dC, dI) vwCl (ww_X10 cI cJ q0 m0) H → va_D A (ww_X10 cI cJ q0 m0) → va_S A s.heap H locs → lv_has ls 3 [(0, .ref (q0 0)), (1, .int x1), (2, .int x2)] → b_X10_seen_0 post x1 x2 m0 → W p l e ({ frames := 1, cells := 0, slots := 0, locals := 25 }) s m args below meth c H locs 0 0 (MQ below (va_Qi (S := Mem) (fun (r : Int32) (u : Mem) => post r u) (fun u t => AT (dC, dI) (TY cI cJ) A (ww_X10 cI cJ q0 u) t) A) args s 0 0 A) (F0 m 0 ls []) := by
  obtain ⟨hx, hb, hr, hml, hown, hts, hlocks, hK⟩ := id cx
  have cx' : CX RX10 cX10_seen (meth.sig.returnType) 3 p s m args meth c (dC, dI) (TY cI cJ) := ⟨hx, hb, rfl, hml, hown, hts, hlocks, hK⟩
  intro x1 x2 m0 H locs ls hP hD hS hl h
  unfold b_X10_seen_0 at h
  refine lv_iload_n hx hb dX10_seen_0 rfl (lv_at hl 1 rfl) ?_
  refine lv_i2l (v := Int32.toInt64 x1) hx hb dX10_seen_1 rfl ?_
  refine lv_lconst (v := 0) hx hb dX10_seen_2 (by decide) ?_
  refine lv_ldc2 hx hb hown (hts _ kw_901) dX10_seen_3 ?_
  refine callN_i (run_S (As := [.long (Int32.toInt64 x1), .long 0, .long 7]) (rest := []) (wc := []) cx' (c_X10_in l H.size (Int32.toInt64 x1) 0 7 _ h) ms_X10_in kw_796 rfl rfl ⟨Nat.le_of_ble_eq_true rfl, Nat.le_of_ble_eq_true rfl⟩ nilP nilD (A := A) rfl hl.1 rfl (Nat.le_of_ble_eq_true rfl) dX10_seen_6 ⟨Nat.zero_le _, Nat.zero_le _⟩) hP hS hA (fun r_1 H locs hP hS h => ?_)
  refine lv_if_eq (tgt := 24) hx hb dX10_seen_9 (by decide) (fun c_2 => ?_) (fun c_2 => ?_)
  · have h := h.1 c_2
    refine lv_bipush (v := (-2)) hx hb dX10_seen_24 (by decide) ?_
    exact rt_i (v := (-2)) (u := m0) cx hP hD hS h dX10_seen_26
  have h := h.2 c_2
  refine lv_iload_n hx hb dX10_seen_12 rfl (lv_at hl 2 rfl) ?_
  refine lv_i2l (v := Int32.toInt64 x2) hx hb dX10_seen_13 rfl ?_
  refine lv_lconst (v := 0) hx hb dX10_seen_14 (by decide) ?_
  refine lv_ldc2 hx hb hown (hts _ kw_1014) dX10_seen_15 ?_
  refine callN_i (run_S (As := [.long (Int32.toInt64 x2), .long 0, .long 999]) (rest := []) (wc := []) cx' (c_X10_in l H.size (Int32.toInt64 x2) 0 999 _ h) ms_X10_in kw_796 rfl rfl ⟨Nat.le_of_ble_eq_true rfl, Nat.le_of_ble_eq_true rfl⟩ nilP nilD (A := A) rfl hl.1 rfl (Nat.le_of_ble_eq_true rfl) dX10_seen_18 ⟨Nat.zero_le _, Nat.zero_le _⟩) hP hS hA (fun r_3 H locs hP hS h => ?_)
  refine lv_if_ne (tgt := 27) hx hb dX10_seen_21 (by decide) (fun c_4 => ?_) (fun c_4 => ?_)
  · have h := h.1 c_4
    refine lv_aload_n hx hb dX10_seen_27 rfl (lv_at hl 0 rfl) ?_
    refine gf_v (k := 21) (v := .int (m0 0 21)) cx' hP 0 i_X10 rfl rfl (by decide) kw_736 rfl rfl dX10_seen_28 ?_
    refine lv_bipush (v := 8) hx hb dX10_seen_31 (by decide) ?_
    refine lv_icmp_ne (tgt := 39) hx hb dX10_seen_33 (by decide) (fun c_5 => ?_) (fun c_5 => ?_)
    · have h := h.1 c_5
      refine lv_aload_n hx hb dX10_seen_39 rfl (lv_at hl 0 rfl) ?_
      refine gf_v (k := 22) (v := .ref (q0 16)) cx' hP 0 i_X10 rfl rfl (by decide) kw_737 rfl rfl dX10_seen_40 ?_
      refine lv_iconst (v := 2) hx hb dX10_seen_43 (by decide) ?_
      refine lv_aload_n hx hb dX10_seen_44 rfl (lv_at hl 0 rfl) ?_
      refine gf_v (k := 21) (v := .int (m0 0 21)) cx' hP 0 i_X10 rfl rfl (by decide) kw_736 rfl rfl dX10_seen_45 ?_
      refine lv_imul hx hb dX10_seen_48 ?_
      refine lv_iload_n hx hb dX10_seen_49 rfl (lv_at hl 1 rfl) ?_
      obtain ⟨m0_6, em0_6⟩ : ∃ z : Mem, z = up2 m0 16 (Int32.toNatClampNeg (2 * (m0 0 21))) x1 := ⟨_, rfl⟩
      have h1 := h.1
      have h := h.2 m0_6 em0_6
      refine st_i hx hb hK hP hD hS 16 0 (ww_X10 cI cJ q0 m0_6) rfl rfl h1 dX10_seen_50 (by subst em0_6; rfl) (fun H locs hP hD hS => ?_)
      refine lv_aload_n hx hb dX10_seen_51 rfl (lv_at hl 0 rfl) ?_
      refine gf_v (k := 22) (v := .ref (q0 16)) cx' hP 0 i_X10 rfl rfl (by decide) kw_737 rfl rfl dX10_seen_52 ?_
      refine lv_iconst (v := 2) hx hb dX10_seen_55 (by decide) ?_
      refine lv_aload_n hx hb dX10_seen_56 rfl (lv_at hl 0 rfl) ?_
      refine gf_v (k := 21) (v := .int (m0_6 0 21)) cx' hP 0 i_X10 rfl rfl (by decide) kw_736 rfl rfl dX10_seen_57 ?_
      refine lv_imul hx hb dX10_seen_60 ?_
      refine lv_iconst (v := 1) hx hb dX10_seen_61 (by decide) ?_
      refine lv_iadd hx hb dX10_seen_62 ?_
      refine lv_iload_n hx hb dX10_seen_63 rfl (lv_at hl 2 rfl) ?_
      obtain ⟨m0_7, em0_7⟩ : ∃ z : Mem, z = up2 m0_6 16 (Int32.toNatClampNeg ((2 * (m0_6 0 21)) + 1)) x2 := ⟨_, rfl⟩
      have h1 := h.1
      have h := h.2 m0_7 em0_7
      refine st_i hx hb hK hP hD hS 16 0 (ww_X10 cI cJ q0 m0_7) rfl rfl h1 dX10_seen_64 (by subst em0_7; rfl) (fun H locs hP hD hS => ?_)
      refine lv_aload_n hx hb dX10_seen_65 rfl (lv_at hl 0 rfl) ?_
      refine lv_dup hx hb dX10_seen_66 rfl ?_
      refine gf_v (k := 21) (v := .int (m0_7 0 21)) cx' hP 0 i_X10 rfl rfl (by decide) kw_736 rfl rfl dX10_seen_67 ?_
      refine lv_iconst (v := 1) hx hb dX10_seen_70 (by decide) ?_
      refine lv_iadd hx hb dX10_seen_71 ?_
      obtain ⟨m0_8, em0_8⟩ : ∃ z : Mem, z = up2 m0_7 0 21 ((m0_7 0 21) + 1) := ⟨_, rfl⟩
      have h := h m0_8 em0_8
      refine pf_v (k := 21) (tf := .int) cx' hP hD hS 0 (ww_X10 cI cJ q0 m0_8) i_X10 tyX10 tyX10_ok nmX10 rfl rfl (by decide) kw_736 rfl rfl rfl rfl rfl (Nat.le_of_ble_eq_true rfl) dX10_seen_72 (by subst em0_8; rfl) (fun H locs hP hD hS => ?_)
      refine lv_aload_n hx hb dX10_seen_75 rfl (lv_at hl 0 rfl) ?_
      refine gf_v (k := 21) (v := .int (m0_8 0 21)) cx' hP 0 i_X10 rfl rfl (by decide) kw_736 rfl rfl dX10_seen_76 ?_
      exact rt_i (v := m0_8 0 21) (u := m0_8) cx hP hD hS h dX10_seen_79
    have h := h.2 c_5
    refine lv_bipush (v := (-4)) hx hb dX10_seen_36 (by decide) ?_
    exact rt_i (v := (-4)) (u := m0) cx hP hD hS h dX10_seen_38
  have h := h.2 c_4
  refine lv_bipush (v := (-2)) hx hb dX10_seen_24 (by decide) ?_
  exact rt_i (v := (-2)) (u := m0) cx hP hD hS h dX10_seen_26
set_option maxRecDepth 100000 in
theorem c_X10_seen (l : Launch) {dC : Nat → ClassId} {dI : Nat → Nat → Nat} {cI cJ : ClassId} (sz : Nat) (q0 : Nat → Nat) (m0 : Mem) (x1 : Int32) (x2 : Int32) (post : Int32 → Mem → Prop) (h : wp_X10_seen m0 x1 x2 post) : Met l yX10_seen (Cond.code yX10_seen cX10_seen 3 (some .int) :: gt) ({ frames := 1, cells := 0, slots := 0, locals := 25 }) (va_Pc [.ref (q0 0), .int x1, .int x2] (PRE (dC, dI) (TY cI cJ) (ww_X10 cI cJ q0 m0) sz)) (va_Qi (S := Mem) (fun (r : Int32) (u : Mem) => post r u) (fun u t => AT (dC, dI) (TY cI cJ) (va_A (ww_X10 cI cJ q0 m0) sz) (ww_X10 cI cJ q0 u) t) (va_A (ww_X10 cI cJ q0 m0) sz)) 0 0 (va_A (ww_X10 cI cJ q0 m0) sz) :=
  met_of (own := RX10) (Qf := fun A => va_Qi (S := Mem) (fun (r : Int32) (u : Mem) => post r u) (fun u t => AT (dC, dI) (TY cI cJ) A (ww_X10 cI cJ q0 u) t) A) (by decide) rfl (Nat.le_of_ble_eq_true rfl) rfl (fun p e s m below meth c A cx hA ls hP hD hS hl => w_X10_seen_0 cx hA x1 x2 m0 _ _ ls hP hD hS hl h)
theorem mv_X10_seen : MV yX10_seen cX10_seen 3 (some .int) 2 := ⟨⟨kw_1013, kw_11, by decide +kernel⟩, kw_1011, kw_1012⟩
set_option maxHeartbeats 4000000 in
set_option maxRecDepth 100000 in
theorem w_X10_forget_0 {p : Program} {l : Launch} {e : Env} {s : State} {m : MethodId} {args : Array Value} {below : List Frame} {meth : Method} {c : Code} {dC : Nat → ClassId} {dI : Nat → Nat → Nat} {cI cJ : ClassId} {A : Nat → Prop} (cx : CX RX10 cX10_forget (some .int) 2 p s m args meth c (dC, dI) (TY cI cJ)) (hA : ∀ q, s.heap.size ≤ q → A q) {q0 : Nat → Nat} {post : Int32 → Mem → Prop} : ∀ (m0 : Mem) (H : Heap) (locs : List Loc) (ls : Array Slot), va_P (dC, dI) vwCl (ww_X10 cI cJ q0 m0) H → va_D A (ww_X10 cI cJ q0 m0) → va_S A s.heap H locs → lv_has ls 2 [(0, .ref (q0 0))] → b_X10_forget_0 post m0 → W p l e ({ frames := 0, cells := 0, slots := 0, locals := 0 }) s m args below meth c H locs 0 0 (MQ below (va_Qi (S := Mem) (fun (r : Int32) (u : Mem) => post r u) (fun u t => AT (dC, dI) (TY cI cJ) A (ww_X10 cI cJ q0 u) t) A) args s 0 0 A) (F0 m 0 ls []) := by
  obtain ⟨hx, hb, hr, hml, hown, hts, hlocks, hK⟩ := id cx
  have cx' : CX RX10 cX10_forget (meth.sig.returnType) 2 p s m args meth c (dC, dI) (TY cI cJ) := ⟨hx, hb, rfl, hml, hown, hts, hlocks, hK⟩
  intro m0 H locs ls hP hD hS hl h
  unfold b_X10_forget_0 at h
  refine lv_aload_n hx hb dX10_forget_0 rfl (lv_at hl 0 rfl) ?_
  refine gf_v (k := 21) (v := .int (m0 0 21)) cx' hP 0 i_X10 rfl rfl (by decide) kw_736 rfl rfl dX10_forget_1 ?_
  refine lv_topi (fun x1_1 ex1_1 => ?_)
  have h := h x1_1 ex1_1
  refine lv_istore_n (lv' := [(1, .int x1_1), (0, .ref (q0 0))]) hx hb dX10_forget_4 rfl hl (by decide) rfl (fun ls hl => ?_)
  refine lv_aload_n hx hb dX10_forget_5 rfl (lv_at hl 1 rfl) ?_
  refine lv_iconst (v := 0) hx hb dX10_forget_6 (by decide) ?_
  obtain ⟨m0_2, em0_2⟩ : ∃ z : Mem, z = up2 m0 0 21 0 := ⟨_, rfl⟩
  have h := h m0_2 em0_2
  refine pf_v (k := 21) (tf := .int) cx' hP hD hS 0 (ww_X10 cI cJ q0 m0_2) i_X10 tyX10 tyX10_ok nmX10 rfl rfl (by decide) kw_736 rfl rfl rfl rfl rfl (Nat.le_of_ble_eq_true rfl) dX10_forget_7 (by subst em0_2; rfl) (fun H locs hP hD hS => ?_)
  refine lv_iload_n hx hb dX10_forget_10 rfl (lv_at hl 0 rfl) ?_
  exact rt_i (v := x1_1) (u := m0_2) cx hP hD hS h dX10_forget_11
set_option maxRecDepth 100000 in
theorem c_X10_forget (l : Launch) {dC : Nat → ClassId} {dI : Nat → Nat → Nat} {cI cJ : ClassId} (sz : Nat) (q0 : Nat → Nat) (m0 : Mem) (post : Int32 → Mem → Prop) (h : wp_X10_forget m0 post) : Met l yX10_forget (Cond.code yX10_forget cX10_forget 2 (some .int) :: gt) ({ frames := 0, cells := 0, slots := 0, locals := 0 }) (va_Pc [.ref (q0 0)] (PRE (dC, dI) (TY cI cJ) (ww_X10 cI cJ q0 m0) sz)) (va_Qi (S := Mem) (fun (r : Int32) (u : Mem) => post r u) (fun u t => AT (dC, dI) (TY cI cJ) (va_A (ww_X10 cI cJ q0 m0) sz) (ww_X10 cI cJ q0 u) t) (va_A (ww_X10 cI cJ q0 m0) sz)) 0 0 (va_A (ww_X10 cI cJ q0 m0) sz) :=
  met_of (own := RX10) (Qf := fun A => va_Qi (S := Mem) (fun (r : Int32) (u : Mem) => post r u) (fun u t => AT (dC, dI) (TY cI cJ) A (ww_X10 cI cJ q0 u) t) A) (by decide) rfl (Nat.le_of_ble_eq_true rfl) rfl (fun p e s m below meth c A cx hA ls hP hD hS hl => w_X10_forget_0 cx hA m0 _ _ ls hP hD hS hl h)
theorem mv_X10_forget : MV yX10_forget cX10_forget 2 (some .int) 0 := ⟨⟨kw_1018, kw_11, by decide +kernel⟩, kw_1016, kw_1017⟩
set_option maxHeartbeats 4000000 in
set_option maxRecDepth 100000 in
theorem w_X10_read_29 {p : Program} {l : Launch} {e : Env} {s : State} {m : MethodId} {args : Array Value} {below : List Frame} {meth : Method} {c : Code} {dC : Nat → ClassId} {dI : Nat → Nat → Nat} {cI cJ : ClassId} {A : Nat → Prop} (cx : CX RX10 cX10_read (some .int) 4 p s m args meth c (dC, dI) (TY cI cJ)) (hA : ∀ q, s.heap.size ≤ q → A q) {q0 : Nat → Nat} {post : Int32 → Mem → Prop} : ∀ (n : Nat) (x1 : Int32) (x2 : Int32) (x3 : Int32) (m0 : Mem) (H : Heap) (locs : List Loc) (ls : Array Slot), va_P (dC, dI) vwCl (ww_X10 cI cJ q0 m0) H → va_D A (ww_X10 cI cJ q0 m0) → va_S A s.heap H locs → lv_has ls 4 [(0, .ref (q0 0)), (1, .int x1), (2, .int x2), (3, .int x3)] → b_X10_read_29 post n x1 x2 x3 m0 → W p l e ({ frames := 2, cells := 0, slots := 0, locals := 47 }) s m args below meth c H locs 0 0 (MQ below (va_Qi (S := Mem) (fun (r : Int32) (u : Mem) => post r u) (fun u t => AT (dC, dI) (TY cI cJ) A (ww_X10 cI cJ q0 u) t) A) args s 0 0 A) (F0 m 29 ls []) := by
  obtain ⟨hx, hb, hr, hml, hown, hts, hlocks, hK⟩ := id cx
  have cx' : CX RX10 cX10_read (meth.sig.returnType) 4 p s m args meth c (dC, dI) (TY cI cJ) := ⟨hx, hb, rfl, hml, hown, hts, hlocks, hK⟩
  intro n
  induction n with
  | zero =>
    intro x1 x2 x3 m0 H locs ls hP hD hS hl h
    exact False.elim h
  | succ n ih =>
    intro x1 x2 x3 m0 H locs ls hP hD hS hl h
    unfold b_X10_read_29 at h
    refine lv_iload_n hx hb dX10_read_29 rfl (lv_at hl 3 rfl) ?_
    refine lv_if_eq (tgt := 103) hx hb dX10_read_30 (by decide) (fun c_1 => ?_) (fun c_1 => ?_)
    · have h := h.1 c_1
      refine lv_iload_n hx hb dX10_read_103 rfl (lv_at hl 2 rfl) ?_
      exact rt_i (v := x2) (u := m0) cx hP hD hS h dX10_read_104
    have h := h.2 c_1
    refine lv_iconst (v := 2) hx hb dX10_read_33 (by decide) ?_
    refine lv_iload_n hx hb dX10_read_34 rfl (lv_at hl 2 rfl) ?_
    refine lv_imul hx hb dX10_read_35 ?_
    refine lv_iconst (v := 2) hx hb dX10_read_36 (by decide) ?_
    refine lv_iadd hx hb dX10_read_37 ?_
    refine lv_aload_n hx hb dX10_read_38 rfl (lv_at hl 0 rfl) ?_
    refine gf_v (k := 1) (v := .ref (q0 2)) cx' hP 0 i_X10 rfl rfl (by decide) kw_716 rfl rfl dX10_read_39 ?_
    refine lv_iload_n hx hb dX10_read_42 rfl (lv_at hl 1 rfl) ?_
    refine va_iald hx hb hK hP 2 0 rfl rfl h.1 dX10_read_43 ?_
    have h := h.2
    refine lv_icmp_gt (tgt := 103) hx hb dX10_read_44 (by decide) (fun c_2 => ?_) (fun c_2 => ?_)
    · have h := h.1 c_2
      refine lv_iload_n hx hb dX10_read_103 rfl (lv_at hl 2 rfl) ?_
      exact rt_i (v := x2) (u := m0) cx hP hD hS h dX10_read_104
    have h := h.2 c_2
    refine lv_aload_n hx hb dX10_read_47 rfl (lv_at hl 0 rfl) ?_
    refine lv_aload_n hx hb dX10_read_48 rfl (lv_at hl 0 rfl) ?_
    refine gf_v (k := 2) (v := .ref (q0 3)) cx' hP 0 i_X10 rfl rfl (by decide) kw_717 rfl rfl dX10_read_49 ?_
    refine lv_bipush (v := 60) hx hb dX10_read_52 (by decide) ?_
    refine lv_iload_n hx hb dX10_read_54 rfl (lv_at hl 1 rfl) ?_
    refine lv_imul hx hb dX10_read_55 ?_
    refine lv_iconst (v := 2) hx hb dX10_read_56 (by decide) ?_
    refine lv_iload_n hx hb dX10_read_57 rfl (lv_at hl 2 rfl) ?_
    refine lv_imul hx hb dX10_read_58 ?_
    refine lv_iadd hx hb dX10_read_59 ?_
    refine va_iald hx hb hK hP 3 0 rfl rfl h.1 dX10_read_60 ?_
    have h := h.2
    refine lv_aload_n hx hb dX10_read_61 rfl (lv_at hl 0 rfl) ?_
    refine gf_v (k := 2) (v := .ref (q0 3)) cx' hP 0 i_X10 rfl rfl (by decide) kw_717 rfl rfl dX10_read_62 ?_
    refine lv_bipush (v := 60) hx hb dX10_read_65 (by decide) ?_
    refine lv_iload_n hx hb dX10_read_67 rfl (lv_at hl 1 rfl) ?_
    refine lv_imul hx hb dX10_read_68 ?_
    refine lv_iconst (v := 2) hx hb dX10_read_69 (by decide) ?_
    refine lv_iload_n hx hb dX10_read_70 rfl (lv_at hl 2 rfl) ?_
    refine lv_imul hx hb dX10_read_71 ?_
    refine lv_iadd hx hb dX10_read_72 ?_
    refine lv_iconst (v := 1) hx hb dX10_read_73 (by decide) ?_
    refine lv_iadd hx hb dX10_read_74 ?_
    refine va_iald hx hb hK hP 3 0 rfl rfl h.1 dX10_read_75 ?_
    have h := h.2
    refine call_i (run_V (As := [.int (m0 3 (Int32.toNatClampNeg ((60 * x1) + (2 * x2)))), .int (m0 3 (Int32.toNatClampNeg (((60 * x1) + (2 * x2)) + 1)))]) (rest := []) cx' (c_X10_seen l H.size q0 m0 (m0 3 (Int32.toNatClampNeg ((60 * x1) + (2 * x2)))) (m0 3 (Int32.toNatClampNeg (((60 * x1) + (2 * x2)) + 1))) _ h) mv_X10_seen kw_1023 rfl rfl ⟨Nat.le_of_ble_eq_true rfl, Nat.le_of_ble_eq_true rfl⟩ hP hD rfl rfl rfl hl.1 rfl (Nat.le_of_ble_eq_true rfl) dX10_read_76 ⟨Nat.zero_le _, Nat.zero_le _⟩) hD hS hA (fun r_3 u9 H locs hP hD hS h => ?_)
    obtain ⟨m0_4, rfl⟩ : ∃ z, z = u9 := ⟨_, rfl⟩
    have hP : va_P (dC, dI) vwCl (ww_X10 cI cJ q0 m0_4) H := hP
    have hD : va_D A (ww_X10 cI cJ q0 m0_4) := hD
    refine dia_i (ls := ls) (c0 := r_3 < 0) (a := 0) (b := 1) (J := 87) (rest := []) (fun K => ?_) (fun v_6 ev_6 => ?_)
    · refine lv_if_lt (tgt := 86) hx hb dX10_read_79 (by decide) (fun c_5 => ?_) (fun c_5 => ?_)
      · refine lv_iconst (v := 0) hx hb dX10_read_86 (by decide) ?_
        exact K _ (Or.inl ⟨c_5, rfl⟩)
      · refine lv_iconst (v := 1) hx hb dX10_read_82 (by decide) ?_
        refine lv_goto (tgt := 87) hx hb dX10_read_83 (by decide) ?_
        exact K _ (Or.inr ⟨c_5, rfl⟩)
    have h := h v_6 ev_6
    refine lv_istore_n (lv' := [(3, .int v_6), (0, .ref (q0 0)), (1, .int x1), (2, .int x2)]) hx hb dX10_read_87 rfl hl (by decide) rfl (fun ls hl => ?_)
    refine lv_iload_n hx hb dX10_read_88 rfl (lv_at hl 3 rfl) ?_
    refine lv_iload_n hx hb dX10_read_89 rfl (lv_at hl 0 rfl) ?_
    refine dia_i (ls := ls) (c0 := v_6 = 0) (a := 0) (b := 1) (J := 98) (rest := [.int x2]) (fun K => ?_) (fun v_8 ev_8 => ?_)
    · refine lv_if_eq (tgt := 97) hx hb dX10_read_90 (by decide) (fun c_7 => ?_) (fun c_7 => ?_)
      · refine lv_iconst (v := 0) hx hb dX10_read_97 (by decide) ?_
        exact K _ (Or.inl ⟨c_7, rfl⟩)
      · refine lv_iconst (v := 1) hx hb dX10_read_93 (by decide) ?_
        refine lv_goto (tgt := 98) hx hb dX10_read_94 (by decide) ?_
        exact K _ (Or.inr ⟨c_7, rfl⟩)
    have h := h v_8 ev_8
    refine lv_iadd hx hb dX10_read_98 ?_
    refine lv_topi (fun x2_9 ex2_9 => ?_)
    have h := h x2_9 ex2_9
    refine lv_istore_n (lv' := [(2, .int x2_9), (3, .int v_6), (0, .ref (q0 0)), (1, .int x1)]) hx hb dX10_read_99 rfl hl (by decide) rfl (fun ls hl => ?_)
    refine lv_goto (tgt := 29) hx hb dX10_read_100 (by decide) ?_
    exact ih x1 x2_9 v_6 m0_4 H locs ls hP hD hS (lv_sub hl [2, 3, 0, 1] rfl) h
set_option maxHeartbeats 4000000 in
set_option maxRecDepth 100000 in
theorem w_X10_read_0 {p : Program} {l : Launch} {e : Env} {s : State} {m : MethodId} {args : Array Value} {below : List Frame} {meth : Method} {c : Code} {dC : Nat → ClassId} {dI : Nat → Nat → Nat} {cI cJ : ClassId} {A : Nat → Prop} (cx : CX RX10 cX10_read (some .int) 4 p s m args meth c (dC, dI) (TY cI cJ)) (hA : ∀ q, s.heap.size ≤ q → A q) {q0 : Nat → Nat} {post : Int32 → Mem → Prop} : ∀ (x1 : Int32) (m0 : Mem) (H : Heap) (locs : List Loc) (ls : Array Slot), va_P (dC, dI) vwCl (ww_X10 cI cJ q0 m0) H → va_D A (ww_X10 cI cJ q0 m0) → va_S A s.heap H locs → lv_has ls 4 [(0, .ref (q0 0)), (1, .int x1)] → b_X10_read_0 post x1 m0 → W p l e ({ frames := 2, cells := 0, slots := 0, locals := 47 }) s m args below meth c H locs 0 0 (MQ below (va_Qi (S := Mem) (fun (r : Int32) (u : Mem) => post r u) (fun u t => AT (dC, dI) (TY cI cJ) A (ww_X10 cI cJ q0 u) t) A) args s 0 0 A) (F0 m 0 ls []) := by
  obtain ⟨hx, hb, hr, hml, hown, hts, hlocks, hK⟩ := id cx
  have cx' : CX RX10 cX10_read (meth.sig.returnType) 4 p s m args meth c (dC, dI) (TY cI cJ) := ⟨hx, hb, rfl, hml, hown, hts, hlocks, hK⟩
  intro x1 m0 H locs ls hP hD hS hl h
  unfold b_X10_read_0 at h
  refine lv_iload_n hx hb dX10_read_0 rfl (lv_at hl 1 rfl) ?_
  refine callN_i (run_S (As := [.int x1]) (rest := []) (wc := []) cx' (c_X10_isSheet l H.size x1 _ h) ms_X10_isSheet kw_792 rfl rfl ⟨Nat.le_of_ble_eq_true rfl, Nat.le_of_ble_eq_true rfl⟩ nilP nilD (A := A) rfl hl.1 rfl (Nat.le_of_ble_eq_true rfl) dX10_read_1 ⟨Nat.zero_le _, Nat.zero_le _⟩) hP hS hA (fun r_1 H locs hP hS h => ?_)
  refine lv_if_ne (tgt := 10) hx hb dX10_read_4 (by decide) (fun c_2 => ?_) (fun c_2 => ?_)
  · have h := h.1 c_2
    refine lv_aload_n hx hb dX10_read_10 rfl (lv_at hl 0 rfl) ?_
    refine gf_v (k := 0) (v := .ref (q0 1)) cx' hP 0 i_X10 rfl rfl (by decide) kw_715 rfl rfl dX10_read_11 ?_
    refine lv_iload_n hx hb dX10_read_14 rfl (lv_at hl 1 rfl) ?_
    refine va_iald hx hb hK hP 1 0 rfl rfl h.1 dX10_read_15 ?_
    have h := h.2
    refine lv_if_ge (tgt := 25) hx hb dX10_read_16 (by decide) (fun c_3 => ?_) (fun c_3 => ?_)
    · have h := h.1 c_3
      refine lv_iconst (v := 0) hx hb dX10_read_25 (by decide) ?_
      refine lv_istore_n (lv' := [(2, .int 0), (0, .ref (q0 0)), (1, .int x1)]) hx hb dX10_read_26 rfl hl (by decide) rfl (fun ls hl => ?_)
      refine lv_iconst (v := 1) hx hb dX10_read_27 (by decide) ?_
      refine lv_istore_n (lv' := [(3, .int 1), (2, .int 0), (0, .ref (q0 0)), (1, .int x1)]) hx hb dX10_read_28 rfl hl (by decide) rfl (fun ls hl => ?_)
      obtain ⟨n_4, h⟩ := h
      exact w_X10_read_29 cx hA n_4 x1 0 1 m0 H locs ls hP hD hS (lv_sub hl [2, 3, 1, 0] rfl) h
    have h := h.2 c_3
    refine lv_aload_n hx hb dX10_read_19 rfl (lv_at hl 0 rfl) ?_
    refine lv_iconst (v := 1) hx hb dX10_read_20 (by decide) ?_
    refine call_i (run_V (As := [.int 1]) (rest := []) cx' (c_X10_finds l H.size q0 m0 1 _ h) mv_X10_finds kw_800 rfl rfl ⟨Nat.le_of_ble_eq_true rfl, Nat.le_of_ble_eq_true rfl⟩ hP hD rfl rfl rfl hl.1 rfl (Nat.le_of_ble_eq_true rfl) dX10_read_21 ⟨Nat.zero_le _, Nat.zero_le _⟩) hD hS hA (fun r_5 u9 H locs hP hD hS h => ?_)
    obtain ⟨m0_6, rfl⟩ : ∃ z, z = u9 := ⟨_, rfl⟩
    have hP : va_P (dC, dI) vwCl (ww_X10 cI cJ q0 m0_6) H := hP
    have hD : va_D A (ww_X10 cI cJ q0 m0_6) := hD
    exact rt_i (v := r_5) (u := m0_6) cx hP hD hS h dX10_read_24
  have h := h.2 c_2
  refine lv_bipush (v := (-2)) hx hb dX10_read_7 (by decide) ?_
  exact rt_i (v := (-2)) (u := m0) cx hP hD hS h dX10_read_9
set_option maxRecDepth 100000 in
theorem c_X10_read (l : Launch) {dC : Nat → ClassId} {dI : Nat → Nat → Nat} {cI cJ : ClassId} (sz : Nat) (q0 : Nat → Nat) (m0 : Mem) (x1 : Int32) (post : Int32 → Mem → Prop) (h : wp_X10_read m0 x1 post) : Met l yX10_read (Cond.code yX10_read cX10_read 4 (some .int) :: gt) ({ frames := 2, cells := 0, slots := 0, locals := 47 }) (va_Pc [.ref (q0 0), .int x1] (PRE (dC, dI) (TY cI cJ) (ww_X10 cI cJ q0 m0) sz)) (va_Qi (S := Mem) (fun (r : Int32) (u : Mem) => post r u) (fun u t => AT (dC, dI) (TY cI cJ) (va_A (ww_X10 cI cJ q0 m0) sz) (ww_X10 cI cJ q0 u) t) (va_A (ww_X10 cI cJ q0 m0) sz)) 0 0 (va_A (ww_X10 cI cJ q0 m0) sz) :=
  met_of (own := RX10) (Qf := fun A => va_Qi (S := Mem) (fun (r : Int32) (u : Mem) => post r u) (fun u t => AT (dC, dI) (TY cI cJ) A (ww_X10 cI cJ q0 u) t) A) (by decide) rfl (Nat.le_of_ble_eq_true rfl) rfl (fun p e s m below meth c A cx hA ls hP hD hS hl => w_X10_read_0 cx hA x1 m0 _ _ ls hP hD hS hl h)
theorem mv_X10_read : MV yX10_read cX10_read 4 (some .int) 1 := ⟨⟨kw_1022, kw_11, by decide +kernel⟩, kw_1020, kw_1021⟩
set_option maxHeartbeats 4000000 in
set_option maxRecDepth 100000 in
theorem w_X10_givesBy_0 {p : Program} {l : Launch} {e : Env} {s : State} {m : MethodId} {args : Array Value} {below : List Frame} {meth : Method} {c : Code} {dC : Nat → ClassId} {dI : Nat → Nat → Nat} {cI cJ : ClassId} {A : Nat → Prop} (cx : CX RX10 cX10_givesBy (some .int) 3 p s m args meth c (dC, dI) (TY cI cJ)) (hA : ∀ q, s.heap.size ≤ q → A q) {q0 : Nat → Nat} {m0 : Mem} {post : Int32 → Prop} : ∀ (x1 : Int32) (x2 : Int32) (H : Heap) (locs : List Loc) (ls : Array Slot), va_P (dC, dI) vwCl (ww_X10 cI cJ q0 m0) H → va_D A (ww_X10 cI cJ q0 m0) → va_S A s.heap H locs → lv_has ls 3 [(0, .ref (q0 0)), (1, .int x1), (2, .int x2)] → b_X10_givesBy_0 m0 post x1 x2 → W p l e ({ frames := 1, cells := 0, slots := 0, locals := 24 }) s m args below meth c H locs 0 0 (MQ below (va_Qi (S := Unit) (fun (r : Int32) (_u : Unit) => post r) (fun _u t => AT (dC, dI) (TY cI cJ) A (ww_X10 cI cJ q0 m0) t) A) args s 0 0 A) (F0 m 0 ls []) := by
  obtain ⟨hx, hb, hr, hml, hown, hts, hlocks, hK⟩ := id cx
  have cx' : CX RX10 cX10_givesBy (meth.sig.returnType) 3 p s m args meth c (dC, dI) (TY cI cJ) := ⟨hx, hb, rfl, hml, hown, hts, hlocks, hK⟩
  intro x1 x2 H locs ls hP hD hS hl h
  unfold b_X10_givesBy_0 at h
  refine lv_aload_n hx hb dX10_givesBy_0 rfl (lv_at hl 0 rfl) ?_
  refine lv_iload_n hx hb dX10_givesBy_1 rfl (lv_at hl 1 rfl) ?_
  refine lv_iconst (v := 0) hx hb dX10_givesBy_2 (by decide) ?_
  refine call_i (run_V (As := [.int x1, .int 0]) (rest := []) cx' (c_X10_allBy l H.size q0 m0 x1 0 _ h) mv_X10_allBy kw_942 rfl rfl ⟨Nat.le_of_ble_eq_true rfl, Nat.le_of_ble_eq_true rfl⟩ hP hD rfl rfl rfl hl.1 rfl (Nat.le_of_ble_eq_true rfl) dX10_givesBy_3 ⟨Nat.zero_le _, Nat.zero_le _⟩) hD hS hA (fun r_1 u9 H locs hP hD hS h => ?_)
  have hP : va_P (dC, dI) vwCl (ww_X10 cI cJ q0 m0) H := hP
  have hD : va_D A (ww_X10 cI cJ q0 m0) := hD
  refine lv_iload_n hx hb dX10_givesBy_6 rfl (lv_at hl 2 rfl) ?_
  refine lv_iconst (v := (-1)) hx hb dX10_givesBy_7 (by decide) ?_
  refine lv_icmp_ne (tgt := 15) hx hb dX10_givesBy_8 (by decide) (fun c_2 => ?_) (fun c_2 => ?_)
  · have h := h.1 c_2
    refine lv_aload_n hx hb dX10_givesBy_15 rfl (lv_at hl 0 rfl) ?_
    refine gf_v (k := 13) (v := .ref (q0 11)) cx' hP 0 i_X10 rfl rfl (by decide) kw_728 rfl rfl dX10_givesBy_16 ?_
    refine lv_bipush (v := 8) hx hb dX10_givesBy_19 (by decide) ?_
    refine lv_iload_n hx hb dX10_givesBy_21 rfl (lv_at hl 2 rfl) ?_
    refine lv_imul hx hb dX10_givesBy_22 ?_
    refine lv_iload_n hx hb dX10_givesBy_23 rfl (lv_at hl 1 rfl) ?_
    refine lv_iadd hx hb dX10_givesBy_24 ?_
    refine va_iald hx hb hK hP 11 0 rfl rfl h.1 dX10_givesBy_25 ?_
    have h := h.2
    refine lv_iadd hx hb dX10_givesBy_26 ?_
    exact rt_i (v := r_1 + (m0 11 (Int32.toNatClampNeg ((8 * x2) + x1)))) (u := ()) cx hP hD hS h dX10_givesBy_27
  have h := h.2 c_2
  refine lv_iconst (v := 0) hx hb dX10_givesBy_11 (by decide) ?_
  refine lv_goto (tgt := 26) hx hb dX10_givesBy_12 (by decide) ?_
  refine lv_iadd hx hb dX10_givesBy_26 ?_
  exact rt_i (v := r_1 + 0) (u := ()) cx hP hD hS h dX10_givesBy_27
set_option maxRecDepth 100000 in
theorem c_X10_givesBy (l : Launch) {dC : Nat → ClassId} {dI : Nat → Nat → Nat} {cI cJ : ClassId} (sz : Nat) (q0 : Nat → Nat) (m0 : Mem) (x1 : Int32) (x2 : Int32) (post : Int32 → Prop) (h : wp_X10_givesBy m0 x1 x2 post) : Met l yX10_givesBy (Cond.code yX10_givesBy cX10_givesBy 3 (some .int) :: gt) ({ frames := 1, cells := 0, slots := 0, locals := 24 }) (va_Pc [.ref (q0 0), .int x1, .int x2] (PRE (dC, dI) (TY cI cJ) (ww_X10 cI cJ q0 m0) sz)) (va_Qi (S := Unit) (fun (r : Int32) (_u : Unit) => post r) (fun _u t => AT (dC, dI) (TY cI cJ) (va_A (ww_X10 cI cJ q0 m0) sz) (ww_X10 cI cJ q0 m0) t) (va_A (ww_X10 cI cJ q0 m0) sz)) 0 0 (va_A (ww_X10 cI cJ q0 m0) sz) :=
  met_of (own := RX10) (Qf := fun A => va_Qi (S := Unit) (fun (r : Int32) (_u : Unit) => post r) (fun _u t => AT (dC, dI) (TY cI cJ) A (ww_X10 cI cJ q0 m0) t) A) (by decide) rfl (Nat.le_of_ble_eq_true rfl) rfl (fun p e s m below meth c A cx hA ls hP hD hS hl => w_X10_givesBy_0 cx hA x1 x2 _ _ ls hP hD hS hl h)
theorem mv_X10_givesBy : MV yX10_givesBy cX10_givesBy 3 (some .int) 2 := ⟨⟨kw_1039, kw_11, by decide +kernel⟩, kw_1038, ksel_45⟩
