set_option maxHeartbeats 4000000 in
set_option maxRecDepth 100000 in
theorem w_X10_in_0 {p : Program} {l : Launch} {e : Env} {s : State} {m : MethodId} {args : Array Value} {below : List Frame} {meth : Method} {c : Code} {dC : Nat → ClassId} {dI : Nat → Nat → Nat} {cI cJ : ClassId} {A : Nat → Prop} (cx : CX RX10 cX10_in (some .boolean) 6 p s m args meth c (dC, dI) (TY cI cJ)) (hA : ∀ q, s.heap.size ≤ q → A q) {post : Int32 → Prop} : ∀ (x0 : Int64) (x2 : Int64) (x4 : Int64) (H : Heap) (locs : List Loc) (ls : Array Slot), va_P (dC, dI) vwCl ([]) H → va_D A ([]) → va_S A s.heap H locs → lv_has ls 6 [(0, .long x0), (2, .long x2), (4, .long x4)] → b_X10_in_0 post x0 x2 x4 → W p l e ({ frames := 0, cells := 0, slots := 0, locals := 0 }) s m args below meth c H locs 0 0 (MQ below (va_Qi (S := Unit) (fun (r : Int32) (_u : Unit) => post r) (fun _u t => AT (dC, dI) (TY cI cJ) A ([]) t) A) args s 0 0 A) (F0 m 0 ls []) := by
  obtain ⟨hx, hb, hr, hml, hown, hts, hlocks, hK⟩ := id cx
  have cx' : CX RX10 cX10_in (meth.sig.returnType) 6 p s m args meth c (dC, dI) (TY cI cJ) := ⟨hx, hb, rfl, hml, hown, hts, hlocks, hK⟩
  intro x0 x2 x4 H locs ls hP hD hS hl h
  unfold b_X10_in_0 at h
  refine lv_lload_n hx hb dX10_in_0 rfl (lv_at hl 0 rfl) ?_
  refine lv_lload_n hx hb dX10_in_1 rfl (lv_at hl 1 rfl) ?_
  refine W.lcmp hx hb dX10_in_2 ?_
  refine lv_if_lt (tgt := 17) hx hb dX10_in_3 (by decide) (fun c_1 => ?_) (fun c_1 => ?_)
  · have h := h.1 c_1
    refine lv_iconst (v := 0) hx hb dX10_in_17 (by decide) ?_
    exact rt_z (v := 0) (u := ()) cx (Or.inl rfl) hP hD hS h dX10_in_18
  have h := h.2 c_1
  refine lv_lload_n hx hb dX10_in_6 rfl (lv_at hl 0 rfl) ?_
  refine lv_lload hx hb dX10_in_7 (lv_at hl 2 rfl) ?_
  refine W.lcmp hx hb dX10_in_9 ?_
  refine lv_if_gt (tgt := 17) hx hb dX10_in_10 (by decide) (fun c_2 => ?_) (fun c_2 => ?_)
  · have h := h.1 c_2
    refine lv_iconst (v := 0) hx hb dX10_in_17 (by decide) ?_
    exact rt_z (v := 0) (u := ()) cx (Or.inl rfl) hP hD hS h dX10_in_18
  have h := h.2 c_2
  refine lv_iconst (v := 1) hx hb dX10_in_13 (by decide) ?_
  refine lv_goto (tgt := 18) hx hb dX10_in_14 (by decide) ?_
  exact rt_z (v := 1) (u := ()) cx (Or.inr rfl) hP hD hS h dX10_in_18
set_option maxRecDepth 100000 in
theorem c_X10_in (l : Launch) {dC : Nat → ClassId} {dI : Nat → Nat → Nat} {cI cJ : ClassId} (sz : Nat) (x0 : Int64) (x2 : Int64) (x4 : Int64) (post : Int32 → Prop) (h : wp_X10_in x0 x2 x4 post) : Met l yX10_in (Cond.code yX10_in cX10_in 6 (some .boolean) :: gt) ({ frames := 0, cells := 0, slots := 0, locals := 0 }) (va_Pc [.long x0, .long x2, .long x4] (PRE (dC, dI) (TY cI cJ) ([]) sz)) (va_Qi (S := Unit) (fun (r : Int32) (_u : Unit) => post r) (fun _u t => AT (dC, dI) (TY cI cJ) (va_A ([]) sz) ([]) t) (va_A ([]) sz)) 0 0 (va_A ([]) sz) :=
  met_of (own := RX10) (Qf := fun A => va_Qi (S := Unit) (fun (r : Int32) (_u : Unit) => post r) (fun _u t => AT (dC, dI) (TY cI cJ) A ([]) t) A) (by decide) rfl (Nat.le_of_ble_eq_true rfl) rfl (fun p e s m below meth c A cx hA ls hP hD hS hl => w_X10_in_0 cx hA x0 x2 x4 _ _ ls hP hD hS hl h)
theorem ms_X10_in : MS yX10_in cX10_in 6 (some .boolean) 3 := ⟨⟨kw_798, kw_11, by decide +kernel⟩, kw_797⟩
set_option maxHeartbeats 4000000 in
set_option maxRecDepth 100000 in
theorem w_X10_no_0 {p : Program} {l : Launch} {e : Env} {s : State} {m : MethodId} {args : Array Value} {below : List Frame} {meth : Method} {c : Code} {dC : Nat → ClassId} {dI : Nat → Nat → Nat} {cI cJ : ClassId} {A : Nat → Prop} (cx : CX RX10 cX10_no (some .long) 1 p s m args meth c (dC, dI) (TY cI cJ)) (hA : ∀ q, s.heap.size ≤ q → A q) {post : Int64 → Prop} : ∀ (x0 : Int32) (H : Heap) (locs : List Loc) (ls : Array Slot), va_P (dC, dI) vwCl ([]) H → va_D A ([]) → va_S A s.heap H locs → lv_has ls 1 [(0, .int x0)] → b_X10_no_0 post x0 → W p l e ({ frames := 0, cells := 0, slots := 0, locals := 0 }) s m args below meth c H locs 0 0 (MQ below (va_Ql (S := Unit) (fun (r : Int64) (_u : Unit) => post r) (fun _u t => AT (dC, dI) (TY cI cJ) A ([]) t) A) args s 0 0 A) (F0 m 0 ls []) := by
  obtain ⟨hx, hb, hr, hml, hown, hts, hlocks, hK⟩ := id cx
  have cx' : CX RX10 cX10_no (meth.sig.returnType) 1 p s m args meth c (dC, dI) (TY cI cJ) := ⟨hx, hb, rfl, hml, hown, hts, hlocks, hK⟩
  intro x0 H locs ls hP hD hS hl h
  unfold b_X10_no_0 at h
  refine lv_ldc2 hx hb hown (hts _ kw_1075) dX10_no_0 ?_
  refine lv_iload_n hx hb dX10_no_3 rfl (lv_at hl 0 rfl) ?_
  refine lv_i2l (v := Int32.toInt64 x0) hx hb dX10_no_4 rfl ?_
  refine lv_lsub hx hb dX10_no_5 ?_
  exact rt_l (v := (-9223372036854775808) - (Int32.toInt64 x0)) (u := ()) cx hP hD hS h dX10_no_6
set_option maxRecDepth 100000 in
theorem c_X10_no (l : Launch) {dC : Nat → ClassId} {dI : Nat → Nat → Nat} {cI cJ : ClassId} (sz : Nat) (x0 : Int32) (post : Int64 → Prop) (h : wp_X10_no x0 post) : Met l yX10_no (Cond.code yX10_no cX10_no 1 (some .long) :: gt) ({ frames := 0, cells := 0, slots := 0, locals := 0 }) (va_Pc [.int x0] (PRE (dC, dI) (TY cI cJ) ([]) sz)) (va_Ql (S := Unit) (fun (r : Int64) (_u : Unit) => post r) (fun _u t => AT (dC, dI) (TY cI cJ) (va_A ([]) sz) ([]) t) (va_A ([]) sz)) 0 0 (va_A ([]) sz) :=
  met_of (own := RX10) (Qf := fun A => va_Ql (S := Unit) (fun (r : Int64) (_u : Unit) => post r) (fun _u t => AT (dC, dI) (TY cI cJ) A ([]) t) A) (by decide) rfl (Nat.le_of_ble_eq_true rfl) rfl (fun p e s m below meth c A cx hA ls hP hD hS hl => w_X10_no_0 cx hA x0 _ _ ls hP hD hS hl h)
theorem ms_X10_no : MS yX10_no cX10_no 1 (some .long) 1 := ⟨⟨kw_1074, kw_11, by decide +kernel⟩, kw_1073⟩
set_option maxHeartbeats 4000000 in
set_option maxRecDepth 100000 in
theorem w_X10_isTwo_0 {p : Program} {l : Launch} {e : Env} {s : State} {m : MethodId} {args : Array Value} {below : List Frame} {meth : Method} {c : Code} {dC : Nat → ClassId} {dI : Nat → Nat → Nat} {cI cJ : ClassId} {A : Nat → Prop} (cx : CX RX10 cX10_isTwo (some .boolean) 1 p s m args meth c (dC, dI) (TY cI cJ)) (hA : ∀ q, s.heap.size ≤ q → A q) {post : Int32 → Prop} : ∀ (x0 : Int32) (H : Heap) (locs : List Loc) (ls : Array Slot), va_P (dC, dI) vwCl ([]) H → va_D A ([]) → va_S A s.heap H locs → lv_has ls 1 [(0, .int x0)] → b_X10_isTwo_0 post x0 → W p l e ({ frames := 1, cells := 0, slots := 0, locals := 25 }) s m args below meth c H locs 0 0 (MQ below (va_Qi (S := Unit) (fun (r : Int32) (_u : Unit) => post r) (fun _u t => AT (dC, dI) (TY cI cJ) A ([]) t) A) args s 0 0 A) (F0 m 0 ls []) := by
  obtain ⟨hx, hb, hr, hml, hown, hts, hlocks, hK⟩ := id cx
  have cx' : CX RX10 cX10_isTwo (meth.sig.returnType) 1 p s m args meth c (dC, dI) (TY cI cJ) := ⟨hx, hb, rfl, hml, hown, hts, hlocks, hK⟩
  intro x0 H locs ls hP hD hS hl h
  unfold b_X10_isTwo_0 at h
  refine lv_iload_n hx hb dX10_isTwo_0 rfl (lv_at hl 0 rfl) ?_
  refine lv_i2l (v := Int32.toInt64 x0) hx hb dX10_isTwo_1 rfl ?_
  refine lv_lconst (v := 0) hx hb dX10_isTwo_2 (by decide) ?_
  refine lv_lconst (v := 1) hx hb dX10_isTwo_3 (by decide) ?_
  refine callN_i (run_S (As := [.long (Int32.toInt64 x0), .long 0, .long 1]) (rest := []) (wc := []) cx' (c_X10_in l H.size (Int32.toInt64 x0) 0 1 _ h) ms_X10_in kw_796 rfl rfl ⟨Nat.le_of_ble_eq_true rfl, Nat.le_of_ble_eq_true rfl⟩ nilP nilD (A := A) rfl hl.1 rfl (Nat.le_of_ble_eq_true rfl) dX10_isTwo_4 ⟨Nat.zero_le _, Nat.zero_le _⟩) hP hS hA (fun r_1 H locs hP hS h => ?_)
  exact rt_z (v := r_1) (u := ()) cx h.1 hP hD hS h.2 dX10_isTwo_7
set_option maxRecDepth 100000 in
theorem c_X10_isTwo (l : Launch) {dC : Nat → ClassId} {dI : Nat → Nat → Nat} {cI cJ : ClassId} (sz : Nat) (x0 : Int32) (post : Int32 → Prop) (h : wp_X10_isTwo x0 post) : Met l yX10_isTwo (Cond.code yX10_isTwo cX10_isTwo 1 (some .boolean) :: gt) ({ frames := 1, cells := 0, slots := 0, locals := 25 }) (va_Pc [.int x0] (PRE (dC, dI) (TY cI cJ) ([]) sz)) (va_Qi (S := Unit) (fun (r : Int32) (_u : Unit) => post r) (fun _u t => AT (dC, dI) (TY cI cJ) (va_A ([]) sz) ([]) t) (va_A ([]) sz)) 0 0 (va_A ([]) sz) :=
  met_of (own := RX10) (Qf := fun A => va_Qi (S := Unit) (fun (r : Int32) (_u : Unit) => post r) (fun _u t => AT (dC, dI) (TY cI cJ) A ([]) t) A) (by decide) rfl (Nat.le_of_ble_eq_true rfl) rfl (fun p e s m below meth c A cx hA ls hP hD hS hl => w_X10_isTwo_0 cx hA x0 _ _ ls hP hD hS hl h)
theorem ms_X10_isTwo : MS yX10_isTwo cX10_isTwo 1 (some .boolean) 1 := ⟨⟨kw_834, kw_11, by decide +kernel⟩, kw_833⟩
set_option maxHeartbeats 4000000 in
set_option maxRecDepth 100000 in
theorem w_X10_isIn_0 {p : Program} {l : Launch} {e : Env} {s : State} {m : MethodId} {args : Array Value} {below : List Frame} {meth : Method} {c : Code} {dC : Nat → ClassId} {dI : Nat → Nat → Nat} {cI cJ : ClassId} {A : Nat → Prop} (cx : CX RX10 cX10_isIn (some .boolean) 2 p s m args meth c (dC, dI) (TY cI cJ)) (hA : ∀ q, s.heap.size ≤ q → A q) {post : Int32 → Prop} : ∀ (x0 : Int32) (x1 : Int32) (H : Heap) (locs : List Loc) (ls : Array Slot), va_P (dC, dI) vwCl ([]) H → va_D A ([]) → va_S A s.heap H locs → lv_has ls 2 [(0, .int x0), (1, .int x1)] → b_X10_isIn_0 post x0 x1 → W p l e ({ frames := 0, cells := 0, slots := 0, locals := 0 }) s m args below meth c H locs 0 0 (MQ below (va_Qi (S := Unit) (fun (r : Int32) (_u : Unit) => post r) (fun _u t => AT (dC, dI) (TY cI cJ) A ([]) t) A) args s 0 0 A) (F0 m 0 ls []) := by
  obtain ⟨hx, hb, hr, hml, hown, hts, hlocks, hK⟩ := id cx
  have cx' : CX RX10 cX10_isIn (meth.sig.returnType) 2 p s m args meth c (dC, dI) (TY cI cJ) := ⟨hx, hb, rfl, hml, hown, hts, hlocks, hK⟩
  intro x0 x1 H locs ls hP hD hS hl h
  unfold b_X10_isIn_0 at h
  refine lv_iload_n hx hb dX10_isIn_0 rfl (lv_at hl 0 rfl) ?_
  refine lv_iload_n hx hb dX10_isIn_1 rfl (lv_at hl 1 rfl) ?_
  refine lv_ishr hx hb dX10_isIn_2 ?_
  refine lv_iconst (v := 1) hx hb dX10_isIn_3 (by decide) ?_
  refine lv_iand hx hb dX10_isIn_4 ?_
  refine lv_iconst (v := 1) hx hb dX10_isIn_5 (by decide) ?_
  refine dia_i (ls := ls) (c0 := ((x0 >>> (x1 &&& 31)) &&& 1) = 1) (a := 1) (b := 0) (J := 14) (rest := []) (fun K => ?_) (fun v_2 ev_2 => ?_)
  · refine lv_icmp_ne (tgt := 13) hx hb dX10_isIn_6 (by decide) (fun c_1 => ?_) (fun c_1 => ?_)
    · refine lv_iconst (v := 0) hx hb dX10_isIn_13 (by decide) ?_
      exact K _ (Or.inr ⟨c_1, rfl⟩)
    · refine lv_iconst (v := 1) hx hb dX10_isIn_9 (by decide) ?_
      refine lv_goto (tgt := 14) hx hb dX10_isIn_10 (by decide) ?_
      exact K _ (Or.inl ⟨c_1, rfl⟩)
  have h := h v_2 ev_2
  exact rt_z (v := v_2) (u := ()) cx h.1 hP hD hS h.2 dX10_isIn_14
set_option maxRecDepth 100000 in
theorem c_X10_isIn (l : Launch) {dC : Nat → ClassId} {dI : Nat → Nat → Nat} {cI cJ : ClassId} (sz : Nat) (x0 : Int32) (x1 : Int32) (post : Int32 → Prop) (h : wp_X10_isIn x0 x1 post) : Met l yX10_isIn (Cond.code yX10_isIn cX10_isIn 2 (some .boolean) :: gt) ({ frames := 0, cells := 0, slots := 0, locals := 0 }) (va_Pc [.int x0, .int x1] (PRE (dC, dI) (TY cI cJ) ([]) sz)) (va_Qi (S := Unit) (fun (r : Int32) (_u : Unit) => post r) (fun _u t => AT (dC, dI) (TY cI cJ) (va_A ([]) sz) ([]) t) (va_A ([]) sz)) 0 0 (va_A ([]) sz) :=
  met_of (own := RX10) (Qf := fun A => va_Qi (S := Unit) (fun (r : Int32) (_u : Unit) => post r) (fun _u t => AT (dC, dI) (TY cI cJ) A ([]) t) A) (by decide) rfl (Nat.le_of_ble_eq_true rfl) rfl (fun p e s m below meth c A cx hA ls hP hD hS hl => w_X10_isIn_0 cx hA x0 x1 _ _ ls hP hD hS hl h)
theorem ms_X10_isIn : MS yX10_isIn cX10_isIn 2 (some .boolean) 2 := ⟨⟨kw_920, kw_11, by decide +kernel⟩, kw_919⟩
set_option maxHeartbeats 4000000 in
set_option maxRecDepth 100000 in
theorem w_X10_ones_4 {p : Program} {l : Launch} {e : Env} {s : State} {m : MethodId} {args : Array Value} {below : List Frame} {meth : Method} {c : Code} {dC : Nat → ClassId} {dI : Nat → Nat → Nat} {cI cJ : ClassId} {A : Nat → Prop} (cx : CX RX10 cX10_ones (some .int) 3 p s m args meth c (dC, dI) (TY cI cJ)) (hA : ∀ q, s.heap.size ≤ q → A q) {post : Int32 → Prop} : ∀ (n : Nat) (x1 : Int32) (x2 : Int32) (H : Heap) (locs : List Loc) (ls : Array Slot), va_P (dC, dI) vwCl ([]) H → va_D A ([]) → va_S A s.heap H locs → lv_has ls 3 [(1, .int x1), (2, .int x2)] → b_X10_ones_4 post n x1 x2 → W p l e ({ frames := 0, cells := 0, slots := 0, locals := 0 }) s m args below meth c H locs 0 0 (MQ below (va_Qi (S := Unit) (fun (r : Int32) (_u : Unit) => post r) (fun _u t => AT (dC, dI) (TY cI cJ) A ([]) t) A) args s 0 0 A) (F0 m 4 ls []) := by
  obtain ⟨hx, hb, hr, hml, hown, hts, hlocks, hK⟩ := id cx
  have cx' : CX RX10 cX10_ones (meth.sig.returnType) 3 p s m args meth c (dC, dI) (TY cI cJ) := ⟨hx, hb, rfl, hml, hown, hts, hlocks, hK⟩
  intro n
  induction n with
  | zero =>
    intro x1 x2 H locs ls hP hD hS hl h
    exact False.elim h
  | succ n ih =>
    intro x1 x2 H locs ls hP hD hS hl h
    unfold b_X10_ones_4 at h
    refine lv_iload_n hx hb dX10_ones_4 rfl (lv_at hl 1 rfl) ?_
    refine lv_if_eq (tgt := 20) hx hb dX10_ones_5 (by decide) (fun c_1 => ?_) (fun c_1 => ?_)
    · have h := h.1 c_1
      refine lv_iload_n hx hb dX10_ones_20 rfl (lv_at hl 0 rfl) ?_
      exact rt_i (v := x1) (u := ()) cx hP hD hS h dX10_ones_21
    have h := h.2 c_1
    obtain ⟨x1_2, ex1_2⟩ : ∃ z : Int32, z = x1 + 1 := ⟨_, rfl⟩
    have h := h x1_2 ex1_2
    refine lv_iinc (v := x1_2) (lv' := [(1, .int x1_2), (2, .int x2)]) hx hb dX10_ones_8 hl (k := 0) rfl (by rw [ex1_2]; rfl) (by decide) rfl (fun ls hl => ?_)
    refine lv_iload_n hx hb dX10_ones_11 rfl (lv_at hl 1 rfl) ?_
    refine lv_iload_n hx hb dX10_ones_12 rfl (lv_at hl 1 rfl) ?_
    refine lv_iconst (v := 1) hx hb dX10_ones_13 (by decide) ?_
    refine lv_isub hx hb dX10_ones_14 ?_
    refine lv_iand hx hb dX10_ones_15 ?_
    refine lv_topi (fun x2_3 ex2_3 => ?_)
    have h := h x2_3 ex2_3
    refine lv_istore_n (lv' := [(2, .int x2_3), (1, .int x1_2)]) hx hb dX10_ones_16 rfl hl (by decide) rfl (fun ls hl => ?_)
    refine lv_goto (tgt := 4) hx hb dX10_ones_17 (by decide) ?_
    exact ih x1_2 x2_3 H locs ls hP hD hS (lv_sub hl [1, 0] rfl) h
set_option maxHeartbeats 4000000 in
set_option maxRecDepth 100000 in
theorem w_X10_ones_0 {p : Program} {l : Launch} {e : Env} {s : State} {m : MethodId} {args : Array Value} {below : List Frame} {meth : Method} {c : Code} {dC : Nat → ClassId} {dI : Nat → Nat → Nat} {cI cJ : ClassId} {A : Nat → Prop} (cx : CX RX10 cX10_ones (some .int) 3 p s m args meth c (dC, dI) (TY cI cJ)) (hA : ∀ q, s.heap.size ≤ q → A q) {post : Int32 → Prop} : ∀ (x0 : Int32) (H : Heap) (locs : List Loc) (ls : Array Slot), va_P (dC, dI) vwCl ([]) H → va_D A ([]) → va_S A s.heap H locs → lv_has ls 3 [(0, .int x0)] → b_X10_ones_0 post x0 → W p l e ({ frames := 0, cells := 0, slots := 0, locals := 0 }) s m args below meth c H locs 0 0 (MQ below (va_Qi (S := Unit) (fun (r : Int32) (_u : Unit) => post r) (fun _u t => AT (dC, dI) (TY cI cJ) A ([]) t) A) args s 0 0 A) (F0 m 0 ls []) := by
  obtain ⟨hx, hb, hr, hml, hown, hts, hlocks, hK⟩ := id cx
  have cx' : CX RX10 cX10_ones (meth.sig.returnType) 3 p s m args meth c (dC, dI) (TY cI cJ) := ⟨hx, hb, rfl, hml, hown, hts, hlocks, hK⟩
  intro x0 H locs ls hP hD hS hl h
  unfold b_X10_ones_0 at h
  refine lv_iconst (v := 0) hx hb dX10_ones_0 (by decide) ?_
  refine lv_istore_n (lv' := [(1, .int 0), (0, .int x0)]) hx hb dX10_ones_1 rfl hl (by decide) rfl (fun ls hl => ?_)
  refine lv_iload_n hx hb dX10_ones_2 rfl (lv_at hl 1 rfl) ?_
  refine lv_istore_n (lv' := [(2, .int x0), (1, .int 0), (0, .int x0)]) hx hb dX10_ones_3 rfl hl (by decide) rfl (fun ls hl => ?_)
  obtain ⟨n_1, h⟩ := h
  exact w_X10_ones_4 cx hA n_1 0 x0 H locs ls hP hD hS (lv_sub hl [1, 0] rfl) h
set_option maxRecDepth 100000 in
theorem c_X10_ones (l : Launch) {dC : Nat → ClassId} {dI : Nat → Nat → Nat} {cI cJ : ClassId} (sz : Nat) (x0 : Int32) (post : Int32 → Prop) (h : wp_X10_ones x0 post) : Met l yX10_ones (Cond.code yX10_ones cX10_ones 3 (some .int) :: gt) ({ frames := 0, cells := 0, slots := 0, locals := 0 }) (va_Pc [.int x0] (PRE (dC, dI) (TY cI cJ) ([]) sz)) (va_Qi (S := Unit) (fun (r : Int32) (_u : Unit) => post r) (fun _u t => AT (dC, dI) (TY cI cJ) (va_A ([]) sz) ([]) t) (va_A ([]) sz)) 0 0 (va_A ([]) sz) :=
  met_of (own := RX10) (Qf := fun A => va_Qi (S := Unit) (fun (r : Int32) (_u : Unit) => post r) (fun _u t => AT (dC, dI) (TY cI cJ) A ([]) t) A) (by decide) rfl (Nat.le_of_ble_eq_true rfl) rfl (fun p e s m below meth c A cx hA ls hP hD hS hl => w_X10_ones_0 cx hA x0 _ _ ls hP hD hS hl h)
theorem ms_X10_ones : MS yX10_ones cX10_ones 3 (some .int) 1 := ⟨⟨kw_937, kw_11, by decide +kernel⟩, kw_936⟩
set_option maxHeartbeats 4000000 in
set_option maxRecDepth 100000 in
theorem w_X10_lesser_0 {p : Program} {l : Launch} {e : Env} {s : State} {m : MethodId} {args : Array Value} {below : List Frame} {meth : Method} {c : Code} {dC : Nat → ClassId} {dI : Nat → Nat → Nat} {cI cJ : ClassId} {A : Nat → Prop} (cx : CX RX10 cX10_lesser (some .int) 2 p s m args meth c (dC, dI) (TY cI cJ)) (hA : ∀ q, s.heap.size ≤ q → A q) {post : Int32 → Prop} : ∀ (x0 : Int32) (x1 : Int32) (H : Heap) (locs : List Loc) (ls : Array Slot), va_P (dC, dI) vwCl ([]) H → va_D A ([]) → va_S A s.heap H locs → lv_has ls 2 [(0, .int x0), (1, .int x1)] → b_X10_lesser_0 post x0 x1 → W p l e ({ frames := 0, cells := 0, slots := 0, locals := 0 }) s m args below meth c H locs 0 0 (MQ below (va_Qi (S := Unit) (fun (r : Int32) (_u : Unit) => post r) (fun _u t => AT (dC, dI) (TY cI cJ) A ([]) t) A) args s 0 0 A) (F0 m 0 ls []) := by
  obtain ⟨hx, hb, hr, hml, hown, hts, hlocks, hK⟩ := id cx
  have cx' : CX RX10 cX10_lesser (meth.sig.returnType) 2 p s m args meth c (dC, dI) (TY cI cJ) := ⟨hx, hb, rfl, hml, hown, hts, hlocks, hK⟩
  intro x0 x1 H locs ls hP hD hS hl h
  unfold b_X10_lesser_0 at h
  refine lv_iload_n hx hb dX10_lesser_0 rfl (lv_at hl 0 rfl) ?_
  refine lv_iload_n hx hb dX10_lesser_1 rfl (lv_at hl 1 rfl) ?_
  refine dia_i (ls := ls) (c0 := x1 ≤ x0) (a := x1) (b := x0) (J := 10) (rest := []) (fun K => ?_) (fun v_2 ev_2 => ?_)
  · refine lv_icmp_ge (tgt := 9) hx hb dX10_lesser_2 (by decide) (fun c_1 => ?_) (fun c_1 => ?_)
    · refine lv_iload_n hx hb dX10_lesser_9 rfl (lv_at hl 1 rfl) ?_
      exact K _ (Or.inl ⟨c_1, rfl⟩)
    · refine lv_iload_n hx hb dX10_lesser_5 rfl (lv_at hl 0 rfl) ?_
      refine lv_goto (tgt := 10) hx hb dX10_lesser_6 (by decide) ?_
      exact K _ (Or.inr ⟨c_1, rfl⟩)
  have h := h v_2 ev_2
  exact rt_i (v := v_2) (u := ()) cx hP hD hS h dX10_lesser_10
set_option maxRecDepth 100000 in
theorem c_X10_lesser (l : Launch) {dC : Nat → ClassId} {dI : Nat → Nat → Nat} {cI cJ : ClassId} (sz : Nat) (x0 : Int32) (x1 : Int32) (post : Int32 → Prop) (h : wp_X10_lesser x0 x1 post) : Met l yX10_lesser (Cond.code yX10_lesser cX10_lesser 2 (some .int) :: gt) ({ frames := 0, cells := 0, slots := 0, locals := 0 }) (va_Pc [.int x0, .int x1] (PRE (dC, dI) (TY cI cJ) ([]) sz)) (va_Qi (S := Unit) (fun (r : Int32) (_u : Unit) => post r) (fun _u t => AT (dC, dI) (TY cI cJ) (va_A ([]) sz) ([]) t) (va_A ([]) sz)) 0 0 (va_A ([]) sz) :=
  met_of (own := RX10) (Qf := fun A => va_Qi (S := Unit) (fun (r : Int32) (_u : Unit) => post r) (fun _u t => AT (dC, dI) (TY cI cJ) A ([]) t) A) (by decide) rfl (Nat.le_of_ble_eq_true rfl) rfl (fun p e s m below meth c A cx hA ls hP hD hS hl => w_X10_lesser_0 cx hA x0 x1 _ _ ls hP hD hS hl h)
theorem ms_X10_lesser : MS yX10_lesser cX10_lesser 2 (some .int) 2 := ⟨⟨kw_923, kw_11, by decide +kernel⟩, kw_922⟩
set_option maxHeartbeats 4000000 in
set_option maxRecDepth 100000 in
theorem w_X10_part_6 {p : Program} {l : Launch} {e : Env} {s : State} {m : MethodId} {args : Array Value} {below : List Frame} {meth : Method} {c : Code} {dC : Nat → ClassId} {dI : Nat → Nat → Nat} {cI cJ : ClassId} {A : Nat → Prop} (cx : CX RX10 cX10_part (some .long) 11 p s m args meth c (dC, dI) (TY cI cJ)) (hA : ∀ q, s.heap.size ≤ q → A q) {post : Int64 → Prop} : ∀ (n : Nat) (x0 : Int64) (x2 : Int64) (x4 : Int32) (x5 : Int64) (x7 : Int64) (H : Heap) (locs : List Loc) (ls : Array Slot), va_P (dC, dI) vwCl ([]) H → va_D A ([]) → va_S A s.heap H locs → lv_has ls 11 [(0, .long x0), (2, .long x2), (4, .int x4), (5, .long x5), (7, .long x7)] → b_X10_part_6 post n x0 x2 x4 x5 x7 → W p l e ({ frames := 0, cells := 0, slots := 0, locals := 0 }) s m args below meth c H locs 0 0 (MQ below (va_Ql (S := Unit) (fun (r : Int64) (_u : Unit) => post r) (fun _u t => AT (dC, dI) (TY cI cJ) A ([]) t) A) args s 0 0 A) (F0 m 6 ls []) := by
  obtain ⟨hx, hb, hr, hml, hown, hts, hlocks, hK⟩ := id cx
  have cx' : CX RX10 cX10_part (meth.sig.returnType) 11 p s m args meth c (dC, dI) (TY cI cJ) := ⟨hx, hb, rfl, hml, hown, hts, hlocks, hK⟩
  intro n
  induction n with
  | zero =>
    intro x0 x2 x4 x5 x7 H locs ls hP hD hS hl h
    exact False.elim h
  | succ n ih =>
    intro x0 x2 x4 x5 x7 H locs ls hP hD hS hl h
    unfold b_X10_part_6 at h
    refine lv_lload hx hb dX10_part_6 (lv_at hl 4 rfl) ?_
    refine lv_lconst (v := 0) hx hb dX10_part_8 (by decide) ?_
    refine W.lcmp hx hb dX10_part_9 ?_
    refine lv_if_eq (tgt := 31) hx hb dX10_part_10 (by decide) (fun c_1 => ?_) (fun c_1 => ?_)
    · have h := h.1 c_1
      refine lv_iload hx hb dX10_part_31 (lv_at hl 2 rfl) ?_
      refine dia_l (ls := ls) (c0 := x4 = 0) (a := x0) (b := x2) (J := 41) (rest := []) (fun K => ?_) (fun v_3 ev_3 => ?_)
      · refine lv_if_ne (tgt := 40) hx hb dX10_part_33 (by decide) (fun c_2 => ?_) (fun c_2 => ?_)
        · refine lv_lload_n hx hb dX10_part_40 rfl (lv_at hl 1 rfl) ?_
          exact K _ (Or.inr ⟨c_2, rfl⟩)
        · refine lv_lload_n hx hb dX10_part_36 rfl (lv_at hl 0 rfl) ?_
          refine lv_goto (tgt := 41) hx hb dX10_part_37 (by decide) ?_
          exact K _ (Or.inl ⟨c_2, rfl⟩)
      have h := h v_3 ev_3
      refine lv_lload hx hb dX10_part_41 (lv_at hl 3 rfl) ?_
      refine lv_ldiv hx hb dX10_part_43 h.1 ?_
      have h := h.2
      exact rt_l (v := v_3 / x5) (u := ()) cx hP hD hS h dX10_part_44
    have h := h.2 c_1
    refine lv_lload hx hb dX10_part_13 (lv_at hl 3 rfl) ?_
    refine lv_lload hx hb dX10_part_15 (lv_at hl 4 rfl) ?_
    refine lv_lrem hx hb dX10_part_17 h.1 ?_
    have h := h.2
    refine lv_topl (fun x9_4 ex9_4 => ?_)
    have h := h x9_4 ex9_4
    refine lv_lstore (lv' := [(9, .long x9_4), (0, .long x0), (2, .long x2), (4, .int x4), (5, .long x5), (7, .long x7)]) hx hb dX10_part_18 hl (by decide) rfl (fun ls hl => ?_)
    refine lv_lload hx hb dX10_part_20 (lv_at hl 5 rfl) ?_
    refine lv_lstore (lv' := [(5, .long x7), (9, .long x9_4), (0, .long x0), (2, .long x2), (4, .int x4), (7, .long x7)]) hx hb dX10_part_22 hl (by decide) rfl (fun ls hl => ?_)
    refine lv_lload hx hb dX10_part_24 (lv_at hl 1 rfl) ?_
    refine lv_lstore (lv' := [(7, .long x9_4), (5, .long x7), (9, .long x9_4), (0, .long x0), (2, .long x2), (4, .int x4)]) hx hb dX10_part_26 hl (by decide) rfl (fun ls hl => ?_)
    refine lv_goto (tgt := 6) hx hb dX10_part_28 (by decide) ?_
    exact ih x0 x2 x4 x7 x9_4 H locs ls hP hD hS (lv_sub hl [3, 4, 5, 1, 0] rfl) h
set_option maxHeartbeats 4000000 in
set_option maxRecDepth 100000 in
theorem w_X10_part_0 {p : Program} {l : Launch} {e : Env} {s : State} {m : MethodId} {args : Array Value} {below : List Frame} {meth : Method} {c : Code} {dC : Nat → ClassId} {dI : Nat → Nat → Nat} {cI cJ : ClassId} {A : Nat → Prop} (cx : CX RX10 cX10_part (some .long) 11 p s m args meth c (dC, dI) (TY cI cJ)) (hA : ∀ q, s.heap.size ≤ q → A q) {post : Int64 → Prop} : ∀ (x0 : Int64) (x2 : Int64) (x4 : Int32) (H : Heap) (locs : List Loc) (ls : Array Slot), va_P (dC, dI) vwCl ([]) H → va_D A ([]) → va_S A s.heap H locs → lv_has ls 11 [(0, .long x0), (2, .long x2), (4, .int x4)] → b_X10_part_0 post x0 x2 x4 → W p l e ({ frames := 0, cells := 0, slots := 0, locals := 0 }) s m args below meth c H locs 0 0 (MQ below (va_Ql (S := Unit) (fun (r : Int64) (_u : Unit) => post r) (fun _u t => AT (dC, dI) (TY cI cJ) A ([]) t) A) args s 0 0 A) (F0 m 0 ls []) := by
  obtain ⟨hx, hb, hr, hml, hown, hts, hlocks, hK⟩ := id cx
  have cx' : CX RX10 cX10_part (meth.sig.returnType) 11 p s m args meth c (dC, dI) (TY cI cJ) := ⟨hx, hb, rfl, hml, hown, hts, hlocks, hK⟩
  intro x0 x2 x4 H locs ls hP hD hS hl h
  unfold b_X10_part_0 at h
  refine lv_lload_n hx hb dX10_part_0 rfl (lv_at hl 0 rfl) ?_
  refine lv_lstore (lv' := [(5, .long x0), (0, .long x0), (2, .long x2), (4, .int x4)]) hx hb dX10_part_1 hl (by decide) rfl (fun ls hl => ?_)
  refine lv_lload_n hx hb dX10_part_3 rfl (lv_at hl 2 rfl) ?_
  refine lv_lstore (lv' := [(7, .long x2), (5, .long x0), (0, .long x0), (2, .long x2), (4, .int x4)]) hx hb dX10_part_4 hl (by decide) rfl (fun ls hl => ?_)
  obtain ⟨n_1, h⟩ := h
  exact w_X10_part_6 cx hA n_1 x0 x2 x4 x0 x2 H locs ls hP hD hS (lv_sub hl [2, 3, 4, 1, 0] rfl) h
set_option maxRecDepth 100000 in
theorem c_X10_part (l : Launch) {dC : Nat → ClassId} {dI : Nat → Nat → Nat} {cI cJ : ClassId} (sz : Nat) (x0 : Int64) (x2 : Int64) (x4 : Int32) (post : Int64 → Prop) (h : wp_X10_part x0 x2 x4 post) : Met l yX10_part (Cond.code yX10_part cX10_part 11 (some .long) :: gt) ({ frames := 0, cells := 0, slots := 0, locals := 0 }) (va_Pc [.long x0, .long x2, .int x4] (PRE (dC, dI) (TY cI cJ) ([]) sz)) (va_Ql (S := Unit) (fun (r : Int64) (_u : Unit) => post r) (fun _u t => AT (dC, dI) (TY cI cJ) (va_A ([]) sz) ([]) t) (va_A ([]) sz)) 0 0 (va_A ([]) sz) :=
  met_of (own := RX10) (Qf := fun A => va_Ql (S := Unit) (fun (r : Int64) (_u : Unit) => post r) (fun _u t => AT (dC, dI) (TY cI cJ) A ([]) t) A) (by decide) rfl (Nat.le_of_ble_eq_true rfl) rfl (fun p e s m below meth c A cx hA ls hP hD hS hl => w_X10_part_0 cx hA x0 x2 x4 _ _ ls hP hD hS hl h)
theorem ms_X10_part : MS yX10_part cX10_part 11 (some .long) 3 := ⟨⟨kw_1071, kw_11, by decide +kernel⟩, kw_1070⟩
set_option maxHeartbeats 4000000 in
set_option maxRecDepth 100000 in
theorem w_X10_finds_0 {p : Program} {l : Launch} {e : Env} {s : State} {m : MethodId} {args : Array Value} {below : List Frame} {meth : Method} {c : Code} {dC : Nat → ClassId} {dI : Nat → Nat → Nat} {cI cJ : ClassId} {A : Nat → Prop} (cx : CX RX10 cX10_finds (some .int) 2 p s m args meth c (dC, dI) (TY cI cJ)) (hA : ∀ q, s.heap.size ≤ q → A q) {q0 : Nat → Nat} {post : Int32 → Mem → Prop} : ∀ (x1 : Int32) (m0 : Mem) (H : Heap) (locs : List Loc) (ls : Array Slot), va_P (dC, dI) vwCl (ww_X10 cI cJ q0 m0) H → va_D A (ww_X10 cI cJ q0 m0) → va_S A s.heap H locs → lv_has ls 2 [(0, .ref (q0 0)), (1, .int x1)] → b_X10_finds_0 post x1 m0 → W p l e ({ frames := 0, cells := 0, slots := 0, locals := 0 }) s m args below meth c H locs 0 0 (MQ below (va_Qi (S := Mem) (fun (r : Int32) (u : Mem) => post r u) (fun u t => AT (dC, dI) (TY cI cJ) A (ww_X10 cI cJ q0 u) t) A) args s 0 0 A) (F0 m 0 ls []) := by
  obtain ⟨hx, hb, hr, hml, hown, hts, hlocks, hK⟩ := id cx
  have cx' : CX RX10 cX10_finds (meth.sig.returnType) 2 p s m args meth c (dC, dI) (TY cI cJ) := ⟨hx, hb, rfl, hml, hown, hts, hlocks, hK⟩
  intro x1 m0 H locs ls hP hD hS hl h
  unfold b_X10_finds_0 at h
  refine lv_aload_n hx hb dX10_finds_0 rfl (lv_at hl 0 rfl) ?_
  refine lv_iload_n hx hb dX10_finds_1 rfl (lv_at hl 1 rfl) ?_
  obtain ⟨m0_1, em0_1⟩ : ∃ z : Mem, z = up2 m0 0 4 x1 := ⟨_, rfl⟩
  have h := h m0_1 em0_1
  refine pf_v (k := 4) (tf := .int) cx' hP hD hS 0 (ww_X10 cI cJ q0 m0_1) i_X10 tyX10 tyX10_ok nmX10 rfl rfl (by decide) kw_719 rfl rfl rfl rfl rfl (Nat.le_of_ble_eq_true rfl) dX10_finds_2 (by subst em0_1; rfl) (fun H locs hP hD hS => ?_)
  refine lv_bipush (v := (-10)) hx hb dX10_finds_5 (by decide) ?_
  refine lv_iload_n hx hb dX10_finds_7 rfl (lv_at hl 1 rfl) ?_
  refine lv_isub hx hb dX10_finds_8 ?_
  exact rt_i (v := (-10) - x1) (u := m0_1) cx hP hD hS h dX10_finds_9
set_option maxRecDepth 100000 in
theorem c_X10_finds (l : Launch) {dC : Nat → ClassId} {dI : Nat → Nat → Nat} {cI cJ : ClassId} (sz : Nat) (q0 : Nat → Nat) (m0 : Mem) (x1 : Int32) (post : Int32 → Mem → Prop) (h : wp_X10_finds m0 x1 post) : Met l yX10_finds (Cond.code yX10_finds cX10_finds 2 (some .int) :: gt) ({ frames := 0, cells := 0, slots := 0, locals := 0 }) (va_Pc [.ref (q0 0), .int x1] (PRE (dC, dI) (TY cI cJ) (ww_X10 cI cJ q0 m0) sz)) (va_Qi (S := Mem) (fun (r : Int32) (u : Mem) => post r u) (fun u t => AT (dC, dI) (TY cI cJ) (va_A (ww_X10 cI cJ q0 m0) sz) (ww_X10 cI cJ q0 u) t) (va_A (ww_X10 cI cJ q0 m0) sz)) 0 0 (va_A (ww_X10 cI cJ q0 m0) sz) :=
  met_of (own := RX10) (Qf := fun A => va_Qi (S := Mem) (fun (r : Int32) (u : Mem) => post r u) (fun u t => AT (dC, dI) (TY cI cJ) A (ww_X10 cI cJ q0 u) t) A) (by decide) rfl (Nat.le_of_ble_eq_true rfl) rfl (fun p e s m below meth c A cx hA ls hP hD hS hl => w_X10_finds_0 cx hA x1 m0 _ _ ls hP hD hS hl h)
theorem mv_X10_finds : MV yX10_finds cX10_finds 2 (some .int) 1 := ⟨⟨kw_803, kw_11, by decide +kernel⟩, kw_802, ksel_20⟩
set_option maxHeartbeats 4000000 in
set_option maxRecDepth 100000 in
theorem w_X10_isSheet_0 {p : Program} {l : Launch} {e : Env} {s : State} {m : MethodId} {args : Array Value} {below : List Frame} {meth : Method} {c : Code} {dC : Nat → ClassId} {dI : Nat → Nat → Nat} {cI cJ : ClassId} {A : Nat → Prop} (cx : CX RX10 cX10_isSheet (some .boolean) 1 p s m args meth c (dC, dI) (TY cI cJ)) (hA : ∀ q, s.heap.size ≤ q → A q) {post : Int32 → Prop} : ∀ (x0 : Int32) (H : Heap) (locs : List Loc) (ls : Array Slot), va_P (dC, dI) vwCl ([]) H → va_D A ([]) → va_S A s.heap H locs → lv_has ls 1 [(0, .int x0)] → b_X10_isSheet_0 post x0 → W p l e ({ frames := 1, cells := 0, slots := 0, locals := 25 }) s m args below meth c H locs 0 0 (MQ below (va_Qi (S := Unit) (fun (r : Int32) (_u : Unit) => post r) (fun _u t => AT (dC, dI) (TY cI cJ) A ([]) t) A) args s 0 0 A) (F0 m 0 ls []) := by
  obtain ⟨hx, hb, hr, hml, hown, hts, hlocks, hK⟩ := id cx
  have cx' : CX RX10 cX10_isSheet (meth.sig.returnType) 1 p s m args meth c (dC, dI) (TY cI cJ) := ⟨hx, hb, rfl, hml, hown, hts, hlocks, hK⟩
  intro x0 H locs ls hP hD hS hl h
  unfold b_X10_isSheet_0 at h
  refine lv_iload_n hx hb dX10_isSheet_0 rfl (lv_at hl 0 rfl) ?_
  refine lv_i2l (v := Int32.toInt64 x0) hx hb dX10_isSheet_1 rfl ?_
  refine lv_lconst (v := 0) hx hb dX10_isSheet_2 (by decide) ?_
  refine lv_ldc2 hx hb hown (hts _ kw_795) dX10_isSheet_3 ?_
  refine callN_i (run_S (As := [.long (Int32.toInt64 x0), .long 0, .long 3]) (rest := []) (wc := []) cx' (c_X10_in l H.size (Int32.toInt64 x0) 0 3 _ h) ms_X10_in kw_796 rfl rfl ⟨Nat.le_of_ble_eq_true rfl, Nat.le_of_ble_eq_true rfl⟩ nilP nilD (A := A) rfl hl.1 rfl (Nat.le_of_ble_eq_true rfl) dX10_isSheet_6 ⟨Nat.zero_le _, Nat.zero_le _⟩) hP hS hA (fun r_1 H locs hP hS h => ?_)
  exact rt_z (v := r_1) (u := ()) cx h.1 hP hD hS h.2 dX10_isSheet_9
set_option maxRecDepth 100000 in
theorem c_X10_isSheet (l : Launch) {dC : Nat → ClassId} {dI : Nat → Nat → Nat} {cI cJ : ClassId} (sz : Nat) (x0 : Int32) (post : Int32 → Prop) (h : wp_X10_isSheet x0 post) : Met l yX10_isSheet (Cond.code yX10_isSheet cX10_isSheet 1 (some .boolean) :: gt) ({ frames := 1, cells := 0, slots := 0, locals := 25 }) (va_Pc [.int x0] (PRE (dC, dI) (TY cI cJ) ([]) sz)) (va_Qi (S := Unit) (fun (r : Int32) (_u : Unit) => post r) (fun _u t => AT (dC, dI) (TY cI cJ) (va_A ([]) sz) ([]) t) (va_A ([]) sz)) 0 0 (va_A ([]) sz) :=
  met_of (own := RX10) (Qf := fun A => va_Qi (S := Unit) (fun (r : Int32) (_u : Unit) => post r) (fun _u t => AT (dC, dI) (TY cI cJ) A ([]) t) A) (by decide) rfl (Nat.le_of_ble_eq_true rfl) rfl (fun p e s m below meth c A cx hA ls hP hD hS hl => w_X10_isSheet_0 cx hA x0 _ _ ls hP hD hS hl h)
theorem ms_X10_isSheet : MS yX10_isSheet cX10_isSheet 1 (some .boolean) 1 := ⟨⟨kw_794, kw_11, by decide +kernel⟩, kw_793⟩
set_option maxHeartbeats 4000000 in
set_option maxRecDepth 100000 in
theorem w_X10_sheet_55 {p : Program} {l : Launch} {e : Env} {s : State} {m : MethodId} {args : Array Value} {below : List Frame} {meth : Method} {c : Code} {dC : Nat → ClassId} {dI : Nat → Nat → Nat} {cI cJ : ClassId} {A : Nat → Prop} (cx : CX RX10 cX10_sheet (some .int) 5 p s m args meth c (dC, dI) (TY cI cJ)) (hA : ∀ q, s.heap.size ≤ q → A q) {q0 : Nat → Nat} {post : Int32 → Mem → Prop} : ∀ (n : Nat) (x1 : Int32) (x3 : Int32) (x4 : Int32) (m0 : Mem) (H : Heap) (locs : List Loc) (ls : Array Slot), va_P (dC, dI) vwCl (ww_X10 cI cJ q0 m0) H → va_D A (ww_X10 cI cJ q0 m0) → va_S A s.heap H locs → lv_has ls 5 [(0, .ref (q0 0)), (1, .int x1), (3, .int x3), (4, .int x4)] → b_X10_sheet_55 post n x1 x3 x4 m0 → W p l e ({ frames := 2, cells := 0, slots := 0, locals := 45 }) s m args below meth c H locs 0 0 (MQ below (va_Qi (S := Mem) (fun (r : Int32) (u : Mem) => post r u) (fun u t => AT (dC, dI) (TY cI cJ) A (ww_X10 cI cJ q0 u) t) A) args s 0 0 A) (F0 m 55 ls []) := by
  obtain ⟨hx, hb, hr, hml, hown, hts, hlocks, hK⟩ := id cx
  have cx' : CX RX10 cX10_sheet (meth.sig.returnType) 5 p s m args meth c (dC, dI) (TY cI cJ) := ⟨hx, hb, rfl, hml, hown, hts, hlocks, hK⟩
  intro n
  induction n with
  | zero =>
    intro x1 x3 x4 m0 H locs ls hP hD hS hl h
    exact False.elim h
  | succ n ih =>
    intro x1 x3 x4 m0 H locs ls hP hD hS hl h
    unfold b_X10_sheet_55 at h
    refine lv_iload hx hb dX10_sheet_55 (lv_at hl 3 rfl) ?_
    refine lv_iload_n hx hb dX10_sheet_57 rfl (lv_at hl 2 rfl) ?_
    refine lv_icmp_ge (tgt := 80) hx hb dX10_sheet_58 (by decide) (fun c_1 => ?_) (fun c_1 => ?_)
    · have h := h.1 c_1
      refine lv_iload_n hx hb dX10_sheet_80 rfl (lv_at hl 2 rfl) ?_
      exact rt_i (v := x3) (u := m0) cx hP hD hS h dX10_sheet_81
    have h := h.2 c_1
    refine lv_aload_n hx hb dX10_sheet_61 rfl (lv_at hl 0 rfl) ?_
    refine gf_v (k := 2) (v := .ref (q0 3)) cx' hP 0 i_X10 rfl rfl (by decide) kw_717 rfl rfl dX10_sheet_62 ?_
    refine lv_bipush (v := 60) hx hb dX10_sheet_65 (by decide) ?_
    refine lv_iload_n hx hb dX10_sheet_67 rfl (lv_at hl 1 rfl) ?_
    refine lv_imul hx hb dX10_sheet_68 ?_
    refine lv_iload hx hb dX10_sheet_69 (lv_at hl 3 rfl) ?_
    refine lv_iadd hx hb dX10_sheet_71 ?_
    refine lv_iconst (v := 0) hx hb dX10_sheet_72 (by decide) ?_
    obtain ⟨m0_2, em0_2⟩ : ∃ z : Mem, z = up2 m0 3 (Int32.toNatClampNeg ((60 * x1) + x4)) 0 := ⟨_, rfl⟩
    have h1 := h.1
    have h := h.2 m0_2 em0_2
    refine st_i hx hb hK hP hD hS 3 0 (ww_X10 cI cJ q0 m0_2) rfl rfl h1 dX10_sheet_73 (by subst em0_2; rfl) (fun H locs hP hD hS => ?_)
    obtain ⟨x4_3, ex4_3⟩ : ∃ z : Int32, z = x4 + 1 := ⟨_, rfl⟩
    have h := h x4_3 ex4_3
    refine lv_iinc (v := x4_3) (lv' := [(4, .int x4_3), (0, .ref (q0 0)), (1, .int x1), (3, .int x3)]) hx hb dX10_sheet_74 hl (k := 3) rfl (by rw [ex4_3]; rfl) (by decide) rfl (fun ls hl => ?_)
    refine lv_goto (tgt := 55) hx hb dX10_sheet_77 (by decide) ?_
    exact ih x1 x3 x4_3 m0_2 H locs ls hP hD hS (lv_sub hl [1, 2, 3, 0] rfl) h
set_option maxHeartbeats 4000000 in
set_option maxRecDepth 100000 in
theorem w_X10_sheet_0 {p : Program} {l : Launch} {e : Env} {s : State} {m : MethodId} {args : Array Value} {below : List Frame} {meth : Method} {c : Code} {dC : Nat → ClassId} {dI : Nat → Nat → Nat} {cI cJ : ClassId} {A : Nat → Prop} (cx : CX RX10 cX10_sheet (some .int) 5 p s m args meth c (dC, dI) (TY cI cJ)) (hA : ∀ q, s.heap.size ≤ q → A q) {q0 : Nat → Nat} {post : Int32 → Mem → Prop} : ∀ (x1 : Int32) (x2 : Int32) (x3 : Int32) (m0 : Mem) (H : Heap) (locs : List Loc) (ls : Array Slot), va_P (dC, dI) vwCl (ww_X10 cI cJ q0 m0) H → va_D A (ww_X10 cI cJ q0 m0) → va_S A s.heap H locs → lv_has ls 5 [(0, .ref (q0 0)), (1, .int x1), (2, .int x2), (3, .int x3)] → b_X10_sheet_0 post x1 x2 x3 m0 → W p l e ({ frames := 2, cells := 0, slots := 0, locals := 45 }) s m args below meth c H locs 0 0 (MQ below (va_Qi (S := Mem) (fun (r : Int32) (u : Mem) => post r u) (fun u t => AT (dC, dI) (TY cI cJ) A (ww_X10 cI cJ q0 u) t) A) args s 0 0 A) (F0 m 0 ls []) := by
  obtain ⟨hx, hb, hr, hml, hown, hts, hlocks, hK⟩ := id cx
  have cx' : CX RX10 cX10_sheet (meth.sig.returnType) 5 p s m args meth c (dC, dI) (TY cI cJ) := ⟨hx, hb, rfl, hml, hown, hts, hlocks, hK⟩
  intro x1 x2 x3 m0 H locs ls hP hD hS hl h
  unfold b_X10_sheet_0 at h
  refine lv_iload_n hx hb dX10_sheet_0 rfl (lv_at hl 1 rfl) ?_
  refine callN_i (run_S (As := [.int x1]) (rest := []) (wc := []) cx' (c_X10_isSheet l H.size x1 _ h) ms_X10_isSheet kw_792 rfl rfl ⟨Nat.le_of_ble_eq_true rfl, Nat.le_of_ble_eq_true rfl⟩ nilP nilD (A := A) rfl hl.1 rfl (Nat.le_of_ble_eq_true rfl) dX10_sheet_1 ⟨Nat.zero_le _, Nat.zero_le _⟩) hP hS hA (fun r_1 H locs hP hS h => ?_)
  refine lv_if_eq (tgt := 25) hx hb dX10_sheet_4 (by decide) (fun c_2 => ?_) (fun c_2 => ?_)
  · have h := h.1 c_2
    refine lv_bipush (v := (-2)) hx hb dX10_sheet_25 (by decide) ?_
    exact rt_i (v := (-2)) (u := m0) cx hP hD hS h dX10_sheet_27
  have h := h.2 c_2
  refine lv_iload_n hx hb dX10_sheet_7 rfl (lv_at hl 2 rfl) ?_
  refine lv_i2l (v := Int32.toInt64 x2) hx hb dX10_sheet_8 rfl ?_
  refine lv_lconst (v := 0) hx hb dX10_sheet_9 (by decide) ?_
  refine lv_ldc2 hx hb hown (hts _ kw_799) dX10_sheet_10 ?_
  refine callN_i (run_S (As := [.long (Int32.toInt64 x2), .long 0, .long 2]) (rest := []) (wc := []) cx' (c_X10_in l H.size (Int32.toInt64 x2) 0 2 _ h) ms_X10_in kw_796 rfl rfl ⟨Nat.le_of_ble_eq_true rfl, Nat.le_of_ble_eq_true rfl⟩ nilP nilD (A := A) rfl hl.1 rfl (Nat.le_of_ble_eq_true rfl) dX10_sheet_13 ⟨Nat.zero_le _, Nat.zero_le _⟩) hP hS hA (fun r_3 H locs hP hS h => ?_)
  refine lv_if_eq (tgt := 25) hx hb dX10_sheet_16 (by decide) (fun c_4 => ?_) (fun c_4 => ?_)
  · have h := h.1 c_4
    refine lv_bipush (v := (-2)) hx hb dX10_sheet_25 (by decide) ?_
    exact rt_i (v := (-2)) (u := m0) cx hP hD hS h dX10_sheet_27
  have h := h.2 c_4
  refine lv_iload_n hx hb dX10_sheet_19 rfl (lv_at hl 3 rfl) ?_
  refine lv_bipush (v := 60) hx hb dX10_sheet_20 (by decide) ?_
  refine lv_icmp_le (tgt := 28) hx hb dX10_sheet_22 (by decide) (fun c_5 => ?_) (fun c_5 => ?_)
  · have h := h.1 c_5
    refine lv_iload_n hx hb dX10_sheet_28 rfl (lv_at hl 3 rfl) ?_
    refine lv_if_ge (tgt := 38) hx hb dX10_sheet_29 (by decide) (fun c_6 => ?_) (fun c_6 => ?_)
    · have h := h.1 c_6
      refine lv_aload_n hx hb dX10_sheet_38 rfl (lv_at hl 0 rfl) ?_
      refine gf_v (k := 0) (v := .ref (q0 1)) cx' hP 0 i_X10 rfl rfl (by decide) kw_715 rfl rfl dX10_sheet_39 ?_
      refine lv_iload_n hx hb dX10_sheet_42 rfl (lv_at hl 1 rfl) ?_
      refine lv_iload_n hx hb dX10_sheet_43 rfl (lv_at hl 2 rfl) ?_
      obtain ⟨m0_7, em0_7⟩ : ∃ z : Mem, z = up2 m0 1 (Int32.toNatClampNeg x1) x2 := ⟨_, rfl⟩
      have h1 := h.1
      have h := h.2 m0_7 em0_7
      refine st_i hx hb hK hP hD hS 1 0 (ww_X10 cI cJ q0 m0_7) rfl rfl h1 dX10_sheet_44 (by subst em0_7; rfl) (fun H locs hP hD hS => ?_)
      refine lv_aload_n hx hb dX10_sheet_45 rfl (lv_at hl 0 rfl) ?_
      refine gf_v (k := 1) (v := .ref (q0 2)) cx' hP 0 i_X10 rfl rfl (by decide) kw_716 rfl rfl dX10_sheet_46 ?_
      refine lv_iload_n hx hb dX10_sheet_49 rfl (lv_at hl 1 rfl) ?_
      refine lv_iload_n hx hb dX10_sheet_50 rfl (lv_at hl 3 rfl) ?_
      obtain ⟨m0_8, em0_8⟩ : ∃ z : Mem, z = up2 m0_7 2 (Int32.toNatClampNeg x1) x3 := ⟨_, rfl⟩
      have h1 := h.1
      have h := h.2 m0_8 em0_8
      refine st_i hx hb hK hP hD hS 2 0 (ww_X10 cI cJ q0 m0_8) rfl rfl h1 dX10_sheet_51 (by subst em0_8; rfl) (fun H locs hP hD hS => ?_)
      refine lv_iconst (v := 0) hx hb dX10_sheet_52 (by decide) ?_
      refine lv_istore (lv' := [(4, .int 0), (0, .ref (q0 0)), (1, .int x1), (2, .int x2), (3, .int x3)]) hx hb dX10_sheet_53 hl (by decide) rfl (fun ls hl => ?_)
      obtain ⟨n_9, h⟩ := h
      exact w_X10_sheet_55 cx hA n_9 x1 x3 0 m0_8 H locs ls hP hD hS (lv_sub hl [1, 2, 4, 0] rfl) h
    have h := h.2 c_6
    refine lv_aload_n hx hb dX10_sheet_32 rfl (lv_at hl 0 rfl) ?_
    refine lv_iconst (v := 5) hx hb dX10_sheet_33 (by decide) ?_
    refine call_i (run_V (As := [.int 5]) (rest := []) cx' (c_X10_finds l H.size q0 m0 5 _ h) mv_X10_finds kw_800 rfl rfl ⟨Nat.le_of_ble_eq_true rfl, Nat.le_of_ble_eq_true rfl⟩ hP hD rfl rfl rfl hl.1 rfl (Nat.le_of_ble_eq_true rfl) dX10_sheet_34 ⟨Nat.zero_le _, Nat.zero_le _⟩) hD hS hA (fun r_10 u9 H locs hP hD hS h => ?_)
    obtain ⟨m0_11, rfl⟩ : ∃ z, z = u9 := ⟨_, rfl⟩
    have hP : va_P (dC, dI) vwCl (ww_X10 cI cJ q0 m0_11) H := hP
    have hD : va_D A (ww_X10 cI cJ q0 m0_11) := hD
    exact rt_i (v := r_10) (u := m0_11) cx hP hD hS h dX10_sheet_37
  have h := h.2 c_5
  refine lv_bipush (v := (-2)) hx hb dX10_sheet_25 (by decide) ?_
  exact rt_i (v := (-2)) (u := m0) cx hP hD hS h dX10_sheet_27
set_option maxRecDepth 100000 in
theorem c_X10_sheet (l : Launch) {dC : Nat → ClassId} {dI : Nat → Nat → Nat} {cI cJ : ClassId} (sz : Nat) (q0 : Nat → Nat) (m0 : Mem) (x1 : Int32) (x2 : Int32) (x3 : Int32) (post : Int32 → Mem → Prop) (h : wp_X10_sheet m0 x1 x2 x3 post) : Met l yX10_sheet (Cond.code yX10_sheet cX10_sheet 5 (some .int) :: gt) ({ frames := 2, cells := 0, slots := 0, locals := 45 }) (va_Pc [.ref (q0 0), .int x1, .int x2, .int x3] (PRE (dC, dI) (TY cI cJ) (ww_X10 cI cJ q0 m0) sz)) (va_Qi (S := Mem) (fun (r : Int32) (u : Mem) => post r u) (fun u t => AT (dC, dI) (TY cI cJ) (va_A (ww_X10 cI cJ q0 m0) sz) (ww_X10 cI cJ q0 u) t) (va_A (ww_X10 cI cJ q0 m0) sz)) 0 0 (va_A (ww_X10 cI cJ q0 m0) sz) :=
  met_of (own := RX10) (Qf := fun A => va_Qi (S := Mem) (fun (r : Int32) (u : Mem) => post r u) (fun u t => AT (dC, dI) (TY cI cJ) A (ww_X10 cI cJ q0 u) t) A) (by decide) rfl (Nat.le_of_ble_eq_true rfl) rfl (fun p e s m below meth c A cx hA ls hP hD hS hl => w_X10_sheet_0 cx hA x1 x2 x3 m0 _ _ ls hP hD hS hl h)
theorem mv_X10_sheet : MV yX10_sheet cX10_sheet 5 (some .int) 3 := ⟨⟨kw_791, kw_11, by decide +kernel⟩, kw_789, kw_790⟩
set_option maxHeartbeats 4000000 in
set_option maxRecDepth 100000 in
theorem w_X10_lose_0 {p : Program} {l : Launch} {e : Env} {s : State} {m : MethodId} {args : Array Value} {below : List Frame} {meth : Method} {c : Code} {dC : Nat → ClassId} {dI : Nat → Nat → Nat} {cI cJ : ClassId} {A : Nat → Prop} (cx : CX RX10 cX10_lose (some .int) 2 p s m args meth c (dC, dI) (TY cI cJ)) (hA : ∀ q, s.heap.size ≤ q → A q) {q0 : Nat → Nat} {post : Int32 → Mem → Prop} : ∀ (x1 : Int32) (m0 : Mem) (H : Heap) (locs : List Loc) (ls : Array Slot), va_P (dC, dI) vwCl (ww_X10 cI cJ q0 m0) H → va_D A (ww_X10 cI cJ q0 m0) → va_S A s.heap H locs → lv_has ls 2 [(0, .ref (q0 0)), (1, .int x1)] → b_X10_lose_0 post x1 m0 → W p l e ({ frames := 2, cells := 0, slots := 0, locals := 45 }) s m args below meth c H locs 0 0 (MQ below (va_Qi (S := Mem) (fun (r : Int32) (u : Mem) => post r u) (fun u t => AT (dC, dI) (TY cI cJ) A (ww_X10 cI cJ q0 u) t) A) args s 0 0 A) (F0 m 0 ls []) := by
  obtain ⟨hx, hb, hr, hml, hown, hts, hlocks, hK⟩ := id cx
  have cx' : CX RX10 cX10_lose (meth.sig.returnType) 2 p s m args meth c (dC, dI) (TY cI cJ) := ⟨hx, hb, rfl, hml, hown, hts, hlocks, hK⟩
  intro x1 m0 H locs ls hP hD hS hl h
  unfold b_X10_lose_0 at h
  refine lv_iload_n hx hb dX10_lose_0 rfl (lv_at hl 1 rfl) ?_
  refine callN_i (run_S (As := [.int x1]) (rest := []) (wc := []) cx' (c_X10_isSheet l H.size x1 _ h) ms_X10_isSheet kw_792 rfl rfl ⟨Nat.le_of_ble_eq_true rfl, Nat.le_of_ble_eq_true rfl⟩ nilP nilD (A := A) rfl hl.1 rfl (Nat.le_of_ble_eq_true rfl) dX10_lose_1 ⟨Nat.zero_le _, Nat.zero_le _⟩) hP hS hA (fun r_1 H locs hP hS h => ?_)
  refine lv_if_ne (tgt := 10) hx hb dX10_lose_4 (by decide) (fun c_2 => ?_) (fun c_2 => ?_)
  · have h := h.1 c_2
    refine lv_aload_n hx hb dX10_lose_10 rfl (lv_at hl 0 rfl) ?_
    refine gf_v (k := 0) (v := .ref (q0 1)) cx' hP 0 i_X10 rfl rfl (by decide) kw_715 rfl rfl dX10_lose_11 ?_
    refine lv_iload_n hx hb dX10_lose_14 rfl (lv_at hl 1 rfl) ?_
    refine va_iald hx hb hK hP 1 0 rfl rfl h.1 dX10_lose_15 ?_
    have h := h.2
    refine lv_if_ge (tgt := 25) hx hb dX10_lose_16 (by decide) (fun c_3 => ?_) (fun c_3 => ?_)
    · have h := h.1 c_3
      refine lv_aload_n hx hb dX10_lose_25 rfl (lv_at hl 0 rfl) ?_
      refine gf_v (k := 0) (v := .ref (q0 1)) cx' hP 0 i_X10 rfl rfl (by decide) kw_715 rfl rfl dX10_lose_26 ?_
      refine lv_iload_n hx hb dX10_lose_29 rfl (lv_at hl 1 rfl) ?_
      refine lv_iconst (v := (-1)) hx hb dX10_lose_30 (by decide) ?_
      obtain ⟨m0_4, em0_4⟩ : ∃ z : Mem, z = up2 m0 1 (Int32.toNatClampNeg x1) (-1) := ⟨_, rfl⟩
      have h1 := h.1
      have h := h.2 m0_4 em0_4
      refine st_i hx hb hK hP hD hS 1 0 (ww_X10 cI cJ q0 m0_4) rfl rfl h1 dX10_lose_31 (by subst em0_4; rfl) (fun H locs hP hD hS => ?_)
      refine lv_aload_n hx hb dX10_lose_32 rfl (lv_at hl 0 rfl) ?_
      refine gf_v (k := 1) (v := .ref (q0 2)) cx' hP 0 i_X10 rfl rfl (by decide) kw_716 rfl rfl dX10_lose_33 ?_
      refine lv_iload_n hx hb dX10_lose_36 rfl (lv_at hl 1 rfl) ?_
      refine va_iald hx hb hK hP 2 0 rfl rfl h.1 dX10_lose_37 ?_
      have h := h.2
      exact rt_i (v := m0_4 2 (Int32.toNatClampNeg x1)) (u := m0_4) cx hP hD hS h dX10_lose_38
    have h := h.2 c_3
    refine lv_aload_n hx hb dX10_lose_19 rfl (lv_at hl 0 rfl) ?_
    refine lv_iconst (v := 1) hx hb dX10_lose_20 (by decide) ?_
    refine call_i (run_V (As := [.int 1]) (rest := []) cx' (c_X10_finds l H.size q0 m0 1 _ h) mv_X10_finds kw_800 rfl rfl ⟨Nat.le_of_ble_eq_true rfl, Nat.le_of_ble_eq_true rfl⟩ hP hD rfl rfl rfl hl.1 rfl (Nat.le_of_ble_eq_true rfl) dX10_lose_21 ⟨Nat.zero_le _, Nat.zero_le _⟩) hD hS hA (fun r_5 u9 H locs hP hD hS h => ?_)
    obtain ⟨m0_6, rfl⟩ : ∃ z, z = u9 := ⟨_, rfl⟩
    have hP : va_P (dC, dI) vwCl (ww_X10 cI cJ q0 m0_6) H := hP
    have hD : va_D A (ww_X10 cI cJ q0 m0_6) := hD
    exact rt_i (v := r_5) (u := m0_6) cx hP hD hS h dX10_lose_24
  have h := h.2 c_2
  refine lv_bipush (v := (-2)) hx hb dX10_lose_7 (by decide) ?_
  exact rt_i (v := (-2)) (u := m0) cx hP hD hS h dX10_lose_9
set_option maxRecDepth 100000 in
theorem c_X10_lose (l : Launch) {dC : Nat → ClassId} {dI : Nat → Nat → Nat} {cI cJ : ClassId} (sz : Nat) (q0 : Nat → Nat) (m0 : Mem) (x1 : Int32) (post : Int32 → Mem → Prop) (h : wp_X10_lose m0 x1 post) : Met l yX10_lose (Cond.code yX10_lose cX10_lose 2 (some .int) :: gt) ({ frames := 2, cells := 0, slots := 0, locals := 45 }) (va_Pc [.ref (q0 0), .int x1] (PRE (dC, dI) (TY cI cJ) (ww_X10 cI cJ q0 m0) sz)) (va_Qi (S := Mem) (fun (r : Int32) (u : Mem) => post r u) (fun u t => AT (dC, dI) (TY cI cJ) (va_A (ww_X10 cI cJ q0 m0) sz) (ww_X10 cI cJ q0 u) t) (va_A (ww_X10 cI cJ q0 m0) sz)) 0 0 (va_A (ww_X10 cI cJ q0 m0) sz) :=
  met_of (own := RX10) (Qf := fun A => va_Qi (S := Mem) (fun (r : Int32) (u : Mem) => post r u) (fun u t => AT (dC, dI) (TY cI cJ) A (ww_X10 cI cJ q0 u) t) A) (by decide) rfl (Nat.le_of_ble_eq_true rfl) rfl (fun p e s m below meth c A cx hA ls hP hD hS hl => w_X10_lose_0 cx hA x1 m0 _ _ ls hP hD hS hl h)
theorem mv_X10_lose : MV yX10_lose cX10_lose 2 (some .int) 1 := ⟨⟨kw_807, kw_11, by decide +kernel⟩, kw_805, kw_806⟩
set_option maxHeartbeats 4000000 in
set_option maxRecDepth 100000 in
theorem w_X10_lacks_0 {p : Program} {l : Launch} {e : Env} {s : State} {m : MethodId} {args : Array Value} {below : List Frame} {meth : Method} {c : Code} {dC : Nat → ClassId} {dI : Nat → Nat → Nat} {cI cJ : ClassId} {A : Nat → Prop} (cx : CX RX10 cX10_lacks (some .int) 4 p s m args meth c (dC, dI) (TY cI cJ)) (hA : ∀ q, s.heap.size ≤ q → A q) {q0 : Nat → Nat} {post : Int32 → Mem → Prop} : ∀ (x1 : Int32) (x2 : Int32) (x3 : Int32) (m0 : Mem) (H : Heap) (locs : List Loc) (ls : Array Slot), va_P (dC, dI) vwCl (ww_X10 cI cJ q0 m0) H → va_D A (ww_X10 cI cJ q0 m0) → va_S A s.heap H locs → lv_has ls 4 [(0, .ref (q0 0)), (1, .int x1), (2, .int x2), (3, .int x3)] → b_X10_lacks_0 post x1 x2 x3 m0 → W p l e ({ frames := 1, cells := 0, slots := 0, locals := 25 }) s m args below meth c H locs 0 0 (MQ below (va_Qi (S := Mem) (fun (r : Int32) (u : Mem) => post r u) (fun u t => AT (dC, dI) (TY cI cJ) A (ww_X10 cI cJ q0 u) t) A) args s 0 0 A) (F0 m 0 ls []) := by
  obtain ⟨hx, hb, hr, hml, hown, hts, hlocks, hK⟩ := id cx
  have cx' : CX RX10 cX10_lacks (meth.sig.returnType) 4 p s m args meth c (dC, dI) (TY cI cJ) := ⟨hx, hb, rfl, hml, hown, hts, hlocks, hK⟩
  intro x1 x2 x3 m0 H locs ls hP hD hS hl h
  unfold b_X10_lacks_0 at h
  refine lv_aload_n hx hb dX10_lacks_0 rfl (lv_at hl 0 rfl) ?_
  refine gf_v (k := 0) (v := .ref (q0 1)) cx' hP 0 i_X10 rfl rfl (by decide) kw_715 rfl rfl dX10_lacks_1 ?_
  refine lv_iload_n hx hb dX10_lacks_4 rfl (lv_at hl 1 rfl) ?_
  refine va_iald hx hb hK hP 1 0 rfl rfl h.1 dX10_lacks_5 ?_
  have h := h.2
  refine lv_if_ge (tgt := 15) hx hb dX10_lacks_6 (by decide) (fun c_1 => ?_) (fun c_1 => ?_)
  · have h := h.1 c_1
    refine lv_aload_n hx hb dX10_lacks_15 rfl (lv_at hl 0 rfl) ?_
    refine gf_v (k := 0) (v := .ref (q0 1)) cx' hP 0 i_X10 rfl rfl (by decide) kw_715 rfl rfl dX10_lacks_16 ?_
    refine lv_iload_n hx hb dX10_lacks_19 rfl (lv_at hl 1 rfl) ?_
    refine va_iald hx hb hK hP 1 0 rfl rfl h.1 dX10_lacks_20 ?_
    have h := h.2
    refine lv_iload_n hx hb dX10_lacks_21 rfl (lv_at hl 2 rfl) ?_
    refine lv_icmp_eq (tgt := 31) hx hb dX10_lacks_22 (by decide) (fun c_2 => ?_) (fun c_2 => ?_)
    · have h := h.1 c_2
      refine lv_iload_n hx hb dX10_lacks_31 rfl (lv_at hl 3 rfl) ?_
      refine lv_i2l (v := Int32.toInt64 x3) hx hb dX10_lacks_32 rfl ?_
      refine lv_lconst (v := 0) hx hb dX10_lacks_33 (by decide) ?_
      refine lv_aload_n hx hb dX10_lacks_34 rfl (lv_at hl 0 rfl) ?_
      refine gf_v (k := 1) (v := .ref (q0 2)) cx' hP 0 i_X10 rfl rfl (by decide) kw_716 rfl rfl dX10_lacks_35 ?_
      refine lv_iload_n hx hb dX10_lacks_38 rfl (lv_at hl 1 rfl) ?_
      refine va_iald hx hb hK hP 2 0 rfl rfl h.1 dX10_lacks_39 ?_
      have h := h.2
      refine lv_iconst (v := 1) hx hb dX10_lacks_40 (by decide) ?_
      refine lv_isub hx hb dX10_lacks_41 ?_
      refine lv_i2l (v := Int32.toInt64 ((m0 2 (Int32.toNatClampNeg x1)) - 1)) hx hb dX10_lacks_42 rfl ?_
      refine callN_i (run_S (As := [.long (Int32.toInt64 x3), .long 0, .long (Int32.toInt64 ((m0 2 (Int32.toNatClampNeg x1)) - 1))]) (rest := []) (wc := []) cx' (c_X10_in l H.size (Int32.toInt64 x3) 0 (Int32.toInt64 ((m0 2 (Int32.toNatClampNeg x1)) - 1)) _ h) ms_X10_in kw_796 rfl rfl ⟨Nat.le_of_ble_eq_true rfl, Nat.le_of_ble_eq_true rfl⟩ nilP nilD (A := A) rfl hl.1 rfl (Nat.le_of_ble_eq_true rfl) dX10_lacks_43 ⟨Nat.zero_le _, Nat.zero_le _⟩) hP hS hA (fun r_3 H locs hP hS h => ?_)
      refine lv_if_eq (tgt := 53) hx hb dX10_lacks_46 (by decide) (fun c_4 => ?_) (fun c_4 => ?_)
      · have h := h.1 c_4
        refine lv_aload_n hx hb dX10_lacks_53 rfl (lv_at hl 0 rfl) ?_
        refine lv_iconst (v := 2) hx hb dX10_lacks_54 (by decide) ?_
        refine call_i (run_V (As := [.int 2]) (rest := []) cx' (c_X10_finds l H.size q0 m0 2 _ h) mv_X10_finds kw_800 rfl rfl ⟨Nat.le_of_ble_eq_true rfl, Nat.le_of_ble_eq_true rfl⟩ hP hD rfl rfl rfl hl.1 rfl (Nat.le_of_ble_eq_true rfl) dX10_lacks_55 ⟨Nat.zero_le _, Nat.zero_le _⟩) hD hS hA (fun r_5 u9 H locs hP hD hS h => ?_)
        obtain ⟨m0_6, rfl⟩ : ∃ z, z = u9 := ⟨_, rfl⟩
        have hP : va_P (dC, dI) vwCl (ww_X10 cI cJ q0 m0_6) H := hP
        have hD : va_D A (ww_X10 cI cJ q0 m0_6) := hD
        exact rt_i (v := r_5) (u := m0_6) cx hP hD hS h dX10_lacks_58
      have h := h.2 c_4
      refine lv_iconst (v := 0) hx hb dX10_lacks_49 (by decide) ?_
      refine lv_goto (tgt := 58) hx hb dX10_lacks_50 (by decide) ?_
      exact rt_i (v := 0) (u := m0) cx hP hD hS h dX10_lacks_58
    have h := h.2 c_2
    refine lv_aload_n hx hb dX10_lacks_25 rfl (lv_at hl 0 rfl) ?_
    refine lv_iconst (v := 3) hx hb dX10_lacks_26 (by decide) ?_
    refine call_i (run_V (As := [.int 3]) (rest := []) cx' (c_X10_finds l H.size q0 m0 3 _ h) mv_X10_finds kw_800 rfl rfl ⟨Nat.le_of_ble_eq_true rfl, Nat.le_of_ble_eq_true rfl⟩ hP hD rfl rfl rfl hl.1 rfl (Nat.le_of_ble_eq_true rfl) dX10_lacks_27 ⟨Nat.zero_le _, Nat.zero_le _⟩) hD hS hA (fun r_7 u9 H locs hP hD hS h => ?_)
    obtain ⟨m0_8, rfl⟩ : ∃ z, z = u9 := ⟨_, rfl⟩
    have hP : va_P (dC, dI) vwCl (ww_X10 cI cJ q0 m0_8) H := hP
    have hD : va_D A (ww_X10 cI cJ q0 m0_8) := hD
    exact rt_i (v := r_7) (u := m0_8) cx hP hD hS h dX10_lacks_30
  have h := h.2 c_1
  refine lv_aload_n hx hb dX10_lacks_9 rfl (lv_at hl 0 rfl) ?_
  refine lv_iconst (v := 1) hx hb dX10_lacks_10 (by decide) ?_
  refine call_i (run_V (As := [.int 1]) (rest := []) cx' (c_X10_finds l H.size q0 m0 1 _ h) mv_X10_finds kw_800 rfl rfl ⟨Nat.le_of_ble_eq_true rfl, Nat.le_of_ble_eq_true rfl⟩ hP hD rfl rfl rfl hl.1 rfl (Nat.le_of_ble_eq_true rfl) dX10_lacks_11 ⟨Nat.zero_le _, Nat.zero_le _⟩) hD hS hA (fun r_9 u9 H locs hP hD hS h => ?_)
  obtain ⟨m0_10, rfl⟩ : ∃ z, z = u9 := ⟨_, rfl⟩
  have hP : va_P (dC, dI) vwCl (ww_X10 cI cJ q0 m0_10) H := hP
  have hD : va_D A (ww_X10 cI cJ q0 m0_10) := hD
  exact rt_i (v := r_9) (u := m0_10) cx hP hD hS h dX10_lacks_14
set_option maxRecDepth 100000 in
theorem c_X10_lacks (l : Launch) {dC : Nat → ClassId} {dI : Nat → Nat → Nat} {cI cJ : ClassId} (sz : Nat) (q0 : Nat → Nat) (m0 : Mem) (x1 : Int32) (x2 : Int32) (x3 : Int32) (post : Int32 → Mem → Prop) (h : wp_X10_lacks m0 x1 x2 x3 post) : Met l yX10_lacks (Cond.code yX10_lacks cX10_lacks 4 (some .int) :: gt) ({ frames := 1, cells := 0, slots := 0, locals := 25 }) (va_Pc [.ref (q0 0), .int x1, .int x2, .int x3] (PRE (dC, dI) (TY cI cJ) (ww_X10 cI cJ q0 m0) sz)) (va_Qi (S := Mem) (fun (r : Int32) (u : Mem) => post r u) (fun u t => AT (dC, dI) (TY cI cJ) (va_A (ww_X10 cI cJ q0 m0) sz) (ww_X10 cI cJ q0 u) t) (va_A (ww_X10 cI cJ q0 m0) sz)) 0 0 (va_A (ww_X10 cI cJ q0 m0) sz) :=
  met_of (own := RX10) (Qf := fun A => va_Qi (S := Mem) (fun (r : Int32) (u : Mem) => post r u) (fun u t => AT (dC, dI) (TY cI cJ) A (ww_X10 cI cJ q0 u) t) A) (by decide) rfl (Nat.le_of_ble_eq_true rfl) rfl (fun p e s m below meth c A cx hA ls hP hD hS hl => w_X10_lacks_0 cx hA x1 x2 x3 m0 _ _ ls hP hD hS hl h)
theorem mv_X10_lacks : MV yX10_lacks cX10_lacks 4 (some .int) 3 := ⟨⟨kw_815, kw_11, by decide +kernel⟩, kw_814, ksel_21⟩
set_option maxHeartbeats 4000000 in
set_option maxRecDepth 100000 in
theorem w_X10_cut_0 {p : Program} {l : Launch} {e : Env} {s : State} {m : MethodId} {args : Array Value} {below : List Frame} {meth : Method} {c : Code} {dC : Nat → ClassId} {dI : Nat → Nat → Nat} {cI cJ : ClassId} {A : Nat → Prop} (cx : CX RX10 cX10_cut (some .int) 2 p s m args meth c (dC, dI) (TY cI cJ)) (hA : ∀ q, s.heap.size ≤ q → A q) {post : Int32 → Prop} : ∀ (x0 : Int32) (x1 : Int32) (H : Heap) (locs : List Loc) (ls : Array Slot), va_P (dC, dI) vwCl ([]) H → va_D A ([]) → va_S A s.heap H locs → lv_has ls 2 [(0, .int x0), (1, .int x1)] → b_X10_cut_0 post x0 x1 → W p l e ({ frames := 0, cells := 0, slots := 0, locals := 0 }) s m args below meth c H locs 0 0 (MQ below (va_Qi (S := Unit) (fun (r : Int32) (_u : Unit) => post r) (fun _u t => AT (dC, dI) (TY cI cJ) A ([]) t) A) args s 0 0 A) (F0 m 0 ls []) := by
  obtain ⟨hx, hb, hr, hml, hown, hts, hlocks, hK⟩ := id cx
  have cx' : CX RX10 cX10_cut (meth.sig.returnType) 2 p s m args meth c (dC, dI) (TY cI cJ) := ⟨hx, hb, rfl, hml, hown, hts, hlocks, hK⟩
  intro x0 x1 H locs ls hP hD hS hl h
  unfold b_X10_cut_0 at h
  refine lv_iload_n hx hb dX10_cut_0 rfl (lv_at hl 0 rfl) ?_
  refine lv_if_ne (tgt := 9) hx hb dX10_cut_1 (by decide) (fun c_1 => ?_) (fun c_1 => ?_)
  · have h := h.1 c_1
    refine lv_iload_n hx hb dX10_cut_9 rfl (lv_at hl 0 rfl) ?_
    refine lv_iconst (v := 1) hx hb dX10_cut_10 (by decide) ?_
    refine lv_icmp_ne (tgt := 19) hx hb dX10_cut_11 (by decide) (fun c_2 => ?_) (fun c_2 => ?_)
    · have h := h.1 c_2
      refine lv_iload_n hx hb dX10_cut_19 rfl (lv_at hl 1 rfl) ?_
      exact rt_i (v := x1) (u := ()) cx hP hD hS h dX10_cut_20
    have h := h.2 c_2
    refine lv_iload_n hx hb dX10_cut_14 rfl (lv_at hl 1 rfl) ?_
    refine lv_i2s (v := i2sv x1) hx hb dX10_cut_15 rfl ?_
    refine lv_goto (tgt := 20) hx hb dX10_cut_16 (by decide) ?_
    exact rt_i (v := i2sv x1) (u := ()) cx hP hD hS h dX10_cut_20
  have h := h.2 c_1
  refine lv_iload_n hx hb dX10_cut_4 rfl (lv_at hl 1 rfl) ?_
  refine lv_i2b (v := i2bv x1) hx hb dX10_cut_5 rfl ?_
  refine lv_goto (tgt := 20) hx hb dX10_cut_6 (by decide) ?_
  exact rt_i (v := i2bv x1) (u := ()) cx hP hD hS h dX10_cut_20
set_option maxRecDepth 100000 in
theorem c_X10_cut (l : Launch) {dC : Nat → ClassId} {dI : Nat → Nat → Nat} {cI cJ : ClassId} (sz : Nat) (x0 : Int32) (x1 : Int32) (post : Int32 → Prop) (h : wp_X10_cut x0 x1 post) : Met l yX10_cut (Cond.code yX10_cut cX10_cut 2 (some .int) :: gt) ({ frames := 0, cells := 0, slots := 0, locals := 0 }) (va_Pc [.int x0, .int x1] (PRE (dC, dI) (TY cI cJ) ([]) sz)) (va_Qi (S := Unit) (fun (r : Int32) (_u : Unit) => post r) (fun _u t => AT (dC, dI) (TY cI cJ) (va_A ([]) sz) ([]) t) (va_A ([]) sz)) 0 0 (va_A ([]) sz) :=
  met_of (own := RX10) (Qf := fun A => va_Qi (S := Unit) (fun (r : Int32) (_u : Unit) => post r) (fun _u t => AT (dC, dI) (TY cI cJ) A ([]) t) A) (by decide) rfl (Nat.le_of_ble_eq_true rfl) rfl (fun p e s m below meth c A cx hA ls hP hD hS hl => w_X10_cut_0 cx hA x0 x1 _ _ ls hP hD hS hl h)
theorem ms_X10_cut : MS yX10_cut cX10_cut 2 (some .int) 2 := ⟨⟨kw_818, kw_11, by decide +kernel⟩, kw_817⟩
set_option maxHeartbeats 4000000 in
set_option maxRecDepth 100000 in
theorem w_X10_lay_0 {p : Program} {l : Launch} {e : Env} {s : State} {m : MethodId} {args : Array Value} {below : List Frame} {meth : Method} {c : Code} {dC : Nat → ClassId} {dI : Nat → Nat → Nat} {cI cJ : ClassId} {A : Nat → Prop} (cx : CX RX10 cX10_lay (some .int) 6 p s m args meth c (dC, dI) (TY cI cJ)) (hA : ∀ q, s.heap.size ≤ q → A q) {q0 : Nat → Nat} {post : Int32 → Mem → Prop} : ∀ (x1 : Int32) (x2 : Int32) (x3 : Int32) (x4 : Int32) (m0 : Mem) (H : Heap) (locs : List Loc) (ls : Array Slot), va_P (dC, dI) vwCl (ww_X10 cI cJ q0 m0) H → va_D A (ww_X10 cI cJ q0 m0) → va_S A s.heap H locs → lv_has ls 6 [(0, .ref (q0 0)), (1, .int x1), (2, .int x2), (3, .int x3), (4, .int x4)] → b_X10_lay_0 post x1 x2 x3 x4 m0 → W p l e ({ frames := 2, cells := 0, slots := 0, locals := 48 }) s m args below meth c H locs 0 0 (MQ below (va_Qi (S := Mem) (fun (r : Int32) (u : Mem) => post r u) (fun u t => AT (dC, dI) (TY cI cJ) A (ww_X10 cI cJ q0 u) t) A) args s 0 0 A) (F0 m 0 ls []) := by
  obtain ⟨hx, hb, hr, hml, hown, hts, hlocks, hK⟩ := id cx
  have cx' : CX RX10 cX10_lay (meth.sig.returnType) 6 p s m args meth c (dC, dI) (TY cI cJ) := ⟨hx, hb, rfl, hml, hown, hts, hlocks, hK⟩
  intro x1 x2 x3 x4 m0 H locs ls hP hD hS hl h
  unfold b_X10_lay_0 at h
  refine lv_iload_n hx hb dX10_lay_0 rfl (lv_at hl 1 rfl) ?_
  refine callN_i (run_S (As := [.int x1]) (rest := []) (wc := []) cx' (c_X10_isSheet l H.size x1 _ h) ms_X10_isSheet kw_792 rfl rfl ⟨Nat.le_of_ble_eq_true rfl, Nat.le_of_ble_eq_true rfl⟩ nilP nilD (A := A) rfl hl.1 rfl (Nat.le_of_ble_eq_true rfl) dX10_lay_1 ⟨Nat.zero_le _, Nat.zero_le _⟩) hP hS hA (fun r_1 H locs hP hS h => ?_)
  refine lv_if_eq (tgt := 19) hx hb dX10_lay_4 (by decide) (fun c_2 => ?_) (fun c_2 => ?_)
  · have h := h.1 c_2
    refine lv_bipush (v := (-2)) hx hb dX10_lay_19 (by decide) ?_
    exact rt_i (v := (-2)) (u := m0) cx hP hD hS h dX10_lay_21
  have h := h.2 c_2
  refine lv_iload_n hx hb dX10_lay_7 rfl (lv_at hl 2 rfl) ?_
  refine lv_i2l (v := Int32.toInt64 x2) hx hb dX10_lay_8 rfl ?_
  refine lv_lconst (v := 0) hx hb dX10_lay_9 (by decide) ?_
  refine lv_ldc2 hx hb hown (hts _ kw_799) dX10_lay_10 ?_
  refine callN_i (run_S (As := [.long (Int32.toInt64 x2), .long 0, .long 2]) (rest := []) (wc := []) cx' (c_X10_in l H.size (Int32.toInt64 x2) 0 2 _ h) ms_X10_in kw_796 rfl rfl ⟨Nat.le_of_ble_eq_true rfl, Nat.le_of_ble_eq_true rfl⟩ nilP nilD (A := A) rfl hl.1 rfl (Nat.le_of_ble_eq_true rfl) dX10_lay_13 ⟨Nat.zero_le _, Nat.zero_le _⟩) hP hS hA (fun r_3 H locs hP hS h => ?_)
  refine lv_if_ne (tgt := 22) hx hb dX10_lay_16 (by decide) (fun c_4 => ?_) (fun c_4 => ?_)
  · have h := h.1 c_4
    refine lv_aload_n hx hb dX10_lay_22 rfl (lv_at hl 0 rfl) ?_
    refine lv_iload_n hx hb dX10_lay_23 rfl (lv_at hl 1 rfl) ?_
    refine lv_iload_n hx hb dX10_lay_24 rfl (lv_at hl 2 rfl) ?_
    refine lv_iload_n hx hb dX10_lay_25 rfl (lv_at hl 3 rfl) ?_
    refine call_i (run_V (As := [.int x1, .int x2, .int x3]) (rest := []) cx' (c_X10_lacks l H.size q0 m0 x1 x2 x3 _ h) mv_X10_lacks kw_812 rfl rfl ⟨Nat.le_of_ble_eq_true rfl, Nat.le_of_ble_eq_true rfl⟩ hP hD rfl rfl rfl hl.1 rfl (Nat.le_of_ble_eq_true rfl) dX10_lay_26 ⟨Nat.zero_le _, Nat.zero_le _⟩) hD hS hA (fun r_5 u9 H locs hP hD hS h => ?_)
    obtain ⟨m0_6, rfl⟩ : ∃ z, z = u9 := ⟨_, rfl⟩
    have hP : va_P (dC, dI) vwCl (ww_X10 cI cJ q0 m0_6) H := hP
    have hD : va_D A (ww_X10 cI cJ q0 m0_6) := hD
    refine lv_istore (lv' := [(5, .int r_5), (0, .ref (q0 0)), (1, .int x1), (2, .int x2), (3, .int x3), (4, .int x4)]) hx hb dX10_lay_29 hl (by decide) rfl (fun ls hl => ?_)
    refine lv_iload hx hb dX10_lay_31 (lv_at hl 0 rfl) ?_
    refine lv_if_eq (tgt := 39) hx hb dX10_lay_33 (by decide) (fun c_7 => ?_) (fun c_7 => ?_)
    · have h := h.1 c_7
      refine lv_aload_n hx hb dX10_lay_39 rfl (lv_at hl 1 rfl) ?_
      refine gf_v (k := 2) (v := .ref (q0 3)) cx' hP 0 i_X10 rfl rfl (by decide) kw_717 rfl rfl dX10_lay_40 ?_
      refine lv_bipush (v := 60) hx hb dX10_lay_43 (by decide) ?_
      refine lv_iload_n hx hb dX10_lay_45 rfl (lv_at hl 2 rfl) ?_
      refine lv_imul hx hb dX10_lay_46 ?_
      refine lv_iload_n hx hb dX10_lay_47 rfl (lv_at hl 4 rfl) ?_
      refine lv_iadd hx hb dX10_lay_48 ?_
      refine lv_iload_n hx hb dX10_lay_49 rfl (lv_at hl 3 rfl) ?_
      refine lv_iload hx hb dX10_lay_50 (lv_at hl 5 rfl) ?_
      refine callN_i (run_S (As := [.int x2, .int x4]) (rest := [.int ((60 * x1) + x3), .ref (q0 3)]) (wc := []) cx' (c_X10_cut l H.size x2 x4 _ h) ms_X10_cut kw_816 rfl rfl ⟨Nat.le_of_ble_eq_true rfl, Nat.le_of_ble_eq_true rfl⟩ nilP nilD (A := A) rfl hl.1 rfl (Nat.le_of_ble_eq_true rfl) dX10_lay_52 ⟨Nat.zero_le _, Nat.zero_le _⟩) hP hS hA (fun r_8 H locs hP hS h => ?_)
      obtain ⟨m0_9, em0_9⟩ : ∃ z : Mem, z = up2 m0_6 3 (Int32.toNatClampNeg ((60 * x1) + x3)) r_8 := ⟨_, rfl⟩
      have h1 := h.1
      have h := h.2 m0_9 em0_9
      refine st_i hx hb hK hP hD hS 3 0 (ww_X10 cI cJ q0 m0_9) rfl rfl h1 dX10_lay_55 (by subst em0_9; rfl) (fun H locs hP hD hS => ?_)
      refine lv_iconst (v := 1) hx hb dX10_lay_56 (by decide) ?_
      exact rt_i (v := 1) (u := m0_9) cx hP hD hS h dX10_lay_57
    have h := h.2 c_7
    refine lv_iload hx hb dX10_lay_36 (lv_at hl 0 rfl) ?_
    exact rt_i (v := r_5) (u := m0_6) cx hP hD hS h dX10_lay_38
  have h := h.2 c_4
  refine lv_bipush (v := (-2)) hx hb dX10_lay_19 (by decide) ?_
  exact rt_i (v := (-2)) (u := m0) cx hP hD hS h dX10_lay_21
set_option maxRecDepth 100000 in
theorem c_X10_lay (l : Launch) {dC : Nat → ClassId} {dI : Nat → Nat → Nat} {cI cJ : ClassId} (sz : Nat) (q0 : Nat → Nat) (m0 : Mem) (x1 : Int32) (x2 : Int32) (x3 : Int32) (x4 : Int32) (post : Int32 → Mem → Prop) (h : wp_X10_lay m0 x1 x2 x3 x4 post) : Met l yX10_lay (Cond.code yX10_lay cX10_lay 6 (some .int) :: gt) ({ frames := 2, cells := 0, slots := 0, locals := 48 }) (va_Pc [.ref (q0 0), .int x1, .int x2, .int x3, .int x4] (PRE (dC, dI) (TY cI cJ) (ww_X10 cI cJ q0 m0) sz)) (va_Qi (S := Mem) (fun (r : Int32) (u : Mem) => post r u) (fun u t => AT (dC, dI) (TY cI cJ) (va_A (ww_X10 cI cJ q0 m0) sz) (ww_X10 cI cJ q0 u) t) (va_A (ww_X10 cI cJ q0 m0) sz)) 0 0 (va_A (ww_X10 cI cJ q0 m0) sz) :=
  met_of (own := RX10) (Qf := fun A => va_Qi (S := Mem) (fun (r : Int32) (u : Mem) => post r u) (fun u t => AT (dC, dI) (TY cI cJ) A (ww_X10 cI cJ q0 u) t) A) (by decide) rfl (Nat.le_of_ble_eq_true rfl) rfl (fun p e s m below meth c A cx hA ls hP hD hS hl => w_X10_lay_0 cx hA x1 x2 x3 x4 m0 _ _ ls hP hD hS hl h)
theorem mv_X10_lay : MV yX10_lay cX10_lay 6 (some .int) 4 := ⟨⟨kw_811, kw_11, by decide +kernel⟩, kw_809, kw_810⟩
set_option maxHeartbeats 4000000 in
set_option maxRecDepth 100000 in
theorem w_X10_get_0 {p : Program} {l : Launch} {e : Env} {s : State} {m : MethodId} {args : Array Value} {below : List Frame} {meth : Method} {c : Code} {dC : Nat → ClassId} {dI : Nat → Nat → Nat} {cI cJ : ClassId} {A : Nat → Prop} (cx : CX RX10 cX10_get (some .int) 4 p s m args meth c (dC, dI) (TY cI cJ)) (hA : ∀ q, s.heap.size ≤ q → A q) {q0 : Nat → Nat} {post : Int32 → Mem → Prop} : ∀ (x1 : Int32) (x2 : Int32) (x3 : Int32) (m0 : Mem) (H : Heap) (locs : List Loc) (ls : Array Slot), va_P (dC, dI) vwCl (ww_X10 cI cJ q0 m0) H → va_D A (ww_X10 cI cJ q0 m0) → va_S A s.heap H locs → lv_has ls 4 [(0, .ref (q0 0)), (1, .int x1), (2, .int x2), (3, .int x3)] → b_X10_get_0 post x1 x2 x3 m0 → W p l e ({ frames := 2, cells := 0, slots := 0, locals := 48 }) s m args below meth c H locs 0 0 (MQ below (va_Qi (S := Mem) (fun (r : Int32) (u : Mem) => post r u) (fun u t => AT (dC, dI) (TY cI cJ) A (ww_X10 cI cJ q0 u) t) A) args s 0 0 A) (F0 m 0 ls []) := by
  obtain ⟨hx, hb, hr, hml, hown, hts, hlocks, hK⟩ := id cx
  have cx' : CX RX10 cX10_get (meth.sig.returnType) 4 p s m args meth c (dC, dI) (TY cI cJ) := ⟨hx, hb, rfl, hml, hown, hts, hlocks, hK⟩
  intro x1 x2 x3 m0 H locs ls hP hD hS hl h
  unfold b_X10_get_0 at h
  refine lv_iload_n hx hb dX10_get_0 rfl (lv_at hl 1 rfl) ?_
  refine callN_i (run_S (As := [.int x1]) (rest := []) (wc := []) cx' (c_X10_isSheet l H.size x1 _ h) ms_X10_isSheet kw_792 rfl rfl ⟨Nat.le_of_ble_eq_true rfl, Nat.le_of_ble_eq_true rfl⟩ nilP nilD (A := A) rfl hl.1 rfl (Nat.le_of_ble_eq_true rfl) dX10_get_1 ⟨Nat.zero_le _, Nat.zero_le _⟩) hP hS hA (fun r_1 H locs hP hS h => ?_)
  refine lv_if_eq (tgt := 29) hx hb dX10_get_4 (by decide) (fun c_2 => ?_) (fun c_2 => ?_)
  · have h := h.1 c_2
    refine lv_ldc hx hb hown (hts _ kw_823) dX10_get_29 ?_
    exact rt_i (v := (-2147483648)) (u := m0) cx hP hD hS h dX10_get_31
  have h := h.2 c_2
  refine lv_iload_n hx hb dX10_get_7 rfl (lv_at hl 2 rfl) ?_
  refine lv_i2l (v := Int32.toInt64 x2) hx hb dX10_get_8 rfl ?_
  refine lv_lconst (v := 0) hx hb dX10_get_9 (by decide) ?_
  refine lv_ldc2 hx hb hown (hts _ kw_799) dX10_get_10 ?_
  refine callN_i (run_S (As := [.long (Int32.toInt64 x2), .long 0, .long 2]) (rest := []) (wc := []) cx' (c_X10_in l H.size (Int32.toInt64 x2) 0 2 _ h) ms_X10_in kw_796 rfl rfl ⟨Nat.le_of_ble_eq_true rfl, Nat.le_of_ble_eq_true rfl⟩ nilP nilD (A := A) rfl hl.1 rfl (Nat.le_of_ble_eq_true rfl) dX10_get_13 ⟨Nat.zero_le _, Nat.zero_le _⟩) hP hS hA (fun r_3 H locs hP hS h => ?_)
  refine lv_if_eq (tgt := 29) hx hb dX10_get_16 (by decide) (fun c_4 => ?_) (fun c_4 => ?_)
  · have h := h.1 c_4
    refine lv_ldc hx hb hown (hts _ kw_823) dX10_get_29 ?_
    exact rt_i (v := (-2147483648)) (u := m0) cx hP hD hS h dX10_get_31
  have h := h.2 c_4
  refine lv_aload_n hx hb dX10_get_19 rfl (lv_at hl 0 rfl) ?_
  refine lv_iload_n hx hb dX10_get_20 rfl (lv_at hl 1 rfl) ?_
  refine lv_iload_n hx hb dX10_get_21 rfl (lv_at hl 2 rfl) ?_
  refine lv_iload_n hx hb dX10_get_22 rfl (lv_at hl 3 rfl) ?_
  refine call_i (run_V (As := [.int x1, .int x2, .int x3]) (rest := []) cx' (c_X10_lacks l H.size q0 m0 x1 x2 x3 _ h) mv_X10_lacks kw_812 rfl rfl ⟨Nat.le_of_ble_eq_true rfl, Nat.le_of_ble_eq_true rfl⟩ hP hD rfl rfl rfl hl.1 rfl (Nat.le_of_ble_eq_true rfl) dX10_get_23 ⟨Nat.zero_le _, Nat.zero_le _⟩) hD hS hA (fun r_5 u9 H locs hP hD hS h => ?_)
  obtain ⟨m0_6, rfl⟩ : ∃ z, z = u9 := ⟨_, rfl⟩
  have hP : va_P (dC, dI) vwCl (ww_X10 cI cJ q0 m0_6) H := hP
  have hD : va_D A (ww_X10 cI cJ q0 m0_6) := hD
  refine lv_if_eq (tgt := 32) hx hb dX10_get_26 (by decide) (fun c_7 => ?_) (fun c_7 => ?_)
  · have h := h.1 c_7
    refine lv_aload_n hx hb dX10_get_32 rfl (lv_at hl 0 rfl) ?_
    refine gf_v (k := 2) (v := .ref (q0 3)) cx' hP 0 i_X10 rfl rfl (by decide) kw_717 rfl rfl dX10_get_33 ?_
    refine lv_bipush (v := 60) hx hb dX10_get_36 (by decide) ?_
    refine lv_iload_n hx hb dX10_get_38 rfl (lv_at hl 1 rfl) ?_
    refine lv_imul hx hb dX10_get_39 ?_
    refine lv_iload_n hx hb dX10_get_40 rfl (lv_at hl 3 rfl) ?_
    refine lv_iadd hx hb dX10_get_41 ?_
    refine va_iald hx hb hK hP 3 0 rfl rfl h.1 dX10_get_42 ?_
    have h := h.2
    exact rt_i (v := m0_6 3 (Int32.toNatClampNeg ((60 * x1) + x3))) (u := m0_6) cx hP hD hS h dX10_get_43
  have h := h.2 c_7
  refine lv_ldc hx hb hown (hts _ kw_823) dX10_get_29 ?_
  exact rt_i (v := (-2147483648)) (u := m0_6) cx hP hD hS h dX10_get_31
set_option maxRecDepth 100000 in
theorem c_X10_get (l : Launch) {dC : Nat → ClassId} {dI : Nat → Nat → Nat} {cI cJ : ClassId} (sz : Nat) (q0 : Nat → Nat) (m0 : Mem) (x1 : Int32) (x2 : Int32) (x3 : Int32) (post : Int32 → Mem → Prop) (h : wp_X10_get m0 x1 x2 x3 post) : Met l yX10_get (Cond.code yX10_get cX10_get 4 (some .int) :: gt) ({ frames := 2, cells := 0, slots := 0, locals := 48 }) (va_Pc [.ref (q0 0), .int x1, .int x2, .int x3] (PRE (dC, dI) (TY cI cJ) (ww_X10 cI cJ q0 m0) sz)) (va_Qi (S := Mem) (fun (r : Int32) (u : Mem) => post r u) (fun u t => AT (dC, dI) (TY cI cJ) (va_A (ww_X10 cI cJ q0 m0) sz) (ww_X10 cI cJ q0 u) t) (va_A (ww_X10 cI cJ q0 m0) sz)) 0 0 (va_A (ww_X10 cI cJ q0 m0) sz) :=
  met_of (own := RX10) (Qf := fun A => va_Qi (S := Mem) (fun (r : Int32) (u : Mem) => post r u) (fun u t => AT (dC, dI) (TY cI cJ) A (ww_X10 cI cJ q0 u) t) A) (by decide) rfl (Nat.le_of_ble_eq_true rfl) rfl (fun p e s m below meth c A cx hA ls hP hD hS hl => w_X10_get_0 cx hA x1 x2 x3 m0 _ _ ls hP hD hS hl h)
theorem mv_X10_get : MV yX10_get cX10_get 4 (some .int) 3 := ⟨⟨kw_822, kw_11, by decide +kernel⟩, kw_820, kw_821⟩
set_option maxHeartbeats 4000000 in
set_option maxRecDepth 100000 in
theorem w_X10_copy_157 {p : Program} {l : Launch} {e : Env} {s : State} {m : MethodId} {args : Array Value} {below : List Frame} {meth : Method} {c : Code} {dC : Nat → ClassId} {dI : Nat → Nat → Nat} {cI cJ : ClassId} {A : Nat → Prop} (cx : CX RX10 cX10_copy (some .int) 7 p s m args meth c (dC, dI) (TY cI cJ)) (hA : ∀ q, s.heap.size ≤ q → A q) {q0 : Nat → Nat} {post : Int32 → Mem → Prop} : ∀ (n : Nat) (x3 : Int32) (x4 : Int32) (x5 : Int32) (x6 : Int32) (m0 : Mem) (H : Heap) (locs : List Loc) (ls : Array Slot), va_P (dC, dI) vwCl (ww_X10 cI cJ q0 m0) H → va_D A (ww_X10 cI cJ q0 m0) → va_S A s.heap H locs → lv_has ls 7 [(0, .ref (q0 0)), (3, .int x3), (4, .int x4), (5, .int x5), (6, .int x6)] → b_X10_copy_157 post n x3 x4 x5 x6 m0 → W p l e ({ frames := 2, cells := 0, slots := 0, locals := 45 }) s m args below meth c H locs 0 0 (MQ below (va_Qi (S := Mem) (fun (r : Int32) (u : Mem) => post r u) (fun u t => AT (dC, dI) (TY cI cJ) A (ww_X10 cI cJ q0 u) t) A) args s 0 0 A) (F0 m 157 ls []) := by
  obtain ⟨hx, hb, hr, hml, hown, hts, hlocks, hK⟩ := id cx
  have cx' : CX RX10 cX10_copy (meth.sig.returnType) 7 p s m args meth c (dC, dI) (TY cI cJ) := ⟨hx, hb, rfl, hml, hown, hts, hlocks, hK⟩
  intro n
  induction n with
  | zero =>
    intro x3 x4 x5 x6 m0 H locs ls hP hD hS hl h
    exact False.elim h
  | succ n ih =>
    intro x3 x4 x5 x6 m0 H locs ls hP hD hS hl h
    unfold b_X10_copy_157 at h
    refine lv_iload hx hb dX10_copy_157 (lv_at hl 4 rfl) ?_
    refine lv_iload hx hb dX10_copy_159 (lv_at hl 3 rfl) ?_
    refine lv_icmp_ge (tgt := 192) hx hb dX10_copy_161 (by decide) (fun c_1 => ?_) (fun c_1 => ?_)
    · have h := h.1 c_1
      refine lv_iconst (v := 1) hx hb dX10_copy_192 (by decide) ?_
      exact rt_i (v := 1) (u := m0) cx hP hD hS h dX10_copy_193
    have h := h.2 c_1
    refine lv_aload_n hx hb dX10_copy_164 rfl (lv_at hl 0 rfl) ?_
    refine gf_v (k := 2) (v := .ref (q0 3)) cx' hP 0 i_X10 rfl rfl (by decide) kw_717 rfl rfl dX10_copy_165 ?_
    refine lv_bipush (v := 60) hx hb dX10_copy_168 (by decide) ?_
    refine lv_iload_n hx hb dX10_copy_170 rfl (lv_at hl 1 rfl) ?_
    refine lv_imul hx hb dX10_copy_171 ?_
    refine lv_iload hx hb dX10_copy_172 (lv_at hl 2 rfl) ?_
    refine lv_iadd hx hb dX10_copy_174 ?_
    refine lv_iload hx hb dX10_copy_175 (lv_at hl 4 rfl) ?_
    refine lv_iadd hx hb dX10_copy_177 ?_
    refine lv_aload_n hx hb dX10_copy_178 rfl (lv_at hl 0 rfl) ?_
    refine gf_v (k := 3) (v := .ref (q0 4)) cx' hP 0 i_X10 rfl rfl (by decide) kw_718 rfl rfl dX10_copy_179 ?_
    refine lv_iload hx hb dX10_copy_182 (lv_at hl 4 rfl) ?_
    refine va_iald hx hb hK hP 4 0 rfl rfl h.1 dX10_copy_184 ?_
    have h := h.2
    obtain ⟨m0_2, em0_2⟩ : ∃ z : Mem, z = up2 m0 3 (Int32.toNatClampNeg (((60 * x3) + x4) + x6)) (m0 4 (Int32.toNatClampNeg x6)) := ⟨_, rfl⟩
    have h1 := h.1
    have h := h.2 m0_2 em0_2
    refine st_i hx hb hK hP hD hS 3 0 (ww_X10 cI cJ q0 m0_2) rfl rfl h1 dX10_copy_185 (by subst em0_2; rfl) (fun H locs hP hD hS => ?_)
    obtain ⟨x6_3, ex6_3⟩ : ∃ z : Int32, z = x6 + 1 := ⟨_, rfl⟩
    have h := h x6_3 ex6_3
    refine lv_iinc (v := x6_3) (lv' := [(6, .int x6_3), (0, .ref (q0 0)), (3, .int x3), (4, .int x4), (5, .int x5)]) hx hb dX10_copy_186 hl (k := 4) rfl (by rw [ex6_3]; rfl) (by decide) rfl (fun ls hl => ?_)
    refine lv_goto (tgt := 157) hx hb dX10_copy_189 (by decide) ?_
    exact ih x3 x4 x5 x6_3 m0_2 H locs ls hP hD hS (lv_sub hl [1, 2, 3, 4, 0] rfl) h
set_option maxHeartbeats 4000000 in
set_option maxRecDepth 100000 in
theorem w_X10_copy_120 {p : Program} {l : Launch} {e : Env} {s : State} {m : MethodId} {args : Array Value} {below : List Frame} {meth : Method} {c : Code} {dC : Nat → ClassId} {dI : Nat → Nat → Nat} {cI cJ : ClassId} {A : Nat → Prop} (cx : CX RX10 cX10_copy (some .int) 7 p s m args meth c (dC, dI) (TY cI cJ)) (hA : ∀ q, s.heap.size ≤ q → A q) {q0 : Nat → Nat} {post : Int32 → Mem → Prop} : ∀ (n : Nat) (x1 : Int32) (x2 : Int32) (x3 : Int32) (x4 : Int32) (x5 : Int32) (x6 : Int32) (m0 : Mem) (H : Heap) (locs : List Loc) (ls : Array Slot), va_P (dC, dI) vwCl (ww_X10 cI cJ q0 m0) H → va_D A (ww_X10 cI cJ q0 m0) → va_S A s.heap H locs → lv_has ls 7 [(0, .ref (q0 0)), (1, .int x1), (2, .int x2), (3, .int x3), (4, .int x4), (5, .int x5), (6, .int x6)] → b_X10_copy_120 post n x1 x2 x3 x4 x5 x6 m0 → W p l e ({ frames := 2, cells := 0, slots := 0, locals := 45 }) s m args below meth c H locs 0 0 (MQ below (va_Qi (S := Mem) (fun (r : Int32) (u : Mem) => post r u) (fun u t => AT (dC, dI) (TY cI cJ) A (ww_X10 cI cJ q0 u) t) A) args s 0 0 A) (F0 m 120 ls []) := by
  obtain ⟨hx, hb, hr, hml, hown, hts, hlocks, hK⟩ := id cx
  have cx' : CX RX10 cX10_copy (meth.sig.returnType) 7 p s m args meth c (dC, dI) (TY cI cJ) := ⟨hx, hb, rfl, hml, hown, hts, hlocks, hK⟩
  intro n
  induction n with
  | zero =>
    intro x1 x2 x3 x4 x5 x6 m0 H locs ls hP hD hS hl h
    exact False.elim h
  | succ n ih =>
    intro x1 x2 x3 x4 x5 x6 m0 H locs ls hP hD hS hl h
    unfold b_X10_copy_120 at h
    refine lv_iload hx hb dX10_copy_120 (lv_at hl 6 rfl) ?_
    refine lv_iload hx hb dX10_copy_122 (lv_at hl 5 rfl) ?_
    refine lv_icmp_ge (tgt := 154) hx hb dX10_copy_124 (by decide) (fun c_1 => ?_) (fun c_1 => ?_)
    · have h := h.1 c_1
      refine lv_iconst (v := 0) hx hb dX10_copy_154 (by decide) ?_
      refine lv_istore (lv' := [(6, .int 0), (0, .ref (q0 0)), (1, .int x1), (2, .int x2), (3, .int x3), (4, .int x4), (5, .int x5)]) hx hb dX10_copy_155 hl (by decide) rfl (fun ls hl => ?_)
      obtain ⟨n_2, h⟩ := h
      exact w_X10_copy_157 cx hA n_2 x3 x4 x5 0 m0 H locs ls hP hD hS (lv_sub hl [1, 4, 5, 6, 0] rfl) h
    have h := h.2 c_1
    refine lv_aload_n hx hb dX10_copy_127 rfl (lv_at hl 0 rfl) ?_
    refine gf_v (k := 3) (v := .ref (q0 4)) cx' hP 0 i_X10 rfl rfl (by decide) kw_718 rfl rfl dX10_copy_128 ?_
    refine lv_iload hx hb dX10_copy_131 (lv_at hl 6 rfl) ?_
    refine lv_aload_n hx hb dX10_copy_133 rfl (lv_at hl 0 rfl) ?_
    refine gf_v (k := 2) (v := .ref (q0 3)) cx' hP 0 i_X10 rfl rfl (by decide) kw_717 rfl rfl dX10_copy_134 ?_
    refine lv_bipush (v := 60) hx hb dX10_copy_137 (by decide) ?_
    refine lv_iload_n hx hb dX10_copy_139 rfl (lv_at hl 1 rfl) ?_
    refine lv_imul hx hb dX10_copy_140 ?_
    refine lv_iload_n hx hb dX10_copy_141 rfl (lv_at hl 2 rfl) ?_
    refine lv_iadd hx hb dX10_copy_142 ?_
    refine lv_iload hx hb dX10_copy_143 (lv_at hl 6 rfl) ?_
    refine lv_iadd hx hb dX10_copy_145 ?_
    refine va_iald hx hb hK hP 3 0 rfl rfl h.1 dX10_copy_146 ?_
    have h := h.2
    obtain ⟨m0_3, em0_3⟩ : ∃ z : Mem, z = up2 m0 4 (Int32.toNatClampNeg x6) (m0 3 (Int32.toNatClampNeg (((60 * x1) + x2) + x6))) := ⟨_, rfl⟩
    have h1 := h.1
    have h := h.2 m0_3 em0_3
    refine st_i hx hb hK hP hD hS 4 0 (ww_X10 cI cJ q0 m0_3) rfl rfl h1 dX10_copy_147 (by subst em0_3; rfl) (fun H locs hP hD hS => ?_)
    obtain ⟨x6_4, ex6_4⟩ : ∃ z : Int32, z = x6 + 1 := ⟨_, rfl⟩
    have h := h x6_4 ex6_4
    refine lv_iinc (v := x6_4) (lv' := [(6, .int x6_4), (0, .ref (q0 0)), (1, .int x1), (2, .int x2), (3, .int x3), (4, .int x4), (5, .int x5)]) hx hb dX10_copy_148 hl (k := 6) rfl (by rw [ex6_4]; rfl) (by decide) rfl (fun ls hl => ?_)
    refine lv_goto (tgt := 120) hx hb dX10_copy_151 (by decide) ?_
    exact ih x1 x2 x3 x4 x5 x6_4 m0_3 H locs ls hP hD hS (lv_sub hl [1, 2, 3, 4, 5, 6, 0] rfl) h
set_option maxHeartbeats 4000000 in
set_option maxRecDepth 100000 in
theorem w_X10_copy_111 {p : Program} {l : Launch} {e : Env} {s : State} {m : MethodId} {args : Array Value} {below : List Frame} {meth : Method} {c : Code} {dC : Nat → ClassId} {dI : Nat → Nat → Nat} {cI cJ : ClassId} {A : Nat → Prop} (cx : CX RX10 cX10_copy (some .int) 7 p s m args meth c (dC, dI) (TY cI cJ)) (hA : ∀ q, s.heap.size ≤ q → A q) {q0 : Nat → Nat} {post : Int32 → Mem → Prop} : ∀ (m0 : Mem) (H : Heap) (locs : List Loc) (ls : Array Slot), va_P (dC, dI) vwCl (ww_X10 cI cJ q0 m0) H → va_D A (ww_X10 cI cJ q0 m0) → va_S A s.heap H locs → lv_has ls 7 [(0, .ref (q0 0))] → b_X10_copy_111 post m0 → W p l e ({ frames := 2, cells := 0, slots := 0, locals := 45 }) s m args below meth c H locs 0 0 (MQ below (va_Qi (S := Mem) (fun (r : Int32) (u : Mem) => post r u) (fun u t => AT (dC, dI) (TY cI cJ) A (ww_X10 cI cJ q0 u) t) A) args s 0 0 A) (F0 m 111 ls []) := by
  obtain ⟨hx, hb, hr, hml, hown, hts, hlocks, hK⟩ := id cx
  have cx' : CX RX10 cX10_copy (meth.sig.returnType) 7 p s m args meth c (dC, dI) (TY cI cJ) := ⟨hx, hb, rfl, hml, hown, hts, hlocks, hK⟩
  intro m0 H locs ls hP hD hS hl h
  unfold b_X10_copy_111 at h
  refine lv_aload_n hx hb dX10_copy_111 rfl (lv_at hl 0 rfl) ?_
  refine lv_iconst (v := 2) hx hb dX10_copy_112 (by decide) ?_
  refine call_i (run_V (As := [.int 2]) (rest := []) cx' (c_X10_finds l H.size q0 m0 2 _ h) mv_X10_finds kw_800 rfl rfl ⟨Nat.le_of_ble_eq_true rfl, Nat.le_of_ble_eq_true rfl⟩ hP hD rfl rfl rfl hl.1 rfl (Nat.le_of_ble_eq_true rfl) dX10_copy_113 ⟨Nat.zero_le _, Nat.zero_le _⟩) hD hS hA (fun r_1 u9 H locs hP hD hS h => ?_)
  obtain ⟨m0_2, rfl⟩ : ∃ z, z = u9 := ⟨_, rfl⟩
  have hP : va_P (dC, dI) vwCl (ww_X10 cI cJ q0 m0_2) H := hP
  have hD : va_D A (ww_X10 cI cJ q0 m0_2) := hD
  exact rt_i (v := r_1) (u := m0_2) cx hP hD hS h dX10_copy_116
set_option maxHeartbeats 4000000 in
set_option maxRecDepth 100000 in
theorem w_X10_copy_35 {p : Program} {l : Launch} {e : Env} {s : State} {m : MethodId} {args : Array Value} {below : List Frame} {meth : Method} {c : Code} {dC : Nat → ClassId} {dI : Nat → Nat → Nat} {cI cJ : ClassId} {A : Nat → Prop} (cx : CX RX10 cX10_copy (some .int) 7 p s m args meth c (dC, dI) (TY cI cJ)) (hA : ∀ q, s.heap.size ≤ q → A q) {q0 : Nat → Nat} {post : Int32 → Mem → Prop} : ∀ (m0 : Mem) (H : Heap) (locs : List Loc) (ls : Array Slot), va_P (dC, dI) vwCl (ww_X10 cI cJ q0 m0) H → va_D A (ww_X10 cI cJ q0 m0) → va_S A s.heap H locs → lv_has ls 7 [(0, .ref (q0 0))] → b_X10_copy_35 post m0 → W p l e ({ frames := 2, cells := 0, slots := 0, locals := 45 }) s m args below meth c H locs 0 0 (MQ below (va_Qi (S := Mem) (fun (r : Int32) (u : Mem) => post r u) (fun u t => AT (dC, dI) (TY cI cJ) A (ww_X10 cI cJ q0 u) t) A) args s 0 0 A) (F0 m 35 ls []) := by
  obtain ⟨hx, hb, hr, hml, hown, hts, hlocks, hK⟩ := id cx
  have cx' : CX RX10 cX10_copy (meth.sig.returnType) 7 p s m args meth c (dC, dI) (TY cI cJ) := ⟨hx, hb, rfl, hml, hown, hts, hlocks, hK⟩
  intro m0 H locs ls hP hD hS hl h
  unfold b_X10_copy_35 at h
  refine lv_aload_n hx hb dX10_copy_35 rfl (lv_at hl 0 rfl) ?_
  refine lv_iconst (v := 1) hx hb dX10_copy_36 (by decide) ?_
  refine call_i (run_V (As := [.int 1]) (rest := []) cx' (c_X10_finds l H.size q0 m0 1 _ h) mv_X10_finds kw_800 rfl rfl ⟨Nat.le_of_ble_eq_true rfl, Nat.le_of_ble_eq_true rfl⟩ hP hD rfl rfl rfl hl.1 rfl (Nat.le_of_ble_eq_true rfl) dX10_copy_37 ⟨Nat.zero_le _, Nat.zero_le _⟩) hD hS hA (fun r_1 u9 H locs hP hD hS h => ?_)
  obtain ⟨m0_2, rfl⟩ : ∃ z, z = u9 := ⟨_, rfl⟩
  have hP : va_P (dC, dI) vwCl (ww_X10 cI cJ q0 m0_2) H := hP
  have hD : va_D A (ww_X10 cI cJ q0 m0_2) := hD
  exact rt_i (v := r_1) (u := m0_2) cx hP hD hS h dX10_copy_40
set_option maxHeartbeats 4000000 in
set_option maxRecDepth 100000 in
theorem w_X10_copy_0 {p : Program} {l : Launch} {e : Env} {s : State} {m : MethodId} {args : Array Value} {below : List Frame} {meth : Method} {c : Code} {dC : Nat → ClassId} {dI : Nat → Nat → Nat} {cI cJ : ClassId} {A : Nat → Prop} (cx : CX RX10 cX10_copy (some .int) 7 p s m args meth c (dC, dI) (TY cI cJ)) (hA : ∀ q, s.heap.size ≤ q → A q) {q0 : Nat → Nat} {post : Int32 → Mem → Prop} : ∀ (x1 : Int32) (x2 : Int32) (x3 : Int32) (x4 : Int32) (x5 : Int32) (m0 : Mem) (H : Heap) (locs : List Loc) (ls : Array Slot), va_P (dC, dI) vwCl (ww_X10 cI cJ q0 m0) H → va_D A (ww_X10 cI cJ q0 m0) → va_S A s.heap H locs → lv_has ls 7 [(0, .ref (q0 0)), (1, .int x1), (2, .int x2), (3, .int x3), (4, .int x4), (5, .int x5)] → b_X10_copy_0 post x1 x2 x3 x4 x5 m0 → W p l e ({ frames := 2, cells := 0, slots := 0, locals := 45 }) s m args below meth c H locs 0 0 (MQ below (va_Qi (S := Mem) (fun (r : Int32) (u : Mem) => post r u) (fun u t => AT (dC, dI) (TY cI cJ) A (ww_X10 cI cJ q0 u) t) A) args s 0 0 A) (F0 m 0 ls []) := by
  obtain ⟨hx, hb, hr, hml, hown, hts, hlocks, hK⟩ := id cx
  have cx' : CX RX10 cX10_copy (meth.sig.returnType) 7 p s m args meth c (dC, dI) (TY cI cJ) := ⟨hx, hb, rfl, hml, hown, hts, hlocks, hK⟩
  intro x1 x2 x3 x4 x5 m0 H locs ls hP hD hS hl h
  unfold b_X10_copy_0 at h
  refine lv_iload_n hx hb dX10_copy_0 rfl (lv_at hl 1 rfl) ?_
  refine callN_i (run_S (As := [.int x1]) (rest := []) (wc := []) cx' (c_X10_isSheet l H.size x1 _ h) ms_X10_isSheet kw_792 rfl rfl ⟨Nat.le_of_ble_eq_true rfl, Nat.le_of_ble_eq_true rfl⟩ nilP nilD (A := A) rfl hl.1 rfl (Nat.le_of_ble_eq_true rfl) dX10_copy_1 ⟨Nat.zero_le _, Nat.zero_le _⟩) hP hS hA (fun r_1 H locs hP hS h => ?_)
  refine lv_if_eq (tgt := 14) hx hb dX10_copy_4 (by decide) (fun c_2 => ?_) (fun c_2 => ?_)
  · have h := h.1 c_2
    refine lv_bipush (v := (-2)) hx hb dX10_copy_14 (by decide) ?_
    exact rt_i (v := (-2)) (u := m0) cx hP hD hS h dX10_copy_16
  have h := h.2 c_2
  refine lv_iload_n hx hb dX10_copy_7 rfl (lv_at hl 3 rfl) ?_
  refine callN_i (run_S (As := [.int x3]) (rest := []) (wc := []) cx' (c_X10_isSheet l H.size x3 _ h) ms_X10_isSheet kw_792 rfl rfl ⟨Nat.le_of_ble_eq_true rfl, Nat.le_of_ble_eq_true rfl⟩ nilP nilD (A := A) rfl hl.1 rfl (Nat.le_of_ble_eq_true rfl) dX10_copy_8 ⟨Nat.zero_le _, Nat.zero_le _⟩) hP hS hA (fun r_3 H locs hP hS h => ?_)
  refine lv_if_ne (tgt := 17) hx hb dX10_copy_11 (by decide) (fun c_4 => ?_) (fun c_4 => ?_)
  · have h := h.1 c_4
    refine lv_aload_n hx hb dX10_copy_17 rfl (lv_at hl 0 rfl) ?_
    refine gf_v (k := 0) (v := .ref (q0 1)) cx' hP 0 i_X10 rfl rfl (by decide) kw_715 rfl rfl dX10_copy_18 ?_
    refine lv_iload_n hx hb dX10_copy_21 rfl (lv_at hl 1 rfl) ?_
    refine va_iald hx hb hK hP 1 0 rfl rfl h.1 dX10_copy_22 ?_
    have h := h.2
    refine lv_if_lt (tgt := 35) hx hb dX10_copy_23 (by decide) (fun c_5 => ?_) (fun c_5 => ?_)
    · have h := h.1 c_5
      exact w_X10_copy_35 cx hA m0 H locs ls hP hD hS (lv_sub hl [0] rfl) h
    have h := h.2 c_5
    refine lv_aload_n hx hb dX10_copy_26 rfl (lv_at hl 0 rfl) ?_
    refine gf_v (k := 0) (v := .ref (q0 1)) cx' hP 0 i_X10 rfl rfl (by decide) kw_715 rfl rfl dX10_copy_27 ?_
    refine lv_iload_n hx hb dX10_copy_30 rfl (lv_at hl 3 rfl) ?_
    refine va_iald hx hb hK hP 1 0 rfl rfl h.1 dX10_copy_31 ?_
    have h := h.2
    refine lv_if_ge (tgt := 41) hx hb dX10_copy_32 (by decide) (fun c_6 => ?_) (fun c_6 => ?_)
    · have h := h.1 c_6
      refine lv_aload_n hx hb dX10_copy_41 rfl (lv_at hl 0 rfl) ?_
      refine gf_v (k := 0) (v := .ref (q0 1)) cx' hP 0 i_X10 rfl rfl (by decide) kw_715 rfl rfl dX10_copy_42 ?_
      refine lv_iload_n hx hb dX10_copy_45 rfl (lv_at hl 1 rfl) ?_
      refine va_iald hx hb hK hP 1 0 rfl rfl h.1 dX10_copy_46 ?_
      have h := h.2
      refine lv_aload_n hx hb dX10_copy_47 rfl (lv_at hl 0 rfl) ?_
      refine gf_v (k := 0) (v := .ref (q0 1)) cx' hP 0 i_X10 rfl rfl (by decide) kw_715 rfl rfl dX10_copy_48 ?_
      refine lv_iload_n hx hb dX10_copy_51 rfl (lv_at hl 3 rfl) ?_
      refine va_iald hx hb hK hP 1 0 rfl rfl h.1 dX10_copy_52 ?_
      have h := h.2
      refine lv_icmp_eq (tgt := 62) hx hb dX10_copy_53 (by decide) (fun c_7 => ?_) (fun c_7 => ?_)
      · have h := h.1 c_7
        refine lv_iload_n hx hb dX10_copy_62 rfl (lv_at hl 2 rfl) ?_
        refine lv_if_lt (tgt := 111) hx hb dX10_copy_63 (by decide) (fun c_8 => ?_) (fun c_8 => ?_)
        · have h := h.1 c_8
          exact w_X10_copy_111 cx hA m0 H locs ls hP hD hS (lv_sub hl [0] rfl) h
        have h := h.2 c_8
        refine lv_iload hx hb dX10_copy_66 (lv_at hl 4 rfl) ?_
        refine lv_if_lt (tgt := 111) hx hb dX10_copy_68 (by decide) (fun c_9 => ?_) (fun c_9 => ?_)
        · have h := h.1 c_9
          exact w_X10_copy_111 cx hA m0 H locs ls hP hD hS (lv_sub hl [0] rfl) h
        have h := h.2 c_9
        refine lv_iload hx hb dX10_copy_71 (lv_at hl 5 rfl) ?_
        refine lv_if_lt (tgt := 111) hx hb dX10_copy_73 (by decide) (fun c_10 => ?_) (fun c_10 => ?_)
        · have h := h.1 c_10
          exact w_X10_copy_111 cx hA m0 H locs ls hP hD hS (lv_sub hl [0] rfl) h
        have h := h.2 c_10
        refine lv_iload_n hx hb dX10_copy_76 rfl (lv_at hl 2 rfl) ?_
        refine lv_i2l (v := Int32.toInt64 x2) hx hb dX10_copy_77 rfl ?_
        refine lv_iload hx hb dX10_copy_78 (lv_at hl 5 rfl) ?_
        refine lv_i2l (v := Int32.toInt64 x5) hx hb dX10_copy_80 rfl ?_
        refine lv_ladd hx hb dX10_copy_81 ?_
        refine lv_aload_n hx hb dX10_copy_82 rfl (lv_at hl 0 rfl) ?_
        refine gf_v (k := 1) (v := .ref (q0 2)) cx' hP 0 i_X10 rfl rfl (by decide) kw_716 rfl rfl dX10_copy_83 ?_
        refine lv_iload_n hx hb dX10_copy_86 rfl (lv_at hl 1 rfl) ?_
        refine va_iald hx hb hK hP 2 0 rfl rfl h.1 dX10_copy_87 ?_
        have h := h.2
        refine lv_i2l (v := Int32.toInt64 (m0 2 (Int32.toNatClampNeg x1))) hx hb dX10_copy_88 rfl ?_
        refine W.lcmp hx hb dX10_copy_89 ?_
        refine lv_if_gt (tgt := 111) hx hb dX10_copy_90 (by decide) (fun c_11 => ?_) (fun c_11 => ?_)
        · have h := h.1 c_11
          exact w_X10_copy_111 cx hA m0 H locs ls hP hD hS (lv_sub hl [0] rfl) h
        have h := h.2 c_11
        refine lv_iload hx hb dX10_copy_93 (lv_at hl 4 rfl) ?_
        refine lv_i2l (v := Int32.toInt64 x4) hx hb dX10_copy_95 rfl ?_
        refine lv_iload hx hb dX10_copy_96 (lv_at hl 5 rfl) ?_
        refine lv_i2l (v := Int32.toInt64 x5) hx hb dX10_copy_98 rfl ?_
        refine lv_ladd hx hb dX10_copy_99 ?_
        refine lv_aload_n hx hb dX10_copy_100 rfl (lv_at hl 0 rfl) ?_
        refine gf_v (k := 1) (v := .ref (q0 2)) cx' hP 0 i_X10 rfl rfl (by decide) kw_716 rfl rfl dX10_copy_101 ?_
        refine lv_iload_n hx hb dX10_copy_104 rfl (lv_at hl 3 rfl) ?_
        refine va_iald hx hb hK hP 2 0 rfl rfl h.1 dX10_copy_105 ?_
        have h := h.2
        refine lv_i2l (v := Int32.toInt64 (m0 2 (Int32.toNatClampNeg x3))) hx hb dX10_copy_106 rfl ?_
        refine W.lcmp hx hb dX10_copy_107 ?_
        refine lv_if_le (tgt := 117) hx hb dX10_copy_108 (by decide) (fun c_12 => ?_) (fun c_12 => ?_)
        · have h := h.1 c_12
          refine lv_iconst (v := 0) hx hb dX10_copy_117 (by decide) ?_
          refine lv_istore (lv' := [(6, .int 0), (0, .ref (q0 0)), (1, .int x1), (2, .int x2), (3, .int x3), (4, .int x4), (5, .int x5)]) hx hb dX10_copy_118 hl (by decide) rfl (fun ls hl => ?_)
          obtain ⟨n_13, h⟩ := h
          exact w_X10_copy_120 cx hA n_13 x1 x2 x3 x4 x5 0 m0 H locs ls hP hD hS (lv_sub hl [1, 2, 3, 4, 5, 6, 0] rfl) h
        have h := h.2 c_12
        exact w_X10_copy_111 cx hA m0 H locs ls hP hD hS (lv_sub hl [0] rfl) h
      have h := h.2 c_7
      refine lv_aload_n hx hb dX10_copy_56 rfl (lv_at hl 0 rfl) ?_
      refine lv_iconst (v := 4) hx hb dX10_copy_57 (by decide) ?_
      refine call_i (run_V (As := [.int 4]) (rest := []) cx' (c_X10_finds l H.size q0 m0 4 _ h) mv_X10_finds kw_800 rfl rfl ⟨Nat.le_of_ble_eq_true rfl, Nat.le_of_ble_eq_true rfl⟩ hP hD rfl rfl rfl hl.1 rfl (Nat.le_of_ble_eq_true rfl) dX10_copy_58 ⟨Nat.zero_le _, Nat.zero_le _⟩) hD hS hA (fun r_14 u9 H locs hP hD hS h => ?_)
      obtain ⟨m0_15, rfl⟩ : ∃ z, z = u9 := ⟨_, rfl⟩
      have hP : va_P (dC, dI) vwCl (ww_X10 cI cJ q0 m0_15) H := hP
      have hD : va_D A (ww_X10 cI cJ q0 m0_15) := hD
      exact rt_i (v := r_14) (u := m0_15) cx hP hD hS h dX10_copy_61
    have h := h.2 c_6
    exact w_X10_copy_35 cx hA m0 H locs ls hP hD hS (lv_sub hl [0] rfl) h
  have h := h.2 c_4
  refine lv_bipush (v := (-2)) hx hb dX10_copy_14 (by decide) ?_
  exact rt_i (v := (-2)) (u := m0) cx hP hD hS h dX10_copy_16
set_option maxRecDepth 100000 in
theorem c_X10_copy (l : Launch) {dC : Nat → ClassId} {dI : Nat → Nat → Nat} {cI cJ : ClassId} (sz : Nat) (q0 : Nat → Nat) (m0 : Mem) (x1 : Int32) (x2 : Int32) (x3 : Int32) (x4 : Int32) (x5 : Int32) (post : Int32 → Mem → Prop) (h : wp_X10_copy m0 x1 x2 x3 x4 x5 post) : Met l yX10_copy (Cond.code yX10_copy cX10_copy 7 (some .int) :: gt) ({ frames := 2, cells := 0, slots := 0, locals := 45 }) (va_Pc [.ref (q0 0), .int x1, .int x2, .int x3, .int x4, .int x5] (PRE (dC, dI) (TY cI cJ) (ww_X10 cI cJ q0 m0) sz)) (va_Qi (S := Mem) (fun (r : Int32) (u : Mem) => post r u) (fun u t => AT (dC, dI) (TY cI cJ) (va_A (ww_X10 cI cJ q0 m0) sz) (ww_X10 cI cJ q0 u) t) (va_A (ww_X10 cI cJ q0 m0) sz)) 0 0 (va_A (ww_X10 cI cJ q0 m0) sz) :=
  met_of (own := RX10) (Qf := fun A => va_Qi (S := Mem) (fun (r : Int32) (u : Mem) => post r u) (fun u t => AT (dC, dI) (TY cI cJ) A (ww_X10 cI cJ q0 u) t) A) (by decide) rfl (Nat.le_of_ble_eq_true rfl) rfl (fun p e s m below meth c A cx hA ls hP hD hS hl => w_X10_copy_0 cx hA x1 x2 x3 x4 x5 m0 _ _ ls hP hD hS hl h)
theorem mv_X10_copy : MV yX10_copy cX10_copy 7 (some .int) 5 := ⟨⟨kw_827, kw_11, by decide +kernel⟩, kw_825, kw_826⟩
set_option maxHeartbeats 4000000 in
set_option maxRecDepth 100000 in
theorem w_X10_type_0 {p : Program} {l : Launch} {e : Env} {s : State} {m : MethodId} {args : Array Value} {below : List Frame} {meth : Method} {c : Code} {dC : Nat → ClassId} {dI : Nat → Nat → Nat} {cI cJ : ClassId} {A : Nat → Prop} (cx : CX RX10 cX10_type (some .int) 3 p s m args meth c (dC, dI) (TY cI cJ)) (hA : ∀ q, s.heap.size ≤ q → A q) {q0 : Nat → Nat} {post : Int32 → Mem → Prop} : ∀ (x1 : Int32) (x2 : Int32) (m0 : Mem) (H : Heap) (locs : List Loc) (ls : Array Slot), va_P (dC, dI) vwCl (ww_X10 cI cJ q0 m0) H → va_D A (ww_X10 cI cJ q0 m0) → va_S A s.heap H locs → lv_has ls 3 [(0, .ref (q0 0)), (1, .int x1), (2, .int x2)] → b_X10_type_0 post x1 x2 m0 → W p l e ({ frames := 2, cells := 0, slots := 0, locals := 45 }) s m args below meth c H locs 0 0 (MQ below (va_Qi (S := Mem) (fun (r : Int32) (u : Mem) => post r u) (fun u t => AT (dC, dI) (TY cI cJ) A (ww_X10 cI cJ q0 u) t) A) args s 0 0 A) (F0 m 0 ls []) := by
  obtain ⟨hx, hb, hr, hml, hown, hts, hlocks, hK⟩ := id cx
  have cx' : CX RX10 cX10_type (meth.sig.returnType) 3 p s m args meth c (dC, dI) (TY cI cJ) := ⟨hx, hb, rfl, hml, hown, hts, hlocks, hK⟩
  intro x1 x2 m0 H locs ls hP hD hS hl h
  unfold b_X10_type_0 at h
  refine lv_iload_n hx hb dX10_type_0 rfl (lv_at hl 1 rfl) ?_
  refine callN_i (run_S (As := [.int x1]) (rest := []) (wc := []) cx' (c_X10_isTwo l H.size x1 _ h) ms_X10_isTwo kw_832 rfl rfl ⟨Nat.le_of_ble_eq_true rfl, Nat.le_of_ble_eq_true rfl⟩ nilP nilD (A := A) rfl hl.1 rfl (Nat.le_of_ble_eq_true rfl) dX10_type_1 ⟨Nat.zero_le _, Nat.zero_le _⟩) hP hS hA (fun r_1 H locs hP hS h => ?_)
  refine lv_if_eq (tgt := 19) hx hb dX10_type_4 (by decide) (fun c_2 => ?_) (fun c_2 => ?_)
  · have h := h.1 c_2
    refine lv_bipush (v := (-2)) hx hb dX10_type_19 (by decide) ?_
    exact rt_i (v := (-2)) (u := m0) cx hP hD hS h dX10_type_21
  have h := h.2 c_2
  refine lv_iload_n hx hb dX10_type_7 rfl (lv_at hl 2 rfl) ?_
  refine lv_i2l (v := Int32.toInt64 x2) hx hb dX10_type_8 rfl ?_
  refine lv_lconst (v := 0) hx hb dX10_type_9 (by decide) ?_
  refine lv_ldc2 hx hb hown (hts _ kw_835) dX10_type_10 ?_
  refine callN_i (run_S (As := [.long (Int32.toInt64 x2), .long 0, .long 255]) (rest := []) (wc := []) cx' (c_X10_in l H.size (Int32.toInt64 x2) 0 255 _ h) ms_X10_in kw_796 rfl rfl ⟨Nat.le_of_ble_eq_true rfl, Nat.le_of_ble_eq_true rfl⟩ nilP nilD (A := A) rfl hl.1 rfl (Nat.le_of_ble_eq_true rfl) dX10_type_13 ⟨Nat.zero_le _, Nat.zero_le _⟩) hP hS hA (fun r_3 H locs hP hS h => ?_)
  refine lv_if_ne (tgt := 22) hx hb dX10_type_16 (by decide) (fun c_4 => ?_) (fun c_4 => ?_)
  · have h := h.1 c_4
    refine lv_aload_n hx hb dX10_type_22 rfl (lv_at hl 0 rfl) ?_
    refine gf_v (k := 6) (v := .ref (q0 6)) cx' hP 0 i_X10 rfl rfl (by decide) kw_721 rfl rfl dX10_type_23 ?_
    refine lv_iload_n hx hb dX10_type_26 rfl (lv_at hl 1 rfl) ?_
    refine va_iald hx hb hK hP 6 0 rfl rfl h.1 dX10_type_27 ?_
    have h := h.2
    refine lv_iload_n hx hb dX10_type_28 rfl (lv_at hl 1 rfl) ?_
    refine dia_i (ls := ls) (c0 := x1 = 0) (a := 31) (b := 47) (J := 39) (rest := [.int (m0 6 (Int32.toNatClampNeg x1))]) (fun K => ?_) (fun v_6 ev_6 => ?_)
    · refine lv_if_ne (tgt := 37) hx hb dX10_type_29 (by decide) (fun c_5 => ?_) (fun c_5 => ?_)
      · refine lv_bipush (v := 47) hx hb dX10_type_37 (by decide) ?_
        exact K _ (Or.inr ⟨c_5, rfl⟩)
      · refine lv_bipush (v := 31) hx hb dX10_type_32 (by decide) ?_
        refine lv_goto (tgt := 39) hx hb dX10_type_34 (by decide) ?_
        exact K _ (Or.inl ⟨c_5, rfl⟩)
    have h := h v_6 ev_6
    refine lv_icmp_ne (tgt := 45) hx hb dX10_type_39 (by decide) (fun c_7 => ?_) (fun c_7 => ?_)
    · have h := h.1 c_7
      refine lv_aload_n hx hb dX10_type_45 rfl (lv_at hl 0 rfl) ?_
      refine gf_v (k := 5) (v := .ref (q0 5)) cx' hP 0 i_X10 rfl rfl (by decide) kw_720 rfl rfl dX10_type_46 ?_
      refine lv_bipush (v := 48) hx hb dX10_type_49 (by decide) ?_
      refine lv_iload_n hx hb dX10_type_51 rfl (lv_at hl 1 rfl) ?_
      refine lv_imul hx hb dX10_type_52 ?_
      refine lv_aload_n hx hb dX10_type_53 rfl (lv_at hl 0 rfl) ?_
      refine gf_v (k := 6) (v := .ref (q0 6)) cx' hP 0 i_X10 rfl rfl (by decide) kw_721 rfl rfl dX10_type_54 ?_
      refine lv_iload_n hx hb dX10_type_57 rfl (lv_at hl 1 rfl) ?_
      refine va_iald hx hb hK hP 6 0 rfl rfl h.1 dX10_type_58 ?_
      have h := h.2
      refine lv_iadd hx hb dX10_type_59 ?_
      refine lv_iload_n hx hb dX10_type_60 rfl (lv_at hl 2 rfl) ?_
      obtain ⟨m0_8, em0_8⟩ : ∃ z : Mem, z = up2 m0 5 (Int32.toNatClampNeg ((48 * x1) + (m0 6 (Int32.toNatClampNeg x1)))) x2 := ⟨_, rfl⟩
      have h1 := h.1
      have h := h.2 m0_8 em0_8
      refine st_i hx hb hK hP hD hS 5 0 (ww_X10 cI cJ q0 m0_8) rfl rfl h1 dX10_type_61 (by subst em0_8; rfl) (fun H locs hP hD hS => ?_)
      refine lv_aload_n hx hb dX10_type_62 rfl (lv_at hl 0 rfl) ?_
      refine gf_v (k := 6) (v := .ref (q0 6)) cx' hP 0 i_X10 rfl rfl (by decide) kw_721 rfl rfl dX10_type_63 ?_
      refine lv_iload_n hx hb dX10_type_66 rfl (lv_at hl 1 rfl) ?_
      refine lv_dup2_11 hx hb dX10_type_67 rfl rfl ?_
      refine va_iald hx hb hK hP 6 0 rfl rfl h.1 dX10_type_68 ?_
      have h := h.2
      refine lv_iconst (v := 1) hx hb dX10_type_69 (by decide) ?_
      refine lv_iadd hx hb dX10_type_70 ?_
      obtain ⟨m0_9, em0_9⟩ : ∃ z : Mem, z = up2 m0_8 6 (Int32.toNatClampNeg x1) ((m0_8 6 (Int32.toNatClampNeg x1)) + 1) := ⟨_, rfl⟩
      have h1 := h.1
      have h := h.2 m0_9 em0_9
      refine st_i hx hb hK hP hD hS 6 0 (ww_X10 cI cJ q0 m0_9) rfl rfl h1 dX10_type_71 (by subst em0_9; rfl) (fun H locs hP hD hS => ?_)
      refine lv_aload_n hx hb dX10_type_72 rfl (lv_at hl 0 rfl) ?_
      refine gf_v (k := 6) (v := .ref (q0 6)) cx' hP 0 i_X10 rfl rfl (by decide) kw_721 rfl rfl dX10_type_73 ?_
      refine lv_iload_n hx hb dX10_type_76 rfl (lv_at hl 1 rfl) ?_
      refine va_iald hx hb hK hP 6 0 rfl rfl h.1 dX10_type_77 ?_
      have h := h.2
      exact rt_i (v := m0_9 6 (Int32.toNatClampNeg x1)) (u := m0_9) cx hP hD hS h dX10_type_78
    have h := h.2 c_7
    refine lv_bipush (v := (-4)) hx hb dX10_type_42 (by decide) ?_
    exact rt_i (v := (-4)) (u := m0) cx hP hD hS h dX10_type_44
  have h := h.2 c_4
  refine lv_bipush (v := (-2)) hx hb dX10_type_19 (by decide) ?_
  exact rt_i (v := (-2)) (u := m0) cx hP hD hS h dX10_type_21
set_option maxRecDepth 100000 in
theorem c_X10_type (l : Launch) {dC : Nat → ClassId} {dI : Nat → Nat → Nat} {cI cJ : ClassId} (sz : Nat) (q0 : Nat → Nat) (m0 : Mem) (x1 : Int32) (x2 : Int32) (post : Int32 → Mem → Prop) (h : wp_X10_type m0 x1 x2 post) : Met l yX10_type (Cond.code yX10_type cX10_type 3 (some .int) :: gt) ({ frames := 2, cells := 0, slots := 0, locals := 45 }) (va_Pc [.ref (q0 0), .int x1, .int x2] (PRE (dC, dI) (TY cI cJ) (ww_X10 cI cJ q0 m0) sz)) (va_Qi (S := Mem) (fun (r : Int32) (u : Mem) => post r u) (fun u t => AT (dC, dI) (TY cI cJ) (va_A (ww_X10 cI cJ q0 m0) sz) (ww_X10 cI cJ q0 u) t) (va_A (ww_X10 cI cJ q0 m0) sz)) 0 0 (va_A (ww_X10 cI cJ q0 m0) sz) :=
  met_of (own := RX10) (Qf := fun A => va_Qi (S := Mem) (fun (r : Int32) (u : Mem) => post r u) (fun u t => AT (dC, dI) (TY cI cJ) A (ww_X10 cI cJ q0 u) t) A) (by decide) rfl (Nat.le_of_ble_eq_true rfl) rfl (fun p e s m below meth c A cx hA ls hP hD hS hl => w_X10_type_0 cx hA x1 x2 m0 _ _ ls hP hD hS hl h)
theorem mv_X10_type : MV yX10_type cX10_type 3 (some .int) 2 := ⟨⟨kw_831, kw_11, by decide +kernel⟩, kw_829, kw_830⟩
set_option maxHeartbeats 4000000 in
set_option maxRecDepth 100000 in
theorem w_X10_wipe_0 {p : Program} {l : Launch} {e : Env} {s : State} {m : MethodId} {args : Array Value} {below : List Frame} {meth : Method} {c : Code} {dC : Nat → ClassId} {dI : Nat → Nat → Nat} {cI cJ : ClassId} {A : Nat → Prop} (cx : CX RX10 cX10_wipe (some .int) 3 p s m args meth c (dC, dI) (TY cI cJ)) (hA : ∀ q, s.heap.size ≤ q → A q) {q0 : Nat → Nat} {post : Int32 → Mem → Prop} : ∀ (x1 : Int32) (m0 : Mem) (H : Heap) (locs : List Loc) (ls : Array Slot), va_P (dC, dI) vwCl (ww_X10 cI cJ q0 m0) H → va_D A (ww_X10 cI cJ q0 m0) → va_S A s.heap H locs → lv_has ls 3 [(0, .ref (q0 0)), (1, .int x1)] → b_X10_wipe_0 post x1 m0 → W p l e ({ frames := 2, cells := 0, slots := 0, locals := 45 }) s m args below meth c H locs 0 0 (MQ below (va_Qi (S := Mem) (fun (r : Int32) (u : Mem) => post r u) (fun u t => AT (dC, dI) (TY cI cJ) A (ww_X10 cI cJ q0 u) t) A) args s 0 0 A) (F0 m 0 ls []) := by
  obtain ⟨hx, hb, hr, hml, hown, hts, hlocks, hK⟩ := id cx
  have cx' : CX RX10 cX10_wipe (meth.sig.returnType) 3 p s m args meth c (dC, dI) (TY cI cJ) := ⟨hx, hb, rfl, hml, hown, hts, hlocks, hK⟩
  intro x1 m0 H locs ls hP hD hS hl h
  unfold b_X10_wipe_0 at h
  refine lv_iload_n hx hb dX10_wipe_0 rfl (lv_at hl 1 rfl) ?_
  refine callN_i (run_S (As := [.int x1]) (rest := []) (wc := []) cx' (c_X10_isTwo l H.size x1 _ h) ms_X10_isTwo kw_832 rfl rfl ⟨Nat.le_of_ble_eq_true rfl, Nat.le_of_ble_eq_true rfl⟩ nilP nilD (A := A) rfl hl.1 rfl (Nat.le_of_ble_eq_true rfl) dX10_wipe_1 ⟨Nat.zero_le _, Nat.zero_le _⟩) hP hS hA (fun r_1 H locs hP hS h => ?_)
  refine lv_if_ne (tgt := 10) hx hb dX10_wipe_4 (by decide) (fun c_2 => ?_) (fun c_2 => ?_)
  · have h := h.1 c_2
    refine lv_aload_n hx hb dX10_wipe_10 rfl (lv_at hl 0 rfl) ?_
    refine gf_v (k := 6) (v := .ref (q0 6)) cx' hP 0 i_X10 rfl rfl (by decide) kw_721 rfl rfl dX10_wipe_11 ?_
    refine lv_iload_n hx hb dX10_wipe_14 rfl (lv_at hl 1 rfl) ?_
    refine va_iald hx hb hK hP 6 0 rfl rfl h.1 dX10_wipe_15 ?_
    have h := h.2
    refine lv_topi (fun x2_3 ex2_3 => ?_)
    have h := h x2_3 ex2_3
    refine lv_istore_n (lv' := [(2, .int x2_3), (0, .ref (q0 0)), (1, .int x1)]) hx hb dX10_wipe_16 rfl hl (by decide) rfl (fun ls hl => ?_)
    refine lv_aload_n hx hb dX10_wipe_17 rfl (lv_at hl 1 rfl) ?_
    refine gf_v (k := 6) (v := .ref (q0 6)) cx' hP 0 i_X10 rfl rfl (by decide) kw_721 rfl rfl dX10_wipe_18 ?_
    refine lv_iload_n hx hb dX10_wipe_21 rfl (lv_at hl 2 rfl) ?_
    refine lv_iconst (v := 0) hx hb dX10_wipe_22 (by decide) ?_
    obtain ⟨m0_4, em0_4⟩ : ∃ z : Mem, z = up2 m0 6 (Int32.toNatClampNeg x1) 0 := ⟨_, rfl⟩
    have h1 := h.1
    have h := h.2 m0_4 em0_4
    refine st_i hx hb hK hP hD hS 6 0 (ww_X10 cI cJ q0 m0_4) rfl rfl h1 dX10_wipe_23 (by subst em0_4; rfl) (fun H locs hP hD hS => ?_)
    refine lv_iload_n hx hb dX10_wipe_24 rfl (lv_at hl 0 rfl) ?_
    exact rt_i (v := x2_3) (u := m0_4) cx hP hD hS h dX10_wipe_25
  have h := h.2 c_2
  refine lv_bipush (v := (-2)) hx hb dX10_wipe_7 (by decide) ?_
  exact rt_i (v := (-2)) (u := m0) cx hP hD hS h dX10_wipe_9
set_option maxRecDepth 100000 in
theorem c_X10_wipe (l : Launch) {dC : Nat → ClassId} {dI : Nat → Nat → Nat} {cI cJ : ClassId} (sz : Nat) (q0 : Nat → Nat) (m0 : Mem) (x1 : Int32) (post : Int32 → Mem → Prop) (h : wp_X10_wipe m0 x1 post) : Met l yX10_wipe (Cond.code yX10_wipe cX10_wipe 3 (some .int) :: gt) ({ frames := 2, cells := 0, slots := 0, locals := 45 }) (va_Pc [.ref (q0 0), .int x1] (PRE (dC, dI) (TY cI cJ) (ww_X10 cI cJ q0 m0) sz)) (va_Qi (S := Mem) (fun (r : Int32) (u : Mem) => post r u) (fun u t => AT (dC, dI) (TY cI cJ) (va_A (ww_X10 cI cJ q0 m0) sz) (ww_X10 cI cJ q0 u) t) (va_A (ww_X10 cI cJ q0 m0) sz)) 0 0 (va_A (ww_X10 cI cJ q0 m0) sz) :=
  met_of (own := RX10) (Qf := fun A => va_Qi (S := Mem) (fun (r : Int32) (u : Mem) => post r u) (fun u t => AT (dC, dI) (TY cI cJ) A (ww_X10 cI cJ q0 u) t) A) (by decide) rfl (Nat.le_of_ble_eq_true rfl) rfl (fun p e s m below meth c A cx hA ls hP hD hS hl => w_X10_wipe_0 cx hA x1 m0 _ _ ls hP hD hS hl h)
theorem mv_X10_wipe : MV yX10_wipe cX10_wipe 3 (some .int) 1 := ⟨⟨kw_839, kw_11, by decide +kernel⟩, kw_837, kw_838⟩
set_option maxHeartbeats 4000000 in
set_option maxRecDepth 100000 in
theorem w_X10_undo_0 {p : Program} {l : Launch} {e : Env} {s : State} {m : MethodId} {args : Array Value} {below : List Frame} {meth : Method} {c : Code} {dC : Nat → ClassId} {dI : Nat → Nat → Nat} {cI cJ : ClassId} {A : Nat → Prop} (cx : CX RX10 cX10_undo (some .int) 2 p s m args meth c (dC, dI) (TY cI cJ)) (hA : ∀ q, s.heap.size ≤ q → A q) {q0 : Nat → Nat} {post : Int32 → Mem → Prop} : ∀ (x1 : Int32) (m0 : Mem) (H : Heap) (locs : List Loc) (ls : Array Slot), va_P (dC, dI) vwCl (ww_X10 cI cJ q0 m0) H → va_D A (ww_X10 cI cJ q0 m0) → va_S A s.heap H locs → lv_has ls 2 [(0, .ref (q0 0)), (1, .int x1)] → b_X10_undo_0 post x1 m0 → W p l e ({ frames := 2, cells := 0, slots := 0, locals := 45 }) s m args below meth c H locs 0 0 (MQ below (va_Qi (S := Mem) (fun (r : Int32) (u : Mem) => post r u) (fun u t => AT (dC, dI) (TY cI cJ) A (ww_X10 cI cJ q0 u) t) A) args s 0 0 A) (F0 m 0 ls []) := by
  obtain ⟨hx, hb, hr, hml, hown, hts, hlocks, hK⟩ := id cx
  have cx' : CX RX10 cX10_undo (meth.sig.returnType) 2 p s m args meth c (dC, dI) (TY cI cJ) := ⟨hx, hb, rfl, hml, hown, hts, hlocks, hK⟩
  intro x1 m0 H locs ls hP hD hS hl h
  unfold b_X10_undo_0 at h
  refine lv_iload_n hx hb dX10_undo_0 rfl (lv_at hl 1 rfl) ?_
  refine callN_i (run_S (As := [.int x1]) (rest := []) (wc := []) cx' (c_X10_isTwo l H.size x1 _ h) ms_X10_isTwo kw_832 rfl rfl ⟨Nat.le_of_ble_eq_true rfl, Nat.le_of_ble_eq_true rfl⟩ nilP nilD (A := A) rfl hl.1 rfl (Nat.le_of_ble_eq_true rfl) dX10_undo_1 ⟨Nat.zero_le _, Nat.zero_le _⟩) hP hS hA (fun r_1 H locs hP hS h => ?_)
  refine lv_if_ne (tgt := 10) hx hb dX10_undo_4 (by decide) (fun c_2 => ?_) (fun c_2 => ?_)
  · have h := h.1 c_2
    refine lv_aload_n hx hb dX10_undo_10 rfl (lv_at hl 0 rfl) ?_
    refine gf_v (k := 6) (v := .ref (q0 6)) cx' hP 0 i_X10 rfl rfl (by decide) kw_721 rfl rfl dX10_undo_11 ?_
    refine lv_iload_n hx hb dX10_undo_14 rfl (lv_at hl 1 rfl) ?_
    refine va_iald hx hb hK hP 6 0 rfl rfl h.1 dX10_undo_15 ?_
    have h := h.2
    refine lv_if_ne (tgt := 22) hx hb dX10_undo_16 (by decide) (fun c_3 => ?_) (fun c_3 => ?_)
    · have h := h.1 c_3
      refine lv_aload_n hx hb dX10_undo_22 rfl (lv_at hl 0 rfl) ?_
      refine gf_v (k := 6) (v := .ref (q0 6)) cx' hP 0 i_X10 rfl rfl (by decide) kw_721 rfl rfl dX10_undo_23 ?_
      refine lv_iload_n hx hb dX10_undo_26 rfl (lv_at hl 1 rfl) ?_
      refine lv_dup2_11 hx hb dX10_undo_27 rfl rfl ?_
      refine va_iald hx hb hK hP 6 0 rfl rfl h.1 dX10_undo_28 ?_
      have h := h.2
      refine lv_iconst (v := 1) hx hb dX10_undo_29 (by decide) ?_
      refine lv_isub hx hb dX10_undo_30 ?_
      obtain ⟨m0_4, em0_4⟩ : ∃ z : Mem, z = up2 m0 6 (Int32.toNatClampNeg x1) ((m0 6 (Int32.toNatClampNeg x1)) - 1) := ⟨_, rfl⟩
      have h1 := h.1
      have h := h.2 m0_4 em0_4
      refine st_i hx hb hK hP hD hS 6 0 (ww_X10 cI cJ q0 m0_4) rfl rfl h1 dX10_undo_31 (by subst em0_4; rfl) (fun H locs hP hD hS => ?_)
      refine lv_aload_n hx hb dX10_undo_32 rfl (lv_at hl 0 rfl) ?_
      refine gf_v (k := 6) (v := .ref (q0 6)) cx' hP 0 i_X10 rfl rfl (by decide) kw_721 rfl rfl dX10_undo_33 ?_
      refine lv_iload_n hx hb dX10_undo_36 rfl (lv_at hl 1 rfl) ?_
      refine va_iald hx hb hK hP 6 0 rfl rfl h.1 dX10_undo_37 ?_
      have h := h.2
      exact rt_i (v := m0_4 6 (Int32.toNatClampNeg x1)) (u := m0_4) cx hP hD hS h dX10_undo_38
    have h := h.2 c_3
    refine lv_bipush (v := (-3)) hx hb dX10_undo_19 (by decide) ?_
    exact rt_i (v := (-3)) (u := m0) cx hP hD hS h dX10_undo_21
  have h := h.2 c_2
  refine lv_bipush (v := (-2)) hx hb dX10_undo_7 (by decide) ?_
  exact rt_i (v := (-2)) (u := m0) cx hP hD hS h dX10_undo_9
set_option maxRecDepth 100000 in
theorem c_X10_undo (l : Launch) {dC : Nat → ClassId} {dI : Nat → Nat → Nat} {cI cJ : ClassId} (sz : Nat) (q0 : Nat → Nat) (m0 : Mem) (x1 : Int32) (post : Int32 → Mem → Prop) (h : wp_X10_undo m0 x1 post) : Met l yX10_undo (Cond.code yX10_undo cX10_undo 2 (some .int) :: gt) ({ frames := 2, cells := 0, slots := 0, locals := 45 }) (va_Pc [.ref (q0 0), .int x1] (PRE (dC, dI) (TY cI cJ) (ww_X10 cI cJ q0 m0) sz)) (va_Qi (S := Mem) (fun (r : Int32) (u : Mem) => post r u) (fun u t => AT (dC, dI) (TY cI cJ) (va_A (ww_X10 cI cJ q0 m0) sz) (ww_X10 cI cJ q0 u) t) (va_A (ww_X10 cI cJ q0 m0) sz)) 0 0 (va_A (ww_X10 cI cJ q0 m0) sz) :=
  met_of (own := RX10) (Qf := fun A => va_Qi (S := Mem) (fun (r : Int32) (u : Mem) => post r u) (fun u t => AT (dC, dI) (TY cI cJ) A (ww_X10 cI cJ q0 u) t) A) (by decide) rfl (Nat.le_of_ble_eq_true rfl) rfl (fun p e s m below meth c A cx hA ls hP hD hS hl => w_X10_undo_0 cx hA x1 m0 _ _ ls hP hD hS hl h)
theorem mv_X10_undo : MV yX10_undo cX10_undo 2 (some .int) 1 := ⟨⟨kw_843, kw_11, by decide +kernel⟩, kw_841, kw_842⟩
set_option maxHeartbeats 4000000 in
set_option maxRecDepth 100000 in
theorem w_X10_figureOf_0 {p : Program} {l : Launch} {e : Env} {s : State} {m : MethodId} {args : Array Value} {below : List Frame} {meth : Method} {c : Code} {dC : Nat → ClassId} {dI : Nat → Nat → Nat} {cI cJ : ClassId} {A : Nat → Prop} (cx : CX RX10 cX10_figureOf (some .int) 3 p s m args meth c (dC, dI) (TY cI cJ)) (hA : ∀ q, s.heap.size ≤ q → A q) {post : Int32 → Prop} : ∀ (x0 : Int32) (x1 : Int32) (x2 : Int32) (H : Heap) (locs : List Loc) (ls : Array Slot), va_P (dC, dI) vwCl ([]) H → va_D A ([]) → va_S A s.heap H locs → lv_has ls 3 [(0, .int x0), (1, .int x1), (2, .int x2)] → b_X10_figureOf_0 post x0 x1 x2 → W p l e ({ frames := 1, cells := 0, slots := 0, locals := 25 }) s m args below meth c H locs 0 0 (MQ below (va_Qi (S := Unit) (fun (r : Int32) (_u : Unit) => post r) (fun _u t => AT (dC, dI) (TY cI cJ) A ([]) t) A) args s 0 0 A) (F0 m 0 ls []) := by
  obtain ⟨hx, hb, hr, hml, hown, hts, hlocks, hK⟩ := id cx
  have cx' : CX RX10 cX10_figureOf (meth.sig.returnType) 3 p s m args meth c (dC, dI) (TY cI cJ) := ⟨hx, hb, rfl, hml, hown, hts, hlocks, hK⟩
  intro x0 x1 x2 H locs ls hP hD hS hl h
  unfold b_X10_figureOf_0 at h
  refine lv_iload_n hx hb dX10_figureOf_0 rfl (lv_at hl 0 rfl) ?_
  refine lv_i2l (v := Int32.toInt64 x0) hx hb dX10_figureOf_1 rfl ?_
  refine lv_bipush (v := 48) hx hb dX10_figureOf_2 (by decide) ?_
  refine lv_iload_n hx hb dX10_figureOf_4 rfl (lv_at hl 1 rfl) ?_
  refine lv_iadd hx hb dX10_figureOf_5 ?_
  refine lv_i2l (v := Int32.toInt64 (48 + x1)) hx hb dX10_figureOf_6 rfl ?_
  refine lv_bipush (v := 48) hx hb dX10_figureOf_7 (by decide) ?_
  refine lv_iload_n hx hb dX10_figureOf_9 rfl (lv_at hl 2 rfl) ?_
  refine lv_iadd hx hb dX10_figureOf_10 ?_
  refine lv_i2l (v := Int32.toInt64 (48 + x2)) hx hb dX10_figureOf_11 rfl ?_
  refine callN_i (run_S (As := [.long (Int32.toInt64 x0), .long (Int32.toInt64 (48 + x1)), .long (Int32.toInt64 (48 + x2))]) (rest := []) (wc := []) cx' (c_X10_in l H.size (Int32.toInt64 x0) (Int32.toInt64 (48 + x1)) (Int32.toInt64 (48 + x2)) _ h) ms_X10_in kw_796 rfl rfl ⟨Nat.le_of_ble_eq_true rfl, Nat.le_of_ble_eq_true rfl⟩ nilP nilD (A := A) rfl hl.1 rfl (Nat.le_of_ble_eq_true rfl) dX10_figureOf_12 ⟨Nat.zero_le _, Nat.zero_le _⟩) hP hS hA (fun r_1 H locs hP hS h => ?_)
  refine dia_i (ls := ls) (c0 := r_1 = 0) (a := (-9)) (b := x0 - 48) (J := 27) (rest := []) (fun K => ?_) (fun v_3 ev_3 => ?_)
  · refine lv_if_eq (tgt := 25) hx hb dX10_figureOf_15 (by decide) (fun c_2 => ?_) (fun c_2 => ?_)
    · refine lv_bipush (v := (-9)) hx hb dX10_figureOf_25 (by decide) ?_
      exact K _ (Or.inl ⟨c_2, rfl⟩)
    · refine lv_iload_n hx hb dX10_figureOf_18 rfl (lv_at hl 0 rfl) ?_
      refine lv_bipush (v := 48) hx hb dX10_figureOf_19 (by decide) ?_
      refine lv_isub hx hb dX10_figureOf_21 ?_
      refine lv_goto (tgt := 27) hx hb dX10_figureOf_22 (by decide) ?_
      exact K _ (Or.inr ⟨c_2, rfl⟩)
  have h := h v_3 ev_3
  exact rt_i (v := v_3) (u := ()) cx hP hD hS h dX10_figureOf_27
set_option maxRecDepth 100000 in
theorem c_X10_figureOf (l : Launch) {dC : Nat → ClassId} {dI : Nat → Nat → Nat} {cI cJ : ClassId} (sz : Nat) (x0 : Int32) (x1 : Int32) (x2 : Int32) (post : Int32 → Prop) (h : wp_X10_figureOf x0 x1 x2 post) : Met l yX10_figureOf (Cond.code yX10_figureOf cX10_figureOf 3 (some .int) :: gt) ({ frames := 1, cells := 0, slots := 0, locals := 25 }) (va_Pc [.int x0, .int x1, .int x2] (PRE (dC, dI) (TY cI cJ) ([]) sz)) (va_Qi (S := Unit) (fun (r : Int32) (_u : Unit) => post r) (fun _u t => AT (dC, dI) (TY cI cJ) (va_A ([]) sz) ([]) t) (va_A ([]) sz)) 0 0 (va_A ([]) sz) :=
  met_of (own := RX10) (Qf := fun A => va_Qi (S := Unit) (fun (r : Int32) (_u : Unit) => post r) (fun _u t => AT (dC, dI) (TY cI cJ) A ([]) t) A) (by decide) rfl (Nat.le_of_ble_eq_true rfl) rfl (fun p e s m below meth c A cx hA ls hP hD hS hl => w_X10_figureOf_0 cx hA x0 x1 x2 _ _ ls hP hD hS hl h)
theorem ms_X10_figureOf : MS yX10_figureOf cX10_figureOf 3 (some .int) 3 := ⟨⟨kw_857, kw_11, by decide +kernel⟩, kw_856⟩
set_option maxHeartbeats 4000000 in
set_option maxRecDepth 100000 in
theorem w_X10_houseOf_0 {p : Program} {l : Launch} {e : Env} {s : State} {m : MethodId} {args : Array Value} {below : List Frame} {meth : Method} {c : Code} {dC : Nat → ClassId} {dI : Nat → Nat → Nat} {cI cJ : ClassId} {A : Nat → Prop} (cx : CX RX10 cX10_houseOf (some .int) 2 p s m args meth c (dC, dI) (TY cI cJ)) (hA : ∀ q, s.heap.size ≤ q → A q) {post : Int32 → Prop} : ∀ (x0 : Int32) (x1 : Int32) (H : Heap) (locs : List Loc) (ls : Array Slot), va_P (dC, dI) vwCl ([]) H → va_D A ([]) → va_S A s.heap H locs → lv_has ls 2 [(0, .int x0), (1, .int x1)] → b_X10_houseOf_0 post x0 x1 → W p l e ({ frames := 2, cells := 0, slots := 0, locals := 47 }) s m args below meth c H locs 0 0 (MQ below (va_Qi (S := Unit) (fun (r : Int32) (_u : Unit) => post r) (fun _u t => AT (dC, dI) (TY cI cJ) A ([]) t) A) args s 0 0 A) (F0 m 0 ls []) := by
  obtain ⟨hx, hb, hr, hml, hown, hts, hlocks, hK⟩ := id cx
  have cx' : CX RX10 cX10_houseOf (meth.sig.returnType) 2 p s m args meth c (dC, dI) (TY cI cJ) := ⟨hx, hb, rfl, hml, hown, hts, hlocks, hK⟩
  intro x0 x1 H locs ls hP hD hS hl h
  unfold b_X10_houseOf_0 at h
  refine lv_iload_n hx hb dX10_houseOf_0 rfl (lv_at hl 0 rfl) ?_
  by_cases c_1 : x0 = 0
  · have h := h.1 c_1
    refine lv_tableIn (off := 27) (tgt := 28) hx hb dX10_houseOf_1 (by have e9 := c_1; (rw [e9]; decide)) (by have e9 := c_1; (rw [e9]; decide)) (by have e9 := c_1; (rw [e9]; rfl)) (by decide) ?_
    refine lv_iload_n hx hb dX10_houseOf_28 rfl (lv_at hl 1 rfl) ?_
    refine lv_bipush (v := 112) hx hb dX10_houseOf_29 (by decide) ?_
    refine lv_icmp_ne (tgt := 38) hx hb dX10_houseOf_31 (by decide) (fun c_2 => ?_) (fun c_2 => ?_)
    · have h := h.1 c_2
      refine lv_iload_n hx hb dX10_houseOf_38 rfl (lv_at hl 1 rfl) ?_
      refine lv_bipush (v := 115) hx hb dX10_houseOf_39 (by decide) ?_
      refine lv_icmp_ne (tgt := 48) hx hb dX10_houseOf_41 (by decide) (fun c_3 => ?_) (fun c_3 => ?_)
      · have h := h.1 c_3
        refine lv_iload_n hx hb dX10_houseOf_48 rfl (lv_at hl 1 rfl) ?_
        refine lv_bipush (v := 119) hx hb dX10_houseOf_49 (by decide) ?_
        refine lv_icmp_ne (tgt := 58) hx hb dX10_houseOf_51 (by decide) (fun c_4 => ?_) (fun c_4 => ?_)
        · have h := h.1 c_4
          refine lv_iload_n hx hb dX10_houseOf_58 rfl (lv_at hl 1 rfl) ?_
          refine lv_bipush (v := 118) hx hb dX10_houseOf_59 (by decide) ?_
          refine dia_i (ls := ls) (c0 := x1 = 118) (a := 3) (b := (-9)) (J := 70) (rest := []) (fun K => ?_) (fun v_6 ev_6 => ?_)
          · refine lv_icmp_ne (tgt := 68) hx hb dX10_houseOf_61 (by decide) (fun c_5 => ?_) (fun c_5 => ?_)
            · refine lv_bipush (v := (-9)) hx hb dX10_houseOf_68 (by decide) ?_
              exact K _ (Or.inr ⟨c_5, rfl⟩)
            · refine lv_iconst (v := 3) hx hb dX10_houseOf_64 (by decide) ?_
              refine lv_goto (tgt := 70) hx hb dX10_houseOf_65 (by decide) ?_
              exact K _ (Or.inl ⟨c_5, rfl⟩)
          have h := h v_6 ev_6
          exact rt_i (v := v_6) (u := ()) cx hP hD hS h dX10_houseOf_70
        have h := h.2 c_4
        refine lv_iconst (v := 2) hx hb dX10_houseOf_54 (by decide) ?_
        refine lv_goto (tgt := 70) hx hb dX10_houseOf_55 (by decide) ?_
        exact rt_i (v := 2) (u := ()) cx hP hD hS h dX10_houseOf_70
      have h := h.2 c_3
      refine lv_iconst (v := 1) hx hb dX10_houseOf_44 (by decide) ?_
      refine lv_goto (tgt := 70) hx hb dX10_houseOf_45 (by decide) ?_
      exact rt_i (v := 1) (u := ()) cx hP hD hS h dX10_houseOf_70
    have h := h.2 c_2
    refine lv_iconst (v := 0) hx hb dX10_houseOf_34 (by decide) ?_
    refine lv_goto (tgt := 70) hx hb dX10_houseOf_35 (by decide) ?_
    exact rt_i (v := 0) (u := ()) cx hP hD hS h dX10_houseOf_70
  have h := h.2 c_1
  by_cases c_7 : x0 = 1
  · have h := h.1 c_7
    refine lv_tableIn (off := 70) (tgt := 71) hx hb dX10_houseOf_1 (by have e9 := c_7; (rw [e9]; decide)) (by have e9 := c_7; (rw [e9]; decide)) (by have e9 := c_7; (rw [e9]; rfl)) (by decide) ?_
    refine lv_iload_n hx hb dX10_houseOf_71 rfl (lv_at hl 1 rfl) ?_
    refine lv_iconst (v := 1) hx hb dX10_houseOf_72 (by decide) ?_
    refine lv_bipush (v := 9) hx hb dX10_houseOf_73 (by decide) ?_
    refine callN_i (run_S (As := [.int x1, .int 1, .int 9]) (rest := []) (wc := []) cx' (c_X10_figureOf l H.size x1 1 9 _ h) ms_X10_figureOf kw_855 rfl rfl ⟨Nat.le_of_ble_eq_true rfl, Nat.le_of_ble_eq_true rfl⟩ nilP nilD (A := A) rfl hl.1 rfl (Nat.le_of_ble_eq_true rfl) dX10_houseOf_75 ⟨Nat.zero_le _, Nat.zero_le _⟩) hP hS hA (fun r_8 H locs hP hS h => ?_)
    exact rt_i (v := r_8) (u := ()) cx hP hD hS h dX10_houseOf_78
  have h := h.2 c_7
  by_cases c_9 : x0 = 2
  · have h := h.1 c_9
    refine lv_tableIn (off := 78) (tgt := 79) hx hb dX10_houseOf_1 (by have e9 := c_9; (rw [e9]; decide)) (by have e9 := c_9; (rw [e9]; decide)) (by have e9 := c_9; (rw [e9]; rfl)) (by decide) ?_
    refine lv_iload_n hx hb dX10_houseOf_79 rfl (lv_at hl 1 rfl) ?_
    refine lv_iconst (v := 0) hx hb dX10_houseOf_80 (by decide) ?_
    refine lv_bipush (v := 9) hx hb dX10_houseOf_81 (by decide) ?_
    refine callN_i (run_S (As := [.int x1, .int 0, .int 9]) (rest := []) (wc := []) cx' (c_X10_figureOf l H.size x1 0 9 _ h) ms_X10_figureOf kw_855 rfl rfl ⟨Nat.le_of_ble_eq_true rfl, Nat.le_of_ble_eq_true rfl⟩ nilP nilD (A := A) rfl hl.1 rfl (Nat.le_of_ble_eq_true rfl) dX10_houseOf_83 ⟨Nat.zero_le _, Nat.zero_le _⟩) hP hS hA (fun r_10 H locs hP hS h => ?_)
    exact rt_i (v := r_10) (u := ()) cx hP hD hS h dX10_houseOf_86
  have h := h.2 c_9
  refine tsw_def (tgt := 87) hx hb dX10_houseOf_1 (fun j hj hle => ?_) (by decide) ?_
  · have hj9 : j = 0 ∨ j = 1 ∨ j = 2 := by omega
    rcases hj9 with rfl | rfl | rfl
    · exact absurd (have e9 : x0 = 0 := Int32.toInt_inj.mp (by rw [hj]; rfl); e9) c_1
    · exact absurd (have e9 : x0 = 1 := Int32.toInt_inj.mp (by rw [hj]; rfl); e9) c_7
    · exact absurd (have e9 : x0 = 2 := Int32.toInt_inj.mp (by rw [hj]; rfl); e9) c_9
  refine lv_iload_n hx hb dX10_houseOf_87 rfl (lv_at hl 1 rfl) ?_
  refine lv_bipush (v := 59) hx hb dX10_houseOf_88 (by decide) ?_
  refine dia_i (ls := ls) (c0 := x1 = 59) (a := 0) (b := (-9)) (J := 99) (rest := []) (fun K => ?_) (fun v_12 ev_12 => ?_)
  · refine lv_icmp_ne (tgt := 97) hx hb dX10_houseOf_90 (by decide) (fun c_11 => ?_) (fun c_11 => ?_)
    · refine lv_bipush (v := (-9)) hx hb dX10_houseOf_97 (by decide) ?_
      exact K _ (Or.inr ⟨c_11, rfl⟩)
    · refine lv_iconst (v := 0) hx hb dX10_houseOf_93 (by decide) ?_
      refine lv_goto (tgt := 99) hx hb dX10_houseOf_94 (by decide) ?_
      exact K _ (Or.inl ⟨c_11, rfl⟩)
  have h := h v_12 ev_12
  exact rt_i (v := v_12) (u := ()) cx hP hD hS h dX10_houseOf_99
set_option maxRecDepth 100000 in
theorem c_X10_houseOf (l : Launch) {dC : Nat → ClassId} {dI : Nat → Nat → Nat} {cI cJ : ClassId} (sz : Nat) (x0 : Int32) (x1 : Int32) (post : Int32 → Prop) (h : wp_X10_houseOf x0 x1 post) : Met l yX10_houseOf (Cond.code yX10_houseOf cX10_houseOf 2 (some .int) :: gt) ({ frames := 2, cells := 0, slots := 0, locals := 47 }) (va_Pc [.int x0, .int x1] (PRE (dC, dI) (TY cI cJ) ([]) sz)) (va_Qi (S := Unit) (fun (r : Int32) (_u : Unit) => post r) (fun _u t => AT (dC, dI) (TY cI cJ) (va_A ([]) sz) ([]) t) (va_A ([]) sz)) 0 0 (va_A ([]) sz) :=
  met_of (own := RX10) (Qf := fun A => va_Qi (S := Unit) (fun (r : Int32) (_u : Unit) => post r) (fun _u t => AT (dC, dI) (TY cI cJ) A ([]) t) A) (by decide) rfl (Nat.le_of_ble_eq_true rfl) rfl (fun p e s m below meth c A cx hA ls hP hD hS hl => w_X10_houseOf_0 cx hA x0 x1 _ _ ls hP hD hS hl h)
theorem ms_X10_houseOf : MS yX10_houseOf cX10_houseOf 2 (some .int) 2 := ⟨⟨kw_854, kw_11, by decide +kernel⟩, kw_853⟩
set_option maxHeartbeats 4000000 in
set_option maxRecDepth 100000 in
theorem w_X10_readsHouses_68 {p : Program} {l : Launch} {e : Env} {s : State} {m : MethodId} {args : Array Value} {below : List Frame} {meth : Method} {c : Code} {dC : Nat → ClassId} {dI : Nat → Nat → Nat} {cI cJ : ClassId} {A : Nat → Prop} (cx : CX RX10 cX10_readsHouses (some .int) 5 p s m args meth c (dC, dI) (TY cI cJ)) (hA : ∀ q, s.heap.size ≤ q → A q) {q0 : Nat → Nat} {post : Int32 → Mem → Prop} {k14 : Int32 → Int32 → Mem → Prop} (hk14 : ∀ (x1 : Int32) (x2 : Int32) (m0 : Mem) (H : Heap) (locs : List Loc) (ls : Array Slot), va_P (dC, dI) vwCl (ww_X10 cI cJ q0 m0) H → va_D A (ww_X10 cI cJ q0 m0) → va_S A s.heap H locs → lv_has ls 5 [(0, .ref (q0 0)), (1, .int x1), (2, .int x2)] → k14 x1 x2 m0 → W p l e ({ frames := 3, cells := 0, slots := 0, locals := 68 }) s m args below meth c H locs 0 0 (MQ below (va_Qi (S := Mem) (fun (r : Int32) (u : Mem) => post r u) (fun u t => AT (dC, dI) (TY cI cJ) A (ww_X10 cI cJ q0 u) t) A) args s 0 0 A) (F0 m 14 ls [])) : ∀ (x1 : Int32) (x2 : Int32) (x3 : Int32) (m0 : Mem) (H : Heap) (locs : List Loc) (ls : Array Slot), va_P (dC, dI) vwCl (ww_X10 cI cJ q0 m0) H → va_D A (ww_X10 cI cJ q0 m0) → va_S A s.heap H locs → lv_has ls 5 [(0, .ref (q0 0)), (1, .int x1), (2, .int x2), (3, .int x3)] → b_X10_readsHouses_68 post k14 x1 x2 x3 m0 → W p l e ({ frames := 3, cells := 0, slots := 0, locals := 68 }) s m args below meth c H locs 0 0 (MQ below (va_Qi (S := Mem) (fun (r : Int32) (u : Mem) => post r u) (fun u t => AT (dC, dI) (TY cI cJ) A (ww_X10 cI cJ q0 u) t) A) args s 0 0 A) (F0 m 68 ls []) := by
  obtain ⟨hx, hb, hr, hml, hown, hts, hlocks, hK⟩ := id cx
  have cx' : CX RX10 cX10_readsHouses (meth.sig.returnType) 5 p s m args meth c (dC, dI) (TY cI cJ) := ⟨hx, hb, rfl, hml, hown, hts, hlocks, hK⟩
  intro x1 x2 x3 m0 H locs ls hP hD hS hl h
  unfold b_X10_readsHouses_68 at h
  refine lv_aload_n hx hb dX10_readsHouses_68 rfl (lv_at hl 0 rfl) ?_
  refine lv_dup hx hb dX10_readsHouses_69 rfl ?_
  refine gf_v (k := 7) (v := .int (m0 0 7)) cx' hP 0 i_X10 rfl rfl (by decide) kw_722 rfl rfl dX10_readsHouses_70 ?_
  refine lv_iload_n hx hb dX10_readsHouses_73 rfl (lv_at hl 3 rfl) ?_
  refine lv_iconst (v := 2) hx hb dX10_readsHouses_74 (by decide) ?_
  refine dia_i (ls := ls) (c0 := x3 = 2) (a := 1) (b := 0) (J := 83) (rest := [.int (m0 0 7), .ref (q0 0)]) (fun K => ?_) (fun v_2 ev_2 => ?_)
  · refine lv_icmp_ne (tgt := 82) hx hb dX10_readsHouses_75 (by decide) (fun c_1 => ?_) (fun c_1 => ?_)
    · refine lv_iconst (v := 0) hx hb dX10_readsHouses_82 (by decide) ?_
      exact K _ (Or.inr ⟨c_1, rfl⟩)
    · refine lv_iconst (v := 1) hx hb dX10_readsHouses_78 (by decide) ?_
      refine lv_goto (tgt := 83) hx hb dX10_readsHouses_79 (by decide) ?_
      exact K _ (Or.inl ⟨c_1, rfl⟩)
  have h := h v_2 ev_2
  refine lv_iadd hx hb dX10_readsHouses_83 ?_
  obtain ⟨m0_3, em0_3⟩ : ∃ z : Mem, z = up2 m0 0 7 ((m0 0 7) + v_2) := ⟨_, rfl⟩
  have h := h m0_3 em0_3
  refine pf_v (k := 7) (tf := .int) cx' hP hD hS 0 (ww_X10 cI cJ q0 m0_3) i_X10 tyX10 tyX10_ok nmX10 rfl rfl (by decide) kw_722 rfl rfl rfl rfl rfl (Nat.le_of_ble_eq_true rfl) dX10_readsHouses_84 (by subst em0_3; rfl) (fun H locs hP hD hS => ?_)
  obtain ⟨x2_4, ex2_4⟩ : ∃ z : Int32, z = x2 + 1 := ⟨_, rfl⟩
  have h := h x2_4 ex2_4
  refine lv_iinc (v := x2_4) (lv' := [(2, .int x2_4), (0, .ref (q0 0)), (1, .int x1), (3, .int x3)]) hx hb dX10_readsHouses_87 hl (k := 2) rfl (by rw [ex2_4]; rfl) (by decide) rfl (fun ls hl => ?_)
  refine lv_goto (tgt := 14) hx hb dX10_readsHouses_90 (by decide) ?_
  exact hk14 x1 x2_4 m0_3 H locs ls hP hD hS (lv_sub hl [1, 2, 0] rfl) h
set_option maxHeartbeats 4000000 in
set_option maxRecDepth 100000 in
theorem w_X10_readsHouses_14 {p : Program} {l : Launch} {e : Env} {s : State} {m : MethodId} {args : Array Value} {below : List Frame} {meth : Method} {c : Code} {dC : Nat → ClassId} {dI : Nat → Nat → Nat} {cI cJ : ClassId} {A : Nat → Prop} (cx : CX RX10 cX10_readsHouses (some .int) 5 p s m args meth c (dC, dI) (TY cI cJ)) (hA : ∀ q, s.heap.size ≤ q → A q) {q0 : Nat → Nat} {post : Int32 → Mem → Prop} : ∀ (n : Nat) (x1 : Int32) (x2 : Int32) (m0 : Mem) (H : Heap) (locs : List Loc) (ls : Array Slot), va_P (dC, dI) vwCl (ww_X10 cI cJ q0 m0) H → va_D A (ww_X10 cI cJ q0 m0) → va_S A s.heap H locs → lv_has ls 5 [(0, .ref (q0 0)), (1, .int x1), (2, .int x2)] → b_X10_readsHouses_14 post n x1 x2 m0 → W p l e ({ frames := 3, cells := 0, slots := 0, locals := 68 }) s m args below meth c H locs 0 0 (MQ below (va_Qi (S := Mem) (fun (r : Int32) (u : Mem) => post r u) (fun u t => AT (dC, dI) (TY cI cJ) A (ww_X10 cI cJ q0 u) t) A) args s 0 0 A) (F0 m 14 ls []) := by
  obtain ⟨hx, hb, hr, hml, hown, hts, hlocks, hK⟩ := id cx
  have cx' : CX RX10 cX10_readsHouses (meth.sig.returnType) 5 p s m args meth c (dC, dI) (TY cI cJ) := ⟨hx, hb, rfl, hml, hown, hts, hlocks, hK⟩
  intro n
  induction n with
  | zero =>
    intro x1 x2 m0 H locs ls hP hD hS hl h
    exact False.elim h
  | succ n ih =>
    intro x1 x2 m0 H locs ls hP hD hS hl h
    unfold b_X10_readsHouses_14 at h
    refine lv_iload_n hx hb dX10_readsHouses_14 rfl (lv_at hl 2 rfl) ?_
    refine lv_iload_n hx hb dX10_readsHouses_15 rfl (lv_at hl 1 rfl) ?_
    refine lv_icmp_ge (tgt := 93) hx hb dX10_readsHouses_16 (by decide) (fun c_1 => ?_) (fun c_1 => ?_)
    · have h := h.1 c_1
      refine lv_iload_n hx hb dX10_readsHouses_93 rfl (lv_at hl 1 rfl) ?_
      refine lv_if_le (tgt := 111) hx hb dX10_readsHouses_94 (by decide) (fun c_2 => ?_) (fun c_2 => ?_)
      · have h := h.1 c_2
        refine lv_iconst (v := (-1)) hx hb dX10_readsHouses_111 (by decide) ?_
        exact rt_i (v := (-1)) (u := m0) cx hP hD hS h dX10_readsHouses_112
      have h := h.2 c_2
      refine lv_iload_n hx hb dX10_readsHouses_97 rfl (lv_at hl 1 rfl) ?_
      refine lv_iconst (v := 4) hx hb dX10_readsHouses_98 (by decide) ?_
      refine lv_irem hx hb dX10_readsHouses_99 (by decide) ?_
      refine lv_iconst (v := 3) hx hb dX10_readsHouses_100 (by decide) ?_
      refine lv_icmp_eq (tgt := 111) hx hb dX10_readsHouses_101 (by decide) (fun c_3 => ?_) (fun c_3 => ?_)
      · have h := h.1 c_3
        refine lv_iconst (v := (-1)) hx hb dX10_readsHouses_111 (by decide) ?_
        exact rt_i (v := (-1)) (u := m0) cx hP hD hS h dX10_readsHouses_112
      have h := h.2 c_3
      refine lv_aload_n hx hb dX10_readsHouses_104 rfl (lv_at hl 0 rfl) ?_
      refine lv_iconst (v := 0) hx hb dX10_readsHouses_105 (by decide) ?_
      obtain ⟨m0_4, em0_4⟩ : ∃ z : Mem, z = up2 m0 0 7 0 := ⟨_, rfl⟩
      have h := h m0_4 em0_4
      refine pf_v (k := 7) (tf := .int) cx' hP hD hS 0 (ww_X10 cI cJ q0 m0_4) i_X10 tyX10 tyX10_ok nmX10 rfl rfl (by decide) kw_722 rfl rfl rfl rfl rfl (Nat.le_of_ble_eq_true rfl) dX10_readsHouses_106 (by subst em0_4; rfl) (fun H locs hP hD hS => ?_)
      refine lv_iload_n hx hb dX10_readsHouses_109 rfl (lv_at hl 1 rfl) ?_
      exact rt_i (v := x1) (u := m0_4) cx hP hD hS h dX10_readsHouses_110
    have h := h.2 c_1
    refine lv_iload_n hx hb dX10_readsHouses_19 rfl (lv_at hl 2 rfl) ?_
    refine lv_iconst (v := 4) hx hb dX10_readsHouses_20 (by decide) ?_
    refine lv_irem hx hb dX10_readsHouses_21 (by decide) ?_
    refine lv_topi (fun x3_5 ex3_5 => ?_)
    have h := h x3_5 ex3_5
    refine lv_istore_n (lv' := [(3, .int x3_5), (0, .ref (q0 0)), (1, .int x1), (2, .int x2)]) hx hb dX10_readsHouses_22 rfl hl (by decide) rfl (fun ls hl => ?_)
    refine lv_iload_n hx hb dX10_readsHouses_23 rfl (lv_at hl 0 rfl) ?_
    refine lv_aload_n hx hb dX10_readsHouses_24 rfl (lv_at hl 1 rfl) ?_
    refine gf_v (k := 5) (v := .ref (q0 5)) cx' hP 0 i_X10 rfl rfl (by decide) kw_720 rfl rfl dX10_readsHouses_25 ?_
    refine lv_iload_n hx hb dX10_readsHouses_28 rfl (lv_at hl 3 rfl) ?_
    refine va_iald hx hb hK hP 5 0 rfl rfl h.1 dX10_readsHouses_29 ?_
    have h := h.2
    refine callN_i (run_S (As := [.int x3_5, .int (m0 5 (Int32.toNatClampNeg x2))]) (rest := []) (wc := []) cx' (c_X10_houseOf l H.size x3_5 (m0 5 (Int32.toNatClampNeg x2)) _ h) ms_X10_houseOf kw_852 rfl rfl ⟨Nat.le_of_ble_eq_true rfl, Nat.le_of_ble_eq_true rfl⟩ nilP nilD (A := A) rfl hl.1 rfl (Nat.le_of_ble_eq_true rfl) dX10_readsHouses_30 ⟨Nat.zero_le _, Nat.zero_le _⟩) hP hS hA (fun r_6 H locs hP hS h => ?_)
    refine lv_istore (lv' := [(4, .int r_6), (3, .int x3_5), (0, .ref (q0 0)), (1, .int x1), (2, .int x2)]) hx hb dX10_readsHouses_33 hl (by decide) rfl (fun ls hl => ?_)
    refine lv_iload hx hb dX10_readsHouses_35 (lv_at hl 0 rfl) ?_
    refine lv_bipush (v := (-9)) hx hb dX10_readsHouses_37 (by decide) ?_
    refine lv_icmp_ne (tgt := 49) hx hb dX10_readsHouses_39 (by decide) (fun c_7 => ?_) (fun c_7 => ?_)
    · have h := h.1 c_7
      refine lv_iload_n hx hb dX10_readsHouses_49 rfl (lv_at hl 1 rfl) ?_
      refine lv_iconst (v := 3) hx hb dX10_readsHouses_50 (by decide) ?_
      refine lv_icmp_ge (tgt := 68) hx hb dX10_readsHouses_51 (by decide) (fun c_8 => ?_) (fun c_8 => ?_)
      · have h := h.1 c_8
        exact w_X10_readsHouses_68 cx hA ih x1 x2 x3_5 m0 H locs ls hP hD hS (lv_sub hl [2, 3, 4, 1] rfl) h
      have h := h.2 c_8
      refine lv_aload_n hx hb dX10_readsHouses_54 rfl (lv_at hl 2 rfl) ?_
      refine gf_v (k := 8) (v := .ref (q0 7)) cx' hP 0 i_X10 rfl rfl (by decide) kw_723 rfl rfl dX10_readsHouses_55 ?_
      refine lv_iconst (v := 3) hx hb dX10_readsHouses_58 (by decide) ?_
      refine lv_iload_n hx hb dX10_readsHouses_59 rfl (lv_at hl 4 rfl) ?_
      refine lv_iconst (v := 4) hx hb dX10_readsHouses_60 (by decide) ?_
      refine lv_idiv hx hb dX10_readsHouses_61 (by decide) ?_
      refine lv_imul hx hb dX10_readsHouses_62 ?_
      refine lv_iload_n hx hb dX10_readsHouses_63 rfl (lv_at hl 1 rfl) ?_
      refine lv_iadd hx hb dX10_readsHouses_64 ?_
      refine lv_iload hx hb dX10_readsHouses_65 (lv_at hl 0 rfl) ?_
      obtain ⟨m0_9, em0_9⟩ : ∃ z : Mem, z = up2 m0 7 (Int32.toNatClampNeg ((3 * (x2 / 4)) + x3_5)) r_6 := ⟨_, rfl⟩
      have h1 := h.1
      have h := h.2 m0_9 em0_9
      refine st_i hx hb hK hP hD hS 7 0 (ww_X10 cI cJ q0 m0_9) rfl rfl h1 dX10_readsHouses_67 (by subst em0_9; rfl) (fun H locs hP hD hS => ?_)
      exact w_X10_readsHouses_68 cx hA ih x1 x2 x3_5 m0_9 H locs ls hP hD hS (lv_sub hl [2, 3, 4, 1] rfl) h
    have h := h.2 c_7
    refine lv_aload_n hx hb dX10_readsHouses_42 rfl (lv_at hl 2 rfl) ?_
    refine lv_iconst (v := 0) hx hb dX10_readsHouses_43 (by decide) ?_
    obtain ⟨m0_10, em0_10⟩ : ∃ z : Mem, z = up2 m0 0 7 0 := ⟨_, rfl⟩
    have h := h m0_10 em0_10
    refine pf_v (k := 7) (tf := .int) cx' hP hD hS 0 (ww_X10 cI cJ q0 m0_10) i_X10 tyX10 tyX10_ok nmX10 rfl rfl (by decide) kw_722 rfl rfl rfl rfl rfl (Nat.le_of_ble_eq_true rfl) dX10_readsHouses_44 (by subst em0_10; rfl) (fun H locs hP hD hS => ?_)
    refine lv_iload_n hx hb dX10_readsHouses_47 rfl (lv_at hl 4 rfl) ?_
    exact rt_i (v := x2) (u := m0_10) cx hP hD hS h dX10_readsHouses_48
set_option maxHeartbeats 4000000 in
set_option maxRecDepth 100000 in
theorem w_X10_readsHouses_0 {p : Program} {l : Launch} {e : Env} {s : State} {m : MethodId} {args : Array Value} {below : List Frame} {meth : Method} {c : Code} {dC : Nat → ClassId} {dI : Nat → Nat → Nat} {cI cJ : ClassId} {A : Nat → Prop} (cx : CX RX10 cX10_readsHouses (some .int) 5 p s m args meth c (dC, dI) (TY cI cJ)) (hA : ∀ q, s.heap.size ≤ q → A q) {q0 : Nat → Nat} {post : Int32 → Mem → Prop} : ∀ (m0 : Mem) (H : Heap) (locs : List Loc) (ls : Array Slot), va_P (dC, dI) vwCl (ww_X10 cI cJ q0 m0) H → va_D A (ww_X10 cI cJ q0 m0) → va_S A s.heap H locs → lv_has ls 5 [(0, .ref (q0 0))] → b_X10_readsHouses_0 post m0 → W p l e ({ frames := 3, cells := 0, slots := 0, locals := 68 }) s m args below meth c H locs 0 0 (MQ below (va_Qi (S := Mem) (fun (r : Int32) (u : Mem) => post r u) (fun u t => AT (dC, dI) (TY cI cJ) A (ww_X10 cI cJ q0 u) t) A) args s 0 0 A) (F0 m 0 ls []) := by
  obtain ⟨hx, hb, hr, hml, hown, hts, hlocks, hK⟩ := id cx
  have cx' : CX RX10 cX10_readsHouses (meth.sig.returnType) 5 p s m args meth c (dC, dI) (TY cI cJ) := ⟨hx, hb, rfl, hml, hown, hts, hlocks, hK⟩
  intro m0 H locs ls hP hD hS hl h
  unfold b_X10_readsHouses_0 at h
  refine lv_aload_n hx hb dX10_readsHouses_0 rfl (lv_at hl 0 rfl) ?_
  refine lv_iconst (v := 0) hx hb dX10_readsHouses_1 (by decide) ?_
  obtain ⟨m0_1, em0_1⟩ : ∃ z : Mem, z = up2 m0 0 7 0 := ⟨_, rfl⟩
  have h := h m0_1 em0_1
  refine pf_v (k := 7) (tf := .int) cx' hP hD hS 0 (ww_X10 cI cJ q0 m0_1) i_X10 tyX10 tyX10_ok nmX10 rfl rfl (by decide) kw_722 rfl rfl rfl rfl rfl (Nat.le_of_ble_eq_true rfl) dX10_readsHouses_2 (by subst em0_1; rfl) (fun H locs hP hD hS => ?_)
  refine lv_aload_n hx hb dX10_readsHouses_5 rfl (lv_at hl 0 rfl) ?_
  refine gf_v (k := 6) (v := .ref (q0 6)) cx' hP 0 i_X10 rfl rfl (by decide) kw_721 rfl rfl dX10_readsHouses_6 ?_
  refine lv_iconst (v := 0) hx hb dX10_readsHouses_9 (by decide) ?_
  refine va_iald hx hb hK hP 6 0 rfl rfl h.1 dX10_readsHouses_10 ?_
  have h := h.2
  refine lv_topi (fun x1_2 ex1_2 => ?_)
  have h := h x1_2 ex1_2
  refine lv_istore_n (lv' := [(1, .int x1_2), (0, .ref (q0 0))]) hx hb dX10_readsHouses_11 rfl hl (by decide) rfl (fun ls hl => ?_)
  refine lv_iconst (v := 0) hx hb dX10_readsHouses_12 (by decide) ?_
  refine lv_istore_n (lv' := [(2, .int 0), (1, .int x1_2), (0, .ref (q0 0))]) hx hb dX10_readsHouses_13 rfl hl (by decide) rfl (fun ls hl => ?_)
  obtain ⟨n_3, h⟩ := h
  exact w_X10_readsHouses_14 cx hA n_3 x1_2 0 m0_1 H locs ls hP hD hS (lv_sub hl [2, 1, 0] rfl) h
set_option maxRecDepth 100000 in
theorem c_X10_readsHouses (l : Launch) {dC : Nat → ClassId} {dI : Nat → Nat → Nat} {cI cJ : ClassId} (sz : Nat) (q0 : Nat → Nat) (m0 : Mem) (post : Int32 → Mem → Prop) (h : wp_X10_readsHouses m0 post) : Met l yX10_readsHouses (Cond.code yX10_readsHouses cX10_readsHouses 5 (some .int) :: gt) ({ frames := 3, cells := 0, slots := 0, locals := 68 }) (va_Pc [.ref (q0 0)] (PRE (dC, dI) (TY cI cJ) (ww_X10 cI cJ q0 m0) sz)) (va_Qi (S := Mem) (fun (r : Int32) (u : Mem) => post r u) (fun u t => AT (dC, dI) (TY cI cJ) (va_A (ww_X10 cI cJ q0 m0) sz) (ww_X10 cI cJ q0 u) t) (va_A (ww_X10 cI cJ q0 m0) sz)) 0 0 (va_A (ww_X10 cI cJ q0 m0) sz) :=
  met_of (own := RX10) (Qf := fun A => va_Qi (S := Mem) (fun (r : Int32) (u : Mem) => post r u) (fun u t => AT (dC, dI) (TY cI cJ) A (ww_X10 cI cJ q0 u) t) A) (by decide) rfl (Nat.le_of_ble_eq_true rfl) rfl (fun p e s m below meth c A cx hA ls hP hD hS hl => w_X10_readsHouses_0 cx hA m0 _ _ ls hP hD hS hl h)
theorem mv_X10_readsHouses : MV yX10_readsHouses cX10_readsHouses 5 (some .int) 0 := ⟨⟨kw_851, kw_11, by decide +kernel⟩, kw_850, ksel_22⟩
set_option maxHeartbeats 4000000 in
set_option maxRecDepth 100000 in
theorem w_X10_guestOf_0 {p : Program} {l : Launch} {e : Env} {s : State} {m : MethodId} {args : Array Value} {below : List Frame} {meth : Method} {c : Code} {dC : Nat → ClassId} {dI : Nat → Nat → Nat} {cI cJ : ClassId} {A : Nat → Prop} (cx : CX RX10 cX10_guestOf (some .int) 2 p s m args meth c (dC, dI) (TY cI cJ)) (hA : ∀ q, s.heap.size ≤ q → A q) {post : Int32 → Prop} : ∀ (x0 : Int32) (x1 : Int32) (H : Heap) (locs : List Loc) (ls : Array Slot), va_P (dC, dI) vwCl ([]) H → va_D A ([]) → va_S A s.heap H locs → lv_has ls 2 [(0, .int x0), (1, .int x1)] → b_X10_guestOf_0 post x0 x1 → W p l e ({ frames := 2, cells := 0, slots := 0, locals := 47 }) s m args below meth c H locs 0 0 (MQ below (va_Qi (S := Unit) (fun (r : Int32) (_u : Unit) => post r) (fun _u t => AT (dC, dI) (TY cI cJ) A ([]) t) A) args s 0 0 A) (F0 m 0 ls []) := by
  obtain ⟨hx, hb, hr, hml, hown, hts, hlocks, hK⟩ := id cx
  have cx' : CX RX10 cX10_guestOf (meth.sig.returnType) 2 p s m args meth c (dC, dI) (TY cI cJ) := ⟨hx, hb, rfl, hml, hown, hts, hlocks, hK⟩
  intro x0 x1 H locs ls hP hD hS hl h
  unfold b_X10_guestOf_0 at h
  refine lv_iload_n hx hb dX10_guestOf_0 rfl (lv_at hl 0 rfl) ?_
  by_cases c_1 : x0 = 2
  · have h := h.1 c_1
    refine lv_tableIn (off := 31) (tgt := 32) hx hb dX10_guestOf_1 (by have e9 := c_1; (rw [e9]; decide)) (by have e9 := c_1; (rw [e9]; decide)) (by have e9 := c_1; (rw [e9]; rfl)) (by decide) ?_
    refine lv_iload_n hx hb dX10_guestOf_32 rfl (lv_at hl 1 rfl) ?_
    refine lv_iconst (v := 0) hx hb dX10_guestOf_33 (by decide) ?_
    refine lv_bipush (v := 7) hx hb dX10_guestOf_34 (by decide) ?_
    refine callN_i (run_S (As := [.int x1, .int 0, .int 7]) (rest := []) (wc := []) cx' (c_X10_figureOf l H.size x1 0 7 _ h) ms_X10_figureOf kw_855 rfl rfl ⟨Nat.le_of_ble_eq_true rfl, Nat.le_of_ble_eq_true rfl⟩ nilP nilD (A := A) rfl hl.1 rfl (Nat.le_of_ble_eq_true rfl) dX10_guestOf_36 ⟨Nat.zero_le _, Nat.zero_le _⟩) hP hS hA (fun r_2 H locs hP hS h => ?_)
    exact rt_i (v := r_2) (u := ()) cx hP hD hS h dX10_guestOf_39
  have h := h.2 c_1
  by_cases c_3 : x0 = 3
  · have h := h.1 c_3
    refine lv_tableIn (off := 39) (tgt := 40) hx hb dX10_guestOf_1 (by have e9 := c_3; (rw [e9]; decide)) (by have e9 := c_3; (rw [e9]; decide)) (by have e9 := c_3; (rw [e9]; rfl)) (by decide) ?_
    refine lv_iload_n hx hb dX10_guestOf_40 rfl (lv_at hl 1 rfl) ?_
    refine lv_bipush (v := 100) hx hb dX10_guestOf_41 (by decide) ?_
    refine lv_icmp_ne (tgt := 50) hx hb dX10_guestOf_43 (by decide) (fun c_4 => ?_) (fun c_4 => ?_)
    · have h := h.1 c_4
      refine lv_iload_n hx hb dX10_guestOf_50 rfl (lv_at hl 1 rfl) ?_
      refine lv_bipush (v := 117) hx hb dX10_guestOf_51 (by decide) ?_
      refine dia_i (ls := ls) (c0 := x1 = 117) (a := 0) (b := (-9)) (J := 62) (rest := []) (fun K => ?_) (fun v_6 ev_6 => ?_)
      · refine lv_icmp_ne (tgt := 60) hx hb dX10_guestOf_53 (by decide) (fun c_5 => ?_) (fun c_5 => ?_)
        · refine lv_bipush (v := (-9)) hx hb dX10_guestOf_60 (by decide) ?_
          exact K _ (Or.inr ⟨c_5, rfl⟩)
        · refine lv_iconst (v := 0) hx hb dX10_guestOf_56 (by decide) ?_
          refine lv_goto (tgt := 62) hx hb dX10_guestOf_57 (by decide) ?_
          exact K _ (Or.inl ⟨c_5, rfl⟩)
      have h := h v_6 ev_6
      exact rt_i (v := v_6) (u := ()) cx hP hD hS h dX10_guestOf_62
    have h := h.2 c_4
    refine lv_iconst (v := 1) hx hb dX10_guestOf_46 (by decide) ?_
    refine lv_goto (tgt := 62) hx hb dX10_guestOf_47 (by decide) ?_
    exact rt_i (v := 1) (u := ()) cx hP hD hS h dX10_guestOf_62
  have h := h.2 c_3
  by_cases c_7 : x0 = 5
  · have h := h.1 c_7
    refine lv_tableIn (off := 62) (tgt := 63) hx hb dX10_guestOf_1 (by have e9 := c_7; (rw [e9]; decide)) (by have e9 := c_7; (rw [e9]; decide)) (by have e9 := c_7; (rw [e9]; rfl)) (by decide) ?_
    refine lv_iload_n hx hb dX10_guestOf_63 rfl (lv_at hl 1 rfl) ?_
    refine lv_bipush (v := 59) hx hb dX10_guestOf_64 (by decide) ?_
    refine dia_i (ls := ls) (c0 := x1 = 59) (a := 0) (b := (-9)) (J := 75) (rest := []) (fun K => ?_) (fun v_9 ev_9 => ?_)
    · refine lv_icmp_ne (tgt := 73) hx hb dX10_guestOf_66 (by decide) (fun c_8 => ?_) (fun c_8 => ?_)
      · refine lv_bipush (v := (-9)) hx hb dX10_guestOf_73 (by decide) ?_
        exact K _ (Or.inr ⟨c_8, rfl⟩)
      · refine lv_iconst (v := 0) hx hb dX10_guestOf_69 (by decide) ?_
        refine lv_goto (tgt := 75) hx hb dX10_guestOf_70 (by decide) ?_
        exact K _ (Or.inl ⟨c_8, rfl⟩)
    have h := h v_9 ev_9
    exact rt_i (v := v_9) (u := ()) cx hP hD hS h dX10_guestOf_75
  have h := h.2 c_7
  refine tsw_def (tgt := 76) hx hb dX10_guestOf_1 (fun j hj hle => ?_) (by decide) ?_
  · have hj9 : j = 0 ∨ j = 1 ∨ j = 2 ∨ j = 3 := by omega
    rcases hj9 with rfl | rfl | rfl | rfl
    · exact absurd (have e9 : x0 = 2 := Int32.toInt_inj.mp (by rw [hj]; rfl); e9) c_1
    · exact absurd (have e9 : x0 = 3 := Int32.toInt_inj.mp (by rw [hj]; rfl); e9) c_3
    · rfl
    · exact absurd (have e9 : x0 = 5 := Int32.toInt_inj.mp (by rw [hj]; rfl); e9) c_7
  refine lv_iload_n hx hb dX10_guestOf_76 rfl (lv_at hl 1 rfl) ?_
  refine lv_iconst (v := 0) hx hb dX10_guestOf_77 (by decide) ?_
  refine lv_bipush (v := 9) hx hb dX10_guestOf_78 (by decide) ?_
  refine callN_i (run_S (As := [.int x1, .int 0, .int 9]) (rest := []) (wc := []) cx' (c_X10_figureOf l H.size x1 0 9 _ h) ms_X10_figureOf kw_855 rfl rfl ⟨Nat.le_of_ble_eq_true rfl, Nat.le_of_ble_eq_true rfl⟩ nilP nilD (A := A) rfl hl.1 rfl (Nat.le_of_ble_eq_true rfl) dX10_guestOf_80 ⟨Nat.zero_le _, Nat.zero_le _⟩) hP hS hA (fun r_10 H locs hP hS h => ?_)
  exact rt_i (v := r_10) (u := ()) cx hP hD hS h dX10_guestOf_83
set_option maxRecDepth 100000 in
theorem c_X10_guestOf (l : Launch) {dC : Nat → ClassId} {dI : Nat → Nat → Nat} {cI cJ : ClassId} (sz : Nat) (x0 : Int32) (x1 : Int32) (post : Int32 → Prop) (h : wp_X10_guestOf x0 x1 post) : Met l yX10_guestOf (Cond.code yX10_guestOf cX10_guestOf 2 (some .int) :: gt) ({ frames := 2, cells := 0, slots := 0, locals := 47 }) (va_Pc [.int x0, .int x1] (PRE (dC, dI) (TY cI cJ) ([]) sz)) (va_Qi (S := Unit) (fun (r : Int32) (_u : Unit) => post r) (fun _u t => AT (dC, dI) (TY cI cJ) (va_A ([]) sz) ([]) t) (va_A ([]) sz)) 0 0 (va_A ([]) sz) :=
  met_of (own := RX10) (Qf := fun A => va_Qi (S := Unit) (fun (r : Int32) (_u : Unit) => post r) (fun _u t => AT (dC, dI) (TY cI cJ) A ([]) t) A) (by decide) rfl (Nat.le_of_ble_eq_true rfl) rfl (fun p e s m below meth c A cx hA ls hP hD hS hl => w_X10_guestOf_0 cx hA x0 x1 _ _ ls hP hD hS hl h)
theorem ms_X10_guestOf : MS yX10_guestOf cX10_guestOf 2 (some .int) 2 := ⟨⟨kw_864, kw_11, by decide +kernel⟩, kw_863⟩
set_option maxHeartbeats 4000000 in
set_option maxRecDepth 100000 in
theorem w_X10_tellsGuest_0 {p : Program} {l : Launch} {e : Env} {s : State} {m : MethodId} {args : Array Value} {below : List Frame} {meth : Method} {c : Code} {dC : Nat → ClassId} {dI : Nat → Nat → Nat} {cI cJ : ClassId} {A : Nat → Prop} (cx : CX RX10 cX10_tellsGuest none 4 p s m args meth c (dC, dI) (TY cI cJ)) (hA : ∀ q, s.heap.size ≤ q → A q) {q0 : Nat → Nat} {post : Mem → Prop} : ∀ (x1 : Int32) (x2 : Int32) (x3 : Int32) (m0 : Mem) (H : Heap) (locs : List Loc) (ls : Array Slot), va_P (dC, dI) vwCl (ww_X10 cI cJ q0 m0) H → va_D A (ww_X10 cI cJ q0 m0) → va_S A s.heap H locs → lv_has ls 4 [(0, .ref (q0 0)), (1, .int x1), (2, .int x2), (3, .int x3)] → b_X10_tellsGuest_0 post x1 x2 x3 m0 → W p l e ({ frames := 0, cells := 0, slots := 0, locals := 0 }) s m args below meth c H locs 0 0 (MQ below (va_Qv (S := Mem) (fun (u : Mem) => post u) (fun u t => AT (dC, dI) (TY cI cJ) A (ww_X10 cI cJ q0 u) t) A) args s 0 0 A) (F0 m 0 ls []) := by
  obtain ⟨hx, hb, hr, hml, hown, hts, hlocks, hK⟩ := id cx
  have cx' : CX RX10 cX10_tellsGuest (meth.sig.returnType) 4 p s m args meth c (dC, dI) (TY cI cJ) := ⟨hx, hb, rfl, hml, hown, hts, hlocks, hK⟩
  intro x1 x2 x3 m0 H locs ls hP hD hS hl h
  unfold b_X10_tellsGuest_0 at h
  refine lv_iload_n hx hb dX10_tellsGuest_0 rfl (lv_at hl 2 rfl) ?_
  refine lv_if_ne (tgt := 17) hx hb dX10_tellsGuest_1 (by decide) (fun c_1 => ?_) (fun c_1 => ?_)
  · have h := h.1 c_1
    refine lv_iload_n hx hb dX10_tellsGuest_17 rfl (lv_at hl 2 rfl) ?_
    refine lv_iconst (v := 1) hx hb dX10_tellsGuest_18 (by decide) ?_
    refine lv_icmp_ne (tgt := 35) hx hb dX10_tellsGuest_19 (by decide) (fun c_2 => ?_) (fun c_2 => ?_)
    · have h := h.1 c_2
      refine lv_iload_n hx hb dX10_tellsGuest_35 rfl (lv_at hl 2 rfl) ?_
      refine lv_iconst (v := 5) hx hb dX10_tellsGuest_36 (by decide) ?_
      refine lv_icmp_ge (tgt := 51) hx hb dX10_tellsGuest_37 (by decide) (fun c_3 => ?_) (fun c_3 => ?_)
      · have h := h.1 c_3
        exact rt_v (u := m0) cx hP hD hS h dX10_tellsGuest_51
      have h := h.2 c_3
      refine lv_aload_n hx hb dX10_tellsGuest_40 rfl (lv_at hl 0 rfl) ?_
      refine gf_v (k := 10) (v := .ref (q0 8)) cx' hP 0 i_X10 rfl rfl (by decide) kw_725 rfl rfl dX10_tellsGuest_41 ?_
      refine lv_iload_n hx hb dX10_tellsGuest_44 rfl (lv_at hl 1 rfl) ?_
      refine lv_iload_n hx hb dX10_tellsGuest_45 rfl (lv_at hl 2 rfl) ?_
      refine lv_iadd hx hb dX10_tellsGuest_46 ?_
      refine lv_iconst (v := 1) hx hb dX10_tellsGuest_47 (by decide) ?_
      refine lv_isub hx hb dX10_tellsGuest_48 ?_
      refine lv_iload_n hx hb dX10_tellsGuest_49 rfl (lv_at hl 3 rfl) ?_
      obtain ⟨m0_4, em0_4⟩ : ∃ z : Mem, z = up2 m0 8 (Int32.toNatClampNeg ((x1 + x2) - 1)) x3 := ⟨_, rfl⟩
      have h1 := h.1
      have h := h.2 m0_4 em0_4
      refine st_i hx hb hK hP hD hS 8 0 (ww_X10 cI cJ q0 m0_4) rfl rfl h1 dX10_tellsGuest_50 (by subst em0_4; rfl) (fun H locs hP hD hS => ?_)
      exact rt_v (u := m0_4) cx hP hD hS h dX10_tellsGuest_51
    have h := h.2 c_2
    refine lv_aload_n hx hb dX10_tellsGuest_22 rfl (lv_at hl 0 rfl) ?_
    refine gf_v (k := 10) (v := .ref (q0 8)) cx' hP 0 i_X10 rfl rfl (by decide) kw_725 rfl rfl dX10_tellsGuest_23 ?_
    refine lv_iload_n hx hb dX10_tellsGuest_26 rfl (lv_at hl 1 rfl) ?_
    refine lv_dup2_11 hx hb dX10_tellsGuest_27 rfl rfl ?_
    refine va_iald hx hb hK hP 8 0 rfl rfl h.1 dX10_tellsGuest_28 ?_
    have h := h.2
    refine lv_iload_n hx hb dX10_tellsGuest_29 rfl (lv_at hl 3 rfl) ?_
    refine lv_iadd hx hb dX10_tellsGuest_30 ?_
    obtain ⟨m0_5, em0_5⟩ : ∃ z : Mem, z = up2 m0 8 (Int32.toNatClampNeg x1) ((m0 8 (Int32.toNatClampNeg x1)) + x3) := ⟨_, rfl⟩
    have h1 := h.1
    have h := h.2 m0_5 em0_5
    refine st_i hx hb hK hP hD hS 8 0 (ww_X10 cI cJ q0 m0_5) rfl rfl h1 dX10_tellsGuest_31 (by subst em0_5; rfl) (fun H locs hP hD hS => ?_)
    refine lv_goto (tgt := 51) hx hb dX10_tellsGuest_32 (by decide) ?_
    exact rt_v (u := m0_5) cx hP hD hS h dX10_tellsGuest_51
  have h := h.2 c_1
  refine lv_aload_n hx hb dX10_tellsGuest_4 rfl (lv_at hl 0 rfl) ?_
  refine gf_v (k := 10) (v := .ref (q0 8)) cx' hP 0 i_X10 rfl rfl (by decide) kw_725 rfl rfl dX10_tellsGuest_5 ?_
  refine lv_iload_n hx hb dX10_tellsGuest_8 rfl (lv_at hl 1 rfl) ?_
  refine lv_bipush (v := 10) hx hb dX10_tellsGuest_9 (by decide) ?_
  refine lv_iload_n hx hb dX10_tellsGuest_11 rfl (lv_at hl 3 rfl) ?_
  refine lv_imul hx hb dX10_tellsGuest_12 ?_
  obtain ⟨m0_6, em0_6⟩ : ∃ z : Mem, z = up2 m0 8 (Int32.toNatClampNeg x1) (10 * x3) := ⟨_, rfl⟩
  have h1 := h.1
  have h := h.2 m0_6 em0_6
  refine st_i hx hb hK hP hD hS 8 0 (ww_X10 cI cJ q0 m0_6) rfl rfl h1 dX10_tellsGuest_13 (by subst em0_6; rfl) (fun H locs hP hD hS => ?_)
  refine lv_goto (tgt := 51) hx hb dX10_tellsGuest_14 (by decide) ?_
  exact rt_v (u := m0_6) cx hP hD hS h dX10_tellsGuest_51
set_option maxRecDepth 100000 in
theorem c_X10_tellsGuest (l : Launch) {dC : Nat → ClassId} {dI : Nat → Nat → Nat} {cI cJ : ClassId} (sz : Nat) (q0 : Nat → Nat) (m0 : Mem) (x1 : Int32) (x2 : Int32) (x3 : Int32) (post : Mem → Prop) (h : wp_X10_tellsGuest m0 x1 x2 x3 post) : Met l yX10_tellsGuest (Cond.code yX10_tellsGuest cX10_tellsGuest 4 none :: gt) ({ frames := 0, cells := 0, slots := 0, locals := 0 }) (va_Pc [.ref (q0 0), .int x1, .int x2, .int x3] (PRE (dC, dI) (TY cI cJ) (ww_X10 cI cJ q0 m0) sz)) (va_Qv (S := Mem) (fun (u : Mem) => post u) (fun u t => AT (dC, dI) (TY cI cJ) (va_A (ww_X10 cI cJ q0 m0) sz) (ww_X10 cI cJ q0 u) t) (va_A (ww_X10 cI cJ q0 m0) sz)) 0 0 (va_A (ww_X10 cI cJ q0 m0) sz) :=
  met_of (own := RX10) (Qf := fun A => va_Qv (S := Mem) (fun (u : Mem) => post u) (fun u t => AT (dC, dI) (TY cI cJ) A (ww_X10 cI cJ q0 u) t) A) (by decide) rfl (Nat.le_of_ble_eq_true rfl) rfl (fun p e s m below meth c A cx hA ls hP hD hS hl => w_X10_tellsGuest_0 cx hA x1 x2 x3 m0 _ _ ls hP hD hS hl h)
theorem mv_X10_tellsGuest : MV yX10_tellsGuest cX10_tellsGuest 4 none 3 := ⟨⟨kw_868, kw_11, by decide +kernel⟩, kw_867, ksel_24⟩
