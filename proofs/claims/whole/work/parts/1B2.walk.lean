set_option maxHeartbeats 4000000 in
set_option maxRecDepth 100000 in
theorem w_X9_ask_50 {p : Program} {l : Launch} {e : Env} {s : State} {m : MethodId} {args : Array Value} {below : List Frame} {meth : Method} {c : Code} {dC : Nat → ClassId} {dI : Nat → Nat → Nat} {cI cJ : ClassId} {A : Nat → Prop} (cx : CX RX9 cX9_ask (some .int) 6 p s m args meth c (dC, dI) (TY cI cJ)) (hA : ∀ q, s.heap.size ≤ q → A q) {qa : Nat → Nat → Nat} {C : (Nat → Mem)} {L : MemL} {post : Int32 → Prop} {k12 : Int32 → Int32 → Int32 → Int32 → Prop} (hk12 : ∀ (x1 : Int32) (x2 : Int32) (x3 : Int32) (x4 : Int32) (H : Heap) (locs : List Loc) (ls : Array Slot), va_P (dC, dI) vwCl (wC cI cJ qa C L) H → va_D A (wC cI cJ qa C L) → va_S A s.heap H locs → lv_has ls 6 [(0, .ref (qa 0 0)), (1, .int x1), (2, .int x2), (3, .int x3), (4, .int x4)] → k12 x1 x2 x3 x4 → W p l e ({ frames := 3, cells := 0, slots := 0, locals := 71 }) s m args below meth c H locs 0 0 (MQ below (va_Qi (S := Unit) (fun (r : Int32) (_u : Unit) => post r) (fun _u t => AT (dC, dI) (TY cI cJ) A (wC cI cJ qa C L) t) A) args s 0 0 A) (F0 m 12 ls [])) : ∀ (x1 : Int32) (x2 : Int32) (x3 : Int32) (x4 : Int32) (H : Heap) (locs : List Loc) (ls : Array Slot), va_P (dC, dI) vwCl (wC cI cJ qa C L) H → va_D A (wC cI cJ qa C L) → va_S A s.heap H locs → lv_has ls 6 [(0, .ref (qa 0 0)), (1, .int x1), (2, .int x2), (3, .int x3), (4, .int x4)] → b_X9_ask_50 C L post k12 x1 x2 x3 x4 → W p l e ({ frames := 3, cells := 0, slots := 0, locals := 71 }) s m args below meth c H locs 0 0 (MQ below (va_Qi (S := Unit) (fun (r : Int32) (_u : Unit) => post r) (fun _u t => AT (dC, dI) (TY cI cJ) A (wC cI cJ qa C L) t) A) args s 0 0 A) (F0 m 50 ls []) := by
  obtain ⟨hx, hb, hr, hml, hown, hts, hlocks, hK⟩ := id cx
  have cx' : CX RX9 cX9_ask (meth.sig.returnType) 6 p s m args meth c (dC, dI) (TY cI cJ) := ⟨hx, hb, rfl, hml, hown, hts, hlocks, hK⟩
  intro x1 x2 x3 x4 H locs ls hP hD hS hl h
  unfold b_X9_ask_50 at h
  obtain ⟨x4_1, ex4_1⟩ : ∃ z : Int32, z = x4 + 1 := ⟨_, rfl⟩
  have h := h x4_1 ex4_1
  refine lv_iinc (v := x4_1) (lv' := [(4, .int x4_1), (0, .ref (qa 0 0)), (1, .int x1), (2, .int x2), (3, .int x3)]) hx hb dX9_ask_50 hl (k := 4) rfl (by rw [ex4_1]; rfl) (by decide) rfl (fun ls hl => ?_)
  refine lv_goto (tgt := 12) hx hb dX9_ask_53 (by decide) ?_
  exact hk12 x1 x2 x3 x4_1 H locs ls hP hD hS (lv_sub hl [1, 2, 3, 4, 0] rfl) h
set_option maxHeartbeats 4000000 in
set_option maxRecDepth 100000 in
theorem w_X9_ask_44 {p : Program} {l : Launch} {e : Env} {s : State} {m : MethodId} {args : Array Value} {below : List Frame} {meth : Method} {c : Code} {dC : Nat → ClassId} {dI : Nat → Nat → Nat} {cI cJ : ClassId} {A : Nat → Prop} (cx : CX RX9 cX9_ask (some .int) 6 p s m args meth c (dC, dI) (TY cI cJ)) (hA : ∀ q, s.heap.size ≤ q → A q) {qa : Nat → Nat → Nat} {C : (Nat → Mem)} {L : MemL} {post : Int32 → Prop} {k12 : Int32 → Int32 → Int32 → Int32 → Prop} (hk12 : ∀ (x1 : Int32) (x2 : Int32) (x3 : Int32) (x4 : Int32) (H : Heap) (locs : List Loc) (ls : Array Slot), va_P (dC, dI) vwCl (wC cI cJ qa C L) H → va_D A (wC cI cJ qa C L) → va_S A s.heap H locs → lv_has ls 6 [(0, .ref (qa 0 0)), (1, .int x1), (2, .int x2), (3, .int x3), (4, .int x4)] → k12 x1 x2 x3 x4 → W p l e ({ frames := 3, cells := 0, slots := 0, locals := 71 }) s m args below meth c H locs 0 0 (MQ below (va_Qi (S := Unit) (fun (r : Int32) (_u : Unit) => post r) (fun _u t => AT (dC, dI) (TY cI cJ) A (wC cI cJ qa C L) t) A) args s 0 0 A) (F0 m 12 ls [])) : ∀ (x1 : Int32) (x4 : Int32) (x5 : Int32) (H : Heap) (locs : List Loc) (ls : Array Slot), va_P (dC, dI) vwCl (wC cI cJ qa C L) H → va_D A (wC cI cJ qa C L) → va_S A s.heap H locs → lv_has ls 6 [(0, .ref (qa 0 0)), (1, .int x1), (4, .int x4), (5, .int x5)] → b_X9_ask_44 C L post k12 x1 x4 x5 → W p l e ({ frames := 3, cells := 0, slots := 0, locals := 71 }) s m args below meth c H locs 0 0 (MQ below (va_Qi (S := Unit) (fun (r : Int32) (_u : Unit) => post r) (fun _u t => AT (dC, dI) (TY cI cJ) A (wC cI cJ qa C L) t) A) args s 0 0 A) (F0 m 44 ls []) := by
  obtain ⟨hx, hb, hr, hml, hown, hts, hlocks, hK⟩ := id cx
  have cx' : CX RX9 cX9_ask (meth.sig.returnType) 6 p s m args meth c (dC, dI) (TY cI cJ) := ⟨hx, hb, rfl, hml, hown, hts, hlocks, hK⟩
  intro x1 x4 x5 H locs ls hP hD hS hl h
  unfold b_X9_ask_44 at h
  refine lv_iload hx hb dX9_ask_44 (lv_at hl 2 rfl) ?_
  refine lv_istore_n (lv' := [(2, .int x4), (0, .ref (qa 0 0)), (1, .int x1), (4, .int x4), (5, .int x5)]) hx hb dX9_ask_46 rfl hl (by decide) rfl (fun ls hl => ?_)
  refine lv_iload hx hb dX9_ask_47 (lv_at hl 4 rfl) ?_
  refine lv_istore_n (lv' := [(3, .int x5), (2, .int x4), (0, .ref (qa 0 0)), (1, .int x1), (4, .int x4), (5, .int x5)]) hx hb dX9_ask_49 rfl hl (by decide) rfl (fun ls hl => ?_)
  exact w_X9_ask_50 cx hA hk12 x1 x4 x5 x4 H locs ls hP hD hS (lv_sub hl [2, 3, 1, 0, 4] rfl) h
set_option maxHeartbeats 4000000 in
set_option maxRecDepth 100000 in
theorem w_X9_ask_12 {p : Program} {l : Launch} {e : Env} {s : State} {m : MethodId} {args : Array Value} {below : List Frame} {meth : Method} {c : Code} {dC : Nat → ClassId} {dI : Nat → Nat → Nat} {cI cJ : ClassId} {A : Nat → Prop} (cx : CX RX9 cX9_ask (some .int) 6 p s m args meth c (dC, dI) (TY cI cJ)) (hA : ∀ q, s.heap.size ≤ q → A q) {qa : Nat → Nat → Nat} {C : (Nat → Mem)} {L : MemL} {post : Int32 → Prop} : ∀ (n : Nat) (x1 : Int32) (x2 : Int32) (x3 : Int32) (x4 : Int32) (H : Heap) (locs : List Loc) (ls : Array Slot), va_P (dC, dI) vwCl (wC cI cJ qa C L) H → va_D A (wC cI cJ qa C L) → va_S A s.heap H locs → lv_has ls 6 [(0, .ref (qa 0 0)), (1, .int x1), (2, .int x2), (3, .int x3), (4, .int x4)] → b_X9_ask_12 C L post n x1 x2 x3 x4 → W p l e ({ frames := 3, cells := 0, slots := 0, locals := 71 }) s m args below meth c H locs 0 0 (MQ below (va_Qi (S := Unit) (fun (r : Int32) (_u : Unit) => post r) (fun _u t => AT (dC, dI) (TY cI cJ) A (wC cI cJ qa C L) t) A) args s 0 0 A) (F0 m 12 ls []) := by
  obtain ⟨hx, hb, hr, hml, hown, hts, hlocks, hK⟩ := id cx
  have cx' : CX RX9 cX9_ask (meth.sig.returnType) 6 p s m args meth c (dC, dI) (TY cI cJ) := ⟨hx, hb, rfl, hml, hown, hts, hlocks, hK⟩
  intro n
  induction n with
  | zero =>
    intro x1 x2 x3 x4 H locs ls hP hD hS hl h
    exact False.elim h
  | succ n ih =>
    intro x1 x2 x3 x4 H locs ls hP hD hS hl h
    unfold b_X9_ask_12 at h
    refine lv_iload hx hb dX9_ask_12 (lv_at hl 4 rfl) ?_
    refine lv_aload_n hx hb dX9_ask_14 rfl (lv_at hl 0 rfl) ?_
    refine gf_v (k := 2) (v := .ref (qa 3 0)) cx' hP 0 i_X9 rfl rfl (by decide) kw_266 rfl rfl dX9_ask_15 ?_
    refine gf_v (k := 4) (v := .int (C 3 0 4)) cx' hP 5 i_X4 rfl rfl (by decide) kw_64 rfl rfl dX9_ask_18 ?_
    refine lv_icmp_ge (tgt := 56) hx hb dX9_ask_21 (by decide) (fun c_1 => ?_) (fun c_1 => ?_)
    · have h := h.1 c_1
      refine lv_iload_n hx hb dX9_ask_56 rfl (lv_at hl 2 rfl) ?_
      exact rt_i (v := x2) (u := ()) cx hP hD hS h dX9_ask_57
    have h := h.2 c_1
    refine lv_aload_n hx hb dX9_ask_24 rfl (lv_at hl 0 rfl) ?_
    refine lv_iload hx hb dX9_ask_25 (lv_at hl 4 rfl) ?_
    refine lv_iload_n hx hb dX9_ask_27 rfl (lv_at hl 1 rfl) ?_
    refine call_i (run_V (As := [.int x4, .int x1]) (rest := []) cx' (c_X9_mostAlike l H.size qa C L x4 x1 _ h) mv_X9_mostAlike kw_570 rfl rfl ⟨Nat.le_of_ble_eq_true rfl, Nat.le_of_ble_eq_true rfl⟩ hP hD rfl rfl rfl hl.1 rfl (Nat.le_of_ble_eq_true rfl) dX9_ask_28 ⟨Nat.zero_le _, Nat.zero_le _⟩) hD hS hA (fun r_2 u9 H locs hP hD hS h => ?_)
    have hP : va_P (dC, dI) vwCl (wC cI cJ qa C L) H := hP
    have hD : va_D A (wC cI cJ qa C L) := hD
    refine lv_istore (lv' := [(5, .int r_2), (0, .ref (qa 0 0)), (1, .int x1), (2, .int x2), (3, .int x3), (4, .int x4)]) hx hb dX9_ask_31 hl (by decide) rfl (fun ls hl => ?_)
    refine lv_iload_n hx hb dX9_ask_33 rfl (lv_at hl 3 rfl) ?_
    refine lv_iconst (v := (-1)) hx hb dX9_ask_34 (by decide) ?_
    refine lv_icmp_eq (tgt := 44) hx hb dX9_ask_35 (by decide) (fun c_3 => ?_) (fun c_3 => ?_)
    · have h := h.1 c_3
      exact w_X9_ask_44 cx hA ih x1 x4 r_2 H locs ls hP hD hS (lv_sub hl [1, 2, 5, 0] rfl) h
    have h := h.2 c_3
    refine lv_iload hx hb dX9_ask_38 (lv_at hl 0 rfl) ?_
    refine lv_iload_n hx hb dX9_ask_40 rfl (lv_at hl 4 rfl) ?_
    refine lv_icmp_ge (tgt := 50) hx hb dX9_ask_41 (by decide) (fun c_4 => ?_) (fun c_4 => ?_)
    · have h := h.1 c_4
      exact w_X9_ask_50 cx hA ih x1 x2 x3 x4 H locs ls hP hD hS (lv_sub hl [1, 2, 3, 4, 5] rfl) h
    have h := h.2 c_4
    exact w_X9_ask_44 cx hA ih x1 x4 r_2 H locs ls hP hD hS (lv_sub hl [1, 2, 5, 0] rfl) h
set_option maxHeartbeats 4000000 in
set_option maxRecDepth 100000 in
theorem w_X9_ask_0 {p : Program} {l : Launch} {e : Env} {s : State} {m : MethodId} {args : Array Value} {below : List Frame} {meth : Method} {c : Code} {dC : Nat → ClassId} {dI : Nat → Nat → Nat} {cI cJ : ClassId} {A : Nat → Prop} (cx : CX RX9 cX9_ask (some .int) 6 p s m args meth c (dC, dI) (TY cI cJ)) (hA : ∀ q, s.heap.size ≤ q → A q) {qa : Nat → Nat → Nat} {C : (Nat → Mem)} {L : MemL} {post : Int32 → Prop} : ∀  (H : Heap) (locs : List Loc) (ls : Array Slot), va_P (dC, dI) vwCl (wC cI cJ qa C L) H → va_D A (wC cI cJ qa C L) → va_S A s.heap H locs → lv_has ls 6 [(0, .ref (qa 0 0))] → b_X9_ask_0 C L post  → W p l e ({ frames := 3, cells := 0, slots := 0, locals := 71 }) s m args below meth c H locs 0 0 (MQ below (va_Qi (S := Unit) (fun (r : Int32) (_u : Unit) => post r) (fun _u t => AT (dC, dI) (TY cI cJ) A (wC cI cJ qa C L) t) A) args s 0 0 A) (F0 m 0 ls []) := by
  obtain ⟨hx, hb, hr, hml, hown, hts, hlocks, hK⟩ := id cx
  have cx' : CX RX9 cX9_ask (meth.sig.returnType) 6 p s m args meth c (dC, dI) (TY cI cJ) := ⟨hx, hb, rfl, hml, hown, hts, hlocks, hK⟩
  intro H locs ls hP hD hS hl h
  unfold b_X9_ask_0 at h
  refine lv_aload_n hx hb dX9_ask_0 rfl (lv_at hl 0 rfl) ?_
  refine call_i (run_V (As := []) (rest := []) cx' (c_X9_twice l H.size qa C L _ h) mv_X9_twice kw_569 rfl rfl ⟨Nat.le_of_ble_eq_true rfl, Nat.le_of_ble_eq_true rfl⟩ hP hD rfl rfl rfl hl.1 rfl (Nat.le_of_ble_eq_true rfl) dX9_ask_1 ⟨Nat.zero_le _, Nat.zero_le _⟩) hD hS hA (fun r_1 u9 H locs hP hD hS h => ?_)
  have hP : va_P (dC, dI) vwCl (wC cI cJ qa C L) H := hP
  have hD : va_D A (wC cI cJ qa C L) := hD
  refine lv_istore_n (lv' := [(1, .int r_1), (0, .ref (qa 0 0))]) hx hb dX9_ask_4 rfl hl (by decide) rfl (fun ls hl => ?_)
  refine lv_iconst (v := (-1)) hx hb dX9_ask_5 (by decide) ?_
  refine lv_istore_n (lv' := [(2, .int (-1)), (1, .int r_1), (0, .ref (qa 0 0))]) hx hb dX9_ask_6 rfl hl (by decide) rfl (fun ls hl => ?_)
  refine lv_iconst (v := 0) hx hb dX9_ask_7 (by decide) ?_
  refine lv_istore_n (lv' := [(3, .int 0), (2, .int (-1)), (1, .int r_1), (0, .ref (qa 0 0))]) hx hb dX9_ask_8 rfl hl (by decide) rfl (fun ls hl => ?_)
  refine lv_iconst (v := 0) hx hb dX9_ask_9 (by decide) ?_
  refine lv_istore (lv' := [(4, .int 0), (3, .int 0), (2, .int (-1)), (1, .int r_1), (0, .ref (qa 0 0))]) hx hb dX9_ask_10 hl (by decide) rfl (fun ls hl => ?_)
  obtain ⟨n_2, h⟩ := h
  exact w_X9_ask_12 cx hA n_2 r_1 (-1) 0 0 H locs ls hP hD hS (lv_sub hl [4, 3, 2, 1, 0] rfl) h
set_option maxRecDepth 100000 in
theorem c_X9_ask (l : Launch) {dC : Nat → ClassId} {dI : Nat → Nat → Nat} {cI cJ : ClassId} (sz : Nat) (qa : Nat → Nat → Nat) (C : Nat → Mem) (L : MemL) (post : Int32 → Prop) (h : wp_X9_ask C L post) : Met l yX9_ask (Cond.code yX9_ask cX9_ask 6 (some .int) :: gt) ({ frames := 3, cells := 0, slots := 0, locals := 71 }) (va_Pc [.ref (qa 0 0)] (PRE (dC, dI) (TY cI cJ) (wC cI cJ qa C L) sz)) (va_Qi (S := Unit) (fun (r : Int32) (_u : Unit) => post r) (fun _u t => AT (dC, dI) (TY cI cJ) (va_A (wC cI cJ qa C L) sz) (wC cI cJ qa C L) t) (va_A (wC cI cJ qa C L) sz)) 0 0 (va_A (wC cI cJ qa C L) sz) :=
  met_of (own := RX9) (Qf := fun A => va_Qi (S := Unit) (fun (r : Int32) (_u : Unit) => post r) (fun _u t => AT (dC, dI) (TY cI cJ) A (wC cI cJ qa C L) t) A) (by decide) rfl (Nat.le_of_ble_eq_true rfl) rfl (fun p e s m below meth c A cx hA ls hP hD hS hl => w_X9_ask_0 cx hA  _ _ ls hP hD hS hl h)
theorem mv_X9_ask : MV yX9_ask cX9_ask 6 (some .int) 0 := ⟨⟨kw_568, kw_1, by decide +kernel⟩, kw_566, kw_567⟩
set_option maxHeartbeats 4000000 in
set_option maxRecDepth 100000 in
theorem w_X9_road_0 {p : Program} {l : Launch} {e : Env} {s : State} {m : MethodId} {args : Array Value} {below : List Frame} {meth : Method} {c : Code} {dC : Nat → ClassId} {dI : Nat → Nat → Nat} {cI cJ : ClassId} {A : Nat → Prop} (cx : CX RX9 cX9_road (some .long) 5 p s m args meth c (dC, dI) (TY cI cJ)) (hA : ∀ q, s.heap.size ≤ q → A q) {qa : Nat → Nat → Nat} {post : Int64 → (Nat → Mem) → MemL → Prop} : ∀ (x1 : Int32) (x2 : Int32) (x3 : Int32) (x4 : Int32) (C : (Nat → Mem)) (L : MemL) (H : Heap) (locs : List Loc) (ls : Array Slot), va_P (dC, dI) vwCl (wC cI cJ qa C L) H → va_D A (wC cI cJ qa C L) → va_S A s.heap H locs → lv_has ls 5 [(0, .ref (qa 0 0)), (1, .int x1), (2, .int x2), (3, .int x3), (4, .int x4)] → b_X9_road_0 post x1 x2 x3 x4 C L → W p l e ({ frames := 2, cells := 0, slots := 0, locals := 51 }) s m args below meth c H locs 0 0 (MQ below (va_Ql (S := (Nat → Mem) × MemL) (fun (r : Int64) (u : (Nat → Mem) × MemL) => post r u.1 u.2) (fun u t => AT (dC, dI) (TY cI cJ) A (wC cI cJ qa (u.1) (u.2)) t) A) args s 0 0 A) (F0 m 0 ls []) := by
  obtain ⟨hx, hb, hr, hml, hown, hts, hlocks, hK⟩ := id cx
  have cx' : CX RX9 cX9_road (meth.sig.returnType) 5 p s m args meth c (dC, dI) (TY cI cJ) := ⟨hx, hb, rfl, hml, hown, hts, hlocks, hK⟩
  intro x1 x2 x3 x4 C L H locs ls hP hD hS hl h
  unfold b_X9_road_0 at h
  refine lv_iload_n hx hb dX9_road_0 rfl (lv_at hl 1 rfl) ?_
  refine lv_if_lt (tgt := 37) hx hb dX9_road_1 (by decide) (fun c_1 => ?_) (fun c_1 => ?_)
  · have h := h.1 c_1
    refine lv_ldc2 hx hb hown (hts _ kw_585) dX9_road_37 ?_
    exact rt_l (v := (-9223372036854775806)) (u := (C, L)) cx hP hD hS h dX9_road_40
  have h := h.2 c_1
  refine lv_iload_n hx hb dX9_road_4 rfl (lv_at hl 1 rfl) ?_
  refine lv_bipush (v := 16) hx hb dX9_road_5 (by decide) ?_
  refine lv_icmp_gt (tgt := 37) hx hb dX9_road_7 (by decide) (fun c_2 => ?_) (fun c_2 => ?_)
  · have h := h.1 c_2
    refine lv_ldc2 hx hb hown (hts _ kw_585) dX9_road_37 ?_
    exact rt_l (v := (-9223372036854775806)) (u := (C, L)) cx hP hD hS h dX9_road_40
  have h := h.2 c_2
  refine lv_aload_n hx hb dX9_road_10 rfl (lv_at hl 0 rfl) ?_
  refine lv_iload_n hx hb dX9_road_11 rfl (lv_at hl 2 rfl) ?_
  refine call_i (run_V (As := [.int x2]) (rest := []) cx' (c_X9_isHouse l H.size qa C L x2 _ h) mv_X9_isHouse kw_403 rfl rfl ⟨Nat.le_of_ble_eq_true rfl, Nat.le_of_ble_eq_true rfl⟩ hP hD rfl rfl rfl hl.1 rfl (Nat.le_of_ble_eq_true rfl) dX9_road_12 ⟨Nat.zero_le _, Nat.zero_le _⟩) hD hS hA (fun r_3 u9 H locs hP hD hS h => ?_)
  have hP : va_P (dC, dI) vwCl (wC cI cJ qa C L) H := hP
  have hD : va_D A (wC cI cJ qa C L) := hD
  refine lv_if_eq (tgt := 37) hx hb dX9_road_15 (by decide) (fun c_4 => ?_) (fun c_4 => ?_)
  · have h := h.1 c_4
    refine lv_ldc2 hx hb hown (hts _ kw_585) dX9_road_37 ?_
    exact rt_l (v := (-9223372036854775806)) (u := (C, L)) cx hP hD hS h dX9_road_40
  have h := h.2 c_4
  refine lv_iload_n hx hb dX9_road_18 rfl (lv_at hl 3 rfl) ?_
  refine lv_if_lt (tgt := 37) hx hb dX9_road_19 (by decide) (fun c_5 => ?_) (fun c_5 => ?_)
  · have h := h.1 c_5
    refine lv_ldc2 hx hb hown (hts _ kw_585) dX9_road_37 ?_
    exact rt_l (v := (-9223372036854775806)) (u := (C, L)) cx hP hD hS h dX9_road_40
  have h := h.2 c_5
  refine lv_iload_n hx hb dX9_road_22 rfl (lv_at hl 3 rfl) ?_
  refine lv_sipush (v := 999) hx hb dX9_road_23 (by decide) ?_
  refine lv_icmp_gt (tgt := 37) hx hb dX9_road_26 (by decide) (fun c_6 => ?_) (fun c_6 => ?_)
  · have h := h.1 c_6
    refine lv_ldc2 hx hb hown (hts _ kw_585) dX9_road_37 ?_
    exact rt_l (v := (-9223372036854775806)) (u := (C, L)) cx hP hD hS h dX9_road_40
  have h := h.2 c_6
  refine lv_iload hx hb dX9_road_29 (lv_at hl 4 rfl) ?_
  refine callN_i (run_S (As := [.int x4]) (rest := []) (wc := []) cx' (c_X9_isBit l H.size x4 _ h) ms_X9_isBit kw_305 rfl rfl ⟨Nat.le_of_ble_eq_true rfl, Nat.le_of_ble_eq_true rfl⟩ nilP nilD (A := A) rfl hl.1 rfl (Nat.le_of_ble_eq_true rfl) dX9_road_31 ⟨Nat.zero_le _, Nat.zero_le _⟩) hP hS hA (fun r_7 H locs hP hS h => ?_)
  refine lv_if_ne (tgt := 41) hx hb dX9_road_34 (by decide) (fun c_8 => ?_) (fun c_8 => ?_)
  · have h := h.1 c_8
    refine lv_aload_n hx hb dX9_road_41 rfl (lv_at hl 0 rfl) ?_
    refine gf_v (k := 7) (v := .ref (qa 8 0)) cx' hP 0 i_X9 rfl rfl (by decide) kw_271 rfl rfl dX9_road_42 ?_
    refine lv_iload_n hx hb dX9_road_45 rfl (lv_at hl 1 rfl) ?_
    refine lv_aload_n hx hb dX9_road_46 rfl (lv_at hl 0 rfl) ?_
    refine gf_v (k := 4) (v := .ref (qa 5 0)) cx' hP 0 i_X9 rfl rfl (by decide) kw_268 rfl rfl dX9_road_47 ?_
    refine lv_iload_n hx hb dX9_road_50 rfl (lv_at hl 2 rfl) ?_
    refine lv_aload_n hx hb dX9_road_51 rfl (lv_at hl 0 rfl) ?_
    refine gf_v (k := 3) (v := .ref (qa 4 0)) cx' hP 0 i_X9 rfl rfl (by decide) kw_267 rfl rfl dX9_road_52 ?_
    refine gf_v (k := 4) (v := .int (C 4 0 4)) cx' hP 10 i_X2 rfl rfl (by decide) kw_104 rfl rfl dX9_road_55 ?_
    refine lv_iload_n hx hb dX9_road_58 rfl (lv_at hl 3 rfl) ?_
    refine callP_v (wc := ww_X0_X1 cI cJ (qa 8) L (qa 5) (C 5)) (wr_C_5_8 cI cJ qa C L) (fun (u : MemL) => wC cI cJ qa C u) [30, 31, 15, 16, 17, 18, 19, 20, 21, 22] [0, 1, 2, 3, 4, 5, 6, 7, 8, 9, 10, 11, 12, 13, 14, 23, 24, 25, 26, 27, 28, 29, 32, 33, 34, 35, 36, 37, 38, 39] [0, 1, 2, 3, 4, 5, 6, 7, 8, 9, 10, 11, 12, 13, 14, 32, 33, 34, 35, 36, 37, 38, 39, 15, 16, 17, 18, 19, 20, 21, 30, 31, 22, 23, 24, 25, 26, 27, 28, 29] rfl rfl rfl (by decide) (fun _ => rfl) rfl hP hD hS hA (fun hPc hDc => run_V (As := [.int x1, .ref (qa 5 0), .int x2, .int (C 4 0 4), .int x3]) (rest := []) cx' (c_X0_reckon l H.size (qa 8) L (qa 5) (C 5) x1 x2 (C 4 0 4) x3 _ h) mv_X0_reckon kw_586 rfl rfl ⟨Nat.le_of_ble_eq_true rfl, Nat.le_of_ble_eq_true rfl⟩ hPc hDc rfl rfl rfl hl.1 rfl (Nat.le_of_ble_eq_true rfl) dX9_road_59 ⟨Nat.zero_le _, Nat.zero_le _⟩) rfl (fun u9 H locs hP hD hS h => ?_)
    obtain ⟨L_9, rfl⟩ : ∃ z, z = u9 := ⟨_, rfl⟩
    have hP : va_P (dC, dI) vwCl (wC cI cJ qa C L_9) H := hP
    have hD : va_D A (wC cI cJ qa C L_9) := hD
    refine lv_iload hx hb dX9_road_62 (lv_at hl 4 rfl) ?_
    refine dia_l (ls := ls) (c0 := x4 = 0) (a := L_9 0 1) (b := L_9 0 2) (J := 84) (rest := []) (fun K => ?_) (fun v_11 ev_11 => ?_)
    · refine lv_if_ne (tgt := 77) hx hb dX9_road_64 (by decide) (fun c_10 => ?_) (fun c_10 => ?_)
      · refine lv_aload_n hx hb dX9_road_77 rfl (lv_at hl 0 rfl) ?_
        refine gf_v (k := 7) (v := .ref (qa 8 0)) cx' hP 0 i_X9 rfl rfl (by decide) kw_271 rfl rfl dX9_road_78 ?_
        refine gf_v (k := 2) (v := .long (L_9 0 2)) cx' hP 30 i_X0 rfl rfl (by decide) kw_201 rfl rfl dX9_road_81 ?_
        exact K _ (Or.inr ⟨c_10, rfl⟩)
      · refine lv_aload_n hx hb dX9_road_67 rfl (lv_at hl 0 rfl) ?_
        refine gf_v (k := 7) (v := .ref (qa 8 0)) cx' hP 0 i_X9 rfl rfl (by decide) kw_271 rfl rfl dX9_road_68 ?_
        refine gf_v (k := 1) (v := .long (L_9 0 1)) cx' hP 30 i_X0 rfl rfl (by decide) kw_199 rfl rfl dX9_road_71 ?_
        refine lv_goto (tgt := 84) hx hb dX9_road_74 (by decide) ?_
        exact K _ (Or.inl ⟨c_10, rfl⟩)
    have h := h v_11 ev_11
    exact rt_l (v := v_11) (u := (C, L_9)) cx hP hD hS h dX9_road_84
  have h := h.2 c_8
  refine lv_ldc2 hx hb hown (hts _ kw_585) dX9_road_37 ?_
  exact rt_l (v := (-9223372036854775806)) (u := (C, L)) cx hP hD hS h dX9_road_40
set_option maxRecDepth 100000 in
theorem c_X9_road (l : Launch) {dC : Nat → ClassId} {dI : Nat → Nat → Nat} {cI cJ : ClassId} (sz : Nat) (qa : Nat → Nat → Nat) (C : Nat → Mem) (L : MemL) (x1 : Int32) (x2 : Int32) (x3 : Int32) (x4 : Int32) (post : Int64 → (Nat → Mem) → MemL → Prop) (h : wp_X9_road C L x1 x2 x3 x4 post) : Met l yX9_road (Cond.code yX9_road cX9_road 5 (some .long) :: gt) ({ frames := 2, cells := 0, slots := 0, locals := 51 }) (va_Pc [.ref (qa 0 0), .int x1, .int x2, .int x3, .int x4] (PRE (dC, dI) (TY cI cJ) (wC cI cJ qa C L) sz)) (va_Ql (S := (Nat → Mem) × MemL) (fun (r : Int64) (u : (Nat → Mem) × MemL) => post r u.1 u.2) (fun u t => AT (dC, dI) (TY cI cJ) (va_A (wC cI cJ qa C L) sz) (wC cI cJ qa (u.1) (u.2)) t) (va_A (wC cI cJ qa C L) sz)) 0 0 (va_A (wC cI cJ qa C L) sz) :=
  met_of (own := RX9) (Qf := fun A => va_Ql (S := (Nat → Mem) × MemL) (fun (r : Int64) (u : (Nat → Mem) × MemL) => post r u.1 u.2) (fun u t => AT (dC, dI) (TY cI cJ) A (wC cI cJ qa (u.1) (u.2)) t) A) (by decide) rfl (Nat.le_of_ble_eq_true rfl) rfl (fun p e s m below meth c A cx hA ls hP hD hS hl => w_X9_road_0 cx hA x1 x2 x3 x4 C L _ _ ls hP hD hS hl h)
theorem mv_X9_road : MV yX9_road cX9_road 5 (some .long) 4 := ⟨⟨kw_584, kw_1, by decide +kernel⟩, kw_582, kw_583⟩
set_option maxHeartbeats 4000000 in
set_option maxRecDepth 100000 in
theorem w_X9_season_123 {p : Program} {l : Launch} {e : Env} {s : State} {m : MethodId} {args : Array Value} {below : List Frame} {meth : Method} {c : Code} {dC : Nat → ClassId} {dI : Nat → Nat → Nat} {cI cJ : ClassId} {A : Nat → Prop} (cx : CX RX9 cX9_season (some .int) 9 p s m args meth c (dC, dI) (TY cI cJ)) (hA : ∀ q, s.heap.size ≤ q → A q) {qa : Nat → Nat → Nat} {C : (Nat → Mem)} {L : MemL} {post : Int32 → Prop} {k51 : Int32 → Int32 → Int32 → Int32 → Int32 → Int32 → Prop} (hk51 : ∀ (x2 : Int32) (x3 : Int32) (x4 : Int32) (x5 : Int32) (x6 : Int32) (x7 : Int32) (H : Heap) (locs : List Loc) (ls : Array Slot), va_P (dC, dI) vwCl (wC cI cJ qa C L) H → va_D A (wC cI cJ qa C L) → va_S A s.heap H locs → lv_has ls 9 [(0, .ref (qa 0 0)), (2, .int x2), (3, .int x3), (4, .int x4), (5, .int x5), (6, .int x6), (7, .int x7)] → k51 x2 x3 x4 x5 x6 x7 → W p l e ({ frames := 1, cells := 0, slots := 0, locals := 22 }) s m args below meth c H locs 0 0 (MQ below (va_Qi (S := Unit) (fun (r : Int32) (_u : Unit) => post r) (fun _u t => AT (dC, dI) (TY cI cJ) A (wC cI cJ qa C L) t) A) args s 0 0 A) (F0 m 51 ls [])) : ∀ (x2 : Int32) (x3 : Int32) (x4 : Int32) (x5 : Int32) (x6 : Int32) (x7 : Int32) (H : Heap) (locs : List Loc) (ls : Array Slot), va_P (dC, dI) vwCl (wC cI cJ qa C L) H → va_D A (wC cI cJ qa C L) → va_S A s.heap H locs → lv_has ls 9 [(0, .ref (qa 0 0)), (2, .int x2), (3, .int x3), (4, .int x4), (5, .int x5), (6, .int x6), (7, .int x7)] → b_X9_season_123 C L post k51 x2 x3 x4 x5 x6 x7 → W p l e ({ frames := 1, cells := 0, slots := 0, locals := 22 }) s m args below meth c H locs 0 0 (MQ below (va_Qi (S := Unit) (fun (r : Int32) (_u : Unit) => post r) (fun _u t => AT (dC, dI) (TY cI cJ) A (wC cI cJ qa C L) t) A) args s 0 0 A) (F0 m 123 ls []) := by
  obtain ⟨hx, hb, hr, hml, hown, hts, hlocks, hK⟩ := id cx
  have cx' : CX RX9 cX9_season (meth.sig.returnType) 9 p s m args meth c (dC, dI) (TY cI cJ) := ⟨hx, hb, rfl, hml, hown, hts, hlocks, hK⟩
  intro x2 x3 x4 x5 x6 x7 H locs ls hP hD hS hl h
  unfold b_X9_season_123 at h
  obtain ⟨x7_1, ex7_1⟩ : ∃ z : Int32, z = x7 + 1 := ⟨_, rfl⟩
  have h := h x7_1 ex7_1
  refine lv_iinc (v := x7_1) (lv' := [(7, .int x7_1), (0, .ref (qa 0 0)), (2, .int x2), (3, .int x3), (4, .int x4), (5, .int x5), (6, .int x6)]) hx hb dX9_season_123 hl (k := 6) rfl (by rw [ex7_1]; rfl) (by decide) rfl (fun ls hl => ?_)
  refine lv_goto (tgt := 51) hx hb dX9_season_126 (by decide) ?_
  exact hk51 x2 x3 x4 x5 x6 x7_1 H locs ls hP hD hS (lv_sub hl [1, 2, 3, 4, 5, 6, 0] rfl) h
set_option maxHeartbeats 4000000 in
set_option maxRecDepth 100000 in
theorem w_X9_season_51 {p : Program} {l : Launch} {e : Env} {s : State} {m : MethodId} {args : Array Value} {below : List Frame} {meth : Method} {c : Code} {dC : Nat → ClassId} {dI : Nat → Nat → Nat} {cI cJ : ClassId} {A : Nat → Prop} (cx : CX RX9 cX9_season (some .int) 9 p s m args meth c (dC, dI) (TY cI cJ)) (hA : ∀ q, s.heap.size ≤ q → A q) {qa : Nat → Nat → Nat} {C : (Nat → Mem)} {L : MemL} {post : Int32 → Prop} : ∀ (n : Nat) (x2 : Int32) (x3 : Int32) (x4 : Int32) (x5 : Int32) (x6 : Int32) (x7 : Int32) (H : Heap) (locs : List Loc) (ls : Array Slot), va_P (dC, dI) vwCl (wC cI cJ qa C L) H → va_D A (wC cI cJ qa C L) → va_S A s.heap H locs → lv_has ls 9 [(0, .ref (qa 0 0)), (2, .int x2), (3, .int x3), (4, .int x4), (5, .int x5), (6, .int x6), (7, .int x7)] → b_X9_season_51 C L post n x2 x3 x4 x5 x6 x7 → W p l e ({ frames := 1, cells := 0, slots := 0, locals := 22 }) s m args below meth c H locs 0 0 (MQ below (va_Qi (S := Unit) (fun (r : Int32) (_u : Unit) => post r) (fun _u t => AT (dC, dI) (TY cI cJ) A (wC cI cJ qa C L) t) A) args s 0 0 A) (F0 m 51 ls []) := by
  obtain ⟨hx, hb, hr, hml, hown, hts, hlocks, hK⟩ := id cx
  have cx' : CX RX9 cX9_season (meth.sig.returnType) 9 p s m args meth c (dC, dI) (TY cI cJ) := ⟨hx, hb, rfl, hml, hown, hts, hlocks, hK⟩
  intro n
  induction n with
  | zero =>
    intro x2 x3 x4 x5 x6 x7 H locs ls hP hD hS hl h
    exact False.elim h
  | succ n ih =>
    intro x2 x3 x4 x5 x6 x7 H locs ls hP hD hS hl h
    unfold b_X9_season_51 at h
    refine lv_iload hx hb dX9_season_51 (lv_at hl 6 rfl) ?_
    refine lv_iload_n hx hb dX9_season_53 rfl (lv_at hl 1 rfl) ?_
    refine lv_icmp_ge (tgt := 129) hx hb dX9_season_54 (by decide) (fun c_1 => ?_) (fun c_1 => ?_)
    · have h := h.1 c_1
      refine lv_iload hx hb dX9_season_129 (lv_at hl 4 rfl) ?_
      exact rt_i (v := x5) (u := ()) cx hP hD hS h dX9_season_131
    have h := h.2 c_1
    refine lv_ldc hx hb hown (hts _ kw_605) dX9_season_57 ?_
    refine lv_iload hx hb dX9_season_59 (lv_at hl 5 rfl) ?_
    refine lv_imul hx hb dX9_season_61 ?_
    refine lv_sipush (v := 12345) hx hb dX9_season_62 (by decide) ?_
    refine lv_iadd hx hb dX9_season_65 ?_
    refine lv_topi (fun x6_2 ex6_2 => ?_)
    have h := h x6_2 ex6_2
    refine lv_istore (lv' := [(6, .int x6_2), (0, .ref (qa 0 0)), (2, .int x2), (3, .int x3), (4, .int x4), (5, .int x5), (7, .int x7)]) hx hb dX9_season_66 hl (by decide) rfl (fun ls hl => ?_)
    refine lv_iload hx hb dX9_season_68 (lv_at hl 0 rfl) ?_
    refine lv_bipush (v := 16) hx hb dX9_season_70 (by decide) ?_
    refine lv_iushr (v := ushr x6_2 16) hx hb dX9_season_72 rfl ?_
    refine lv_aload_n hx hb dX9_season_73 rfl (lv_at hl 1 rfl) ?_
    refine gf_v (k := 3) (v := .ref (qa 4 0)) cx' hP 0 i_X9 rfl rfl (by decide) kw_267 rfl rfl dX9_season_74 ?_
    refine gf_v (k := 4) (v := .int (C 4 0 4)) cx' hP 10 i_X2 rfl rfl (by decide) kw_104 rfl rfl dX9_season_77 ?_
    refine lv_irem hx hb dX9_season_80 h.1 ?_
    have h := h.2
    refine lv_topi (fun x8_3 ex8_3 => ?_)
    have h := h x8_3 ex8_3
    refine lv_istore (lv' := [(8, .int x8_3), (6, .int x6_2), (0, .ref (qa 0 0)), (2, .int x2), (3, .int x3), (4, .int x4), (5, .int x5), (7, .int x7)]) hx hb dX9_season_81 hl (by decide) rfl (fun ls hl => ?_)
    refine lv_iload hx hb dX9_season_83 (lv_at hl 5 rfl) ?_
    refine lv_if_ne (tgt := 106) hx hb dX9_season_85 (by decide) (fun c_4 => ?_) (fun c_4 => ?_)
    · have h := h.1 c_4
      refine lv_aload_n hx hb dX9_season_106 rfl (lv_at hl 2 rfl) ?_
      refine gf_v (k := 4) (v := .ref (qa 5 0)) cx' hP 0 i_X9 rfl rfl (by decide) kw_268 rfl rfl dX9_season_107 ?_
      refine gf_v (k := 1) (v := .ref (qa 5 2)) cx' hP 15 i_X1 rfl rfl (by decide) kw_124 rfl rfl dX9_season_110 ?_
      refine lv_iload hx hb dX9_season_113 (lv_at hl 0 rfl) ?_
      refine va_iald hx hb hK hP 17 0 rfl rfl h.1 dX9_season_115 ?_
      have h := h.2
      refine lv_iload_n hx hb dX9_season_116 rfl (lv_at hl 4 rfl) ?_
      refine lv_icmp_ne (tgt := 123) hx hb dX9_season_117 (by decide) (fun c_5 => ?_) (fun c_5 => ?_)
      · have h := h.1 c_5
        exact w_X9_season_123 cx hA ih x2 x3 x4 x5 x6_2 x7 H locs ls hP hD hS (lv_sub hl [2, 3, 4, 5, 6, 1, 7] rfl) h
      have h := h.2 c_5
      obtain ⟨x5_6, ex5_6⟩ : ∃ z : Int32, z = x5 + 1 := ⟨_, rfl⟩
      have h := h x5_6 ex5_6
      refine lv_iinc (v := x5_6) (lv' := [(5, .int x5_6), (8, .int x8_3), (6, .int x6_2), (0, .ref (qa 0 0)), (2, .int x2), (3, .int x3), (4, .int x4), (7, .int x7)]) hx hb dX9_season_120 hl (k := 6) rfl (by rw [ex5_6]; rfl) (by decide) rfl (fun ls hl => ?_)
      exact w_X9_season_123 cx hA ih x2 x3 x4 x5_6 x6_2 x7 H locs ls hP hD hS (lv_sub hl [3, 4, 5, 6, 0, 2, 7] rfl) h
    have h := h.2 c_4
    refine lv_iload hx hb dX9_season_88 (lv_at hl 6 rfl) ?_
    refine lv_aload_n hx hb dX9_season_90 rfl (lv_at hl 2 rfl) ?_
    refine gf_v (k := 4) (v := .ref (qa 5 0)) cx' hP 0 i_X9 rfl rfl (by decide) kw_268 rfl rfl dX9_season_91 ?_
    refine lv_iload hx hb dX9_season_94 (lv_at hl 0 rfl) ?_
    refine lv_iload_n hx hb dX9_season_96 rfl (lv_at hl 4 rfl) ?_
    refine callP_i (wc := ww_X1 cI cJ (qa 5) (C 5)) (wr_C_5 cI cJ qa C L) (fun (_u : Unit) => wC cI cJ qa C L) [15, 16, 17, 18, 19, 20, 21, 22] [0, 1, 2, 3, 4, 5, 6, 7, 8, 9, 10, 11, 12, 13, 14, 23, 24, 25, 26, 27, 28, 29, 30, 31, 32, 33, 34, 35, 36, 37, 38, 39] [0, 1, 2, 3, 4, 5, 6, 7, 8, 9, 10, 11, 12, 13, 14, 32, 33, 34, 35, 36, 37, 38, 39, 15, 16, 17, 18, 19, 20, 21, 22, 23, 24, 25, 26, 27, 28, 29, 30, 31] rfl rfl rfl (by decide) (fun _ => rfl) rfl hP hD hS hA (fun hPc hDc => run_V (As := [.int x8_3, .int x3]) (rest := [.int x5]) cx' (c_X1_gaveTo l H.size (qa 5) (C 5) x8_3 x3 _ h) mv_X1_gaveTo kw_427 rfl rfl ⟨Nat.le_of_ble_eq_true rfl, Nat.le_of_ble_eq_true rfl⟩ hPc hDc rfl rfl rfl hl.1 rfl (Nat.le_of_ble_eq_true rfl) dX9_season_97 ⟨Nat.zero_le _, Nat.zero_le _⟩) rfl (fun r_7 u9 H locs hP hD hS h => ?_)
    have hP : va_P (dC, dI) vwCl (wC cI cJ qa C L) H := hP
    have hD : va_D A (wC cI cJ qa C L) := hD
    refine lv_iadd hx hb dX9_season_100 ?_
    refine lv_topi (fun x5_8 ex5_8 => ?_)
    have h := h x5_8 ex5_8
    refine lv_istore (lv' := [(5, .int x5_8), (8, .int x8_3), (6, .int x6_2), (0, .ref (qa 0 0)), (2, .int x2), (3, .int x3), (4, .int x4), (7, .int x7)]) hx hb dX9_season_101 hl (by decide) rfl (fun ls hl => ?_)
    refine lv_goto (tgt := 123) hx hb dX9_season_103 (by decide) ?_
    exact w_X9_season_123 cx hA ih x2 x3 x4 x5_8 x6_2 x7 H locs ls hP hD hS (lv_sub hl [3, 4, 5, 6, 0, 2, 7] rfl) h
set_option maxHeartbeats 4000000 in
set_option maxRecDepth 100000 in
theorem w_X9_season_0 {p : Program} {l : Launch} {e : Env} {s : State} {m : MethodId} {args : Array Value} {below : List Frame} {meth : Method} {c : Code} {dC : Nat → ClassId} {dI : Nat → Nat → Nat} {cI cJ : ClassId} {A : Nat → Prop} (cx : CX RX9 cX9_season (some .int) 9 p s m args meth c (dC, dI) (TY cI cJ)) (hA : ∀ q, s.heap.size ≤ q → A q) {qa : Nat → Nat → Nat} {C : (Nat → Mem)} {L : MemL} {post : Int32 → Prop} : ∀ (x1 : Int32) (x2 : Int32) (x3 : Int32) (x4 : Int32) (H : Heap) (locs : List Loc) (ls : Array Slot), va_P (dC, dI) vwCl (wC cI cJ qa C L) H → va_D A (wC cI cJ qa C L) → va_S A s.heap H locs → lv_has ls 9 [(0, .ref (qa 0 0)), (1, .int x1), (2, .int x2), (3, .int x3), (4, .int x4)] → b_X9_season_0 C L post x1 x2 x3 x4 → W p l e ({ frames := 1, cells := 0, slots := 0, locals := 22 }) s m args below meth c H locs 0 0 (MQ below (va_Qi (S := Unit) (fun (r : Int32) (_u : Unit) => post r) (fun _u t => AT (dC, dI) (TY cI cJ) A (wC cI cJ qa C L) t) A) args s 0 0 A) (F0 m 0 ls []) := by
  obtain ⟨hx, hb, hr, hml, hown, hts, hlocks, hK⟩ := id cx
  have cx' : CX RX9 cX9_season (meth.sig.returnType) 9 p s m args meth c (dC, dI) (TY cI cJ) := ⟨hx, hb, rfl, hml, hown, hts, hlocks, hK⟩
  intro x1 x2 x3 x4 H locs ls hP hD hS hl h
  unfold b_X9_season_0 at h
  refine lv_iload_n hx hb dX9_season_0 rfl (lv_at hl 2 rfl) ?_
  refine lv_iconst (v := 1) hx hb dX9_season_1 (by decide) ?_
  refine lv_icmp_lt (tgt := 27) hx hb dX9_season_2 (by decide) (fun c_1 => ?_) (fun c_1 => ?_)
  · have h := h.1 c_1
    refine lv_bipush (v := (-2)) hx hb dX9_season_27 (by decide) ?_
    exact rt_i (v := (-2)) (u := ()) cx hP hD hS h dX9_season_29
  have h := h.2 c_1
  refine lv_iload_n hx hb dX9_season_5 rfl (lv_at hl 2 rfl) ?_
  refine lv_bipush (v := 99) hx hb dX9_season_6 (by decide) ?_
  refine lv_icmp_gt (tgt := 27) hx hb dX9_season_8 (by decide) (fun c_2 => ?_) (fun c_2 => ?_)
  · have h := h.1 c_2
    refine lv_bipush (v := (-2)) hx hb dX9_season_27 (by decide) ?_
    exact rt_i (v := (-2)) (u := ()) cx hP hD hS h dX9_season_29
  have h := h.2 c_2
  refine lv_aload_n hx hb dX9_season_11 rfl (lv_at hl 0 rfl) ?_
  refine lv_iload_n hx hb dX9_season_12 rfl (lv_at hl 3 rfl) ?_
  refine call_i (run_V (As := [.int x3]) (rest := []) cx' (c_X9_isHouse l H.size qa C L x3 _ h) mv_X9_isHouse kw_403 rfl rfl ⟨Nat.le_of_ble_eq_true rfl, Nat.le_of_ble_eq_true rfl⟩ hP hD rfl rfl rfl hl.1 rfl (Nat.le_of_ble_eq_true rfl) dX9_season_13 ⟨Nat.zero_le _, Nat.zero_le _⟩) hD hS hA (fun r_3 u9 H locs hP hD hS h => ?_)
  have hP : va_P (dC, dI) vwCl (wC cI cJ qa C L) H := hP
  have hD : va_D A (wC cI cJ qa C L) := hD
  refine lv_if_eq (tgt := 27) hx hb dX9_season_16 (by decide) (fun c_4 => ?_) (fun c_4 => ?_)
  · have h := h.1 c_4
    refine lv_bipush (v := (-2)) hx hb dX9_season_27 (by decide) ?_
    exact rt_i (v := (-2)) (u := ()) cx hP hD hS h dX9_season_29
  have h := h.2 c_4
  refine lv_iload hx hb dX9_season_19 (lv_at hl 4 rfl) ?_
  refine callN_i (run_S (As := [.int x4]) (rest := []) (wc := []) cx' (c_X9_isBit l H.size x4 _ h) ms_X9_isBit kw_305 rfl rfl ⟨Nat.le_of_ble_eq_true rfl, Nat.le_of_ble_eq_true rfl⟩ nilP nilD (A := A) rfl hl.1 rfl (Nat.le_of_ble_eq_true rfl) dX9_season_21 ⟨Nat.zero_le _, Nat.zero_le _⟩) hP hS hA (fun r_5 H locs hP hS h => ?_)
  refine lv_if_ne (tgt := 30) hx hb dX9_season_24 (by decide) (fun c_6 => ?_) (fun c_6 => ?_)
  · have h := h.1 c_6
    refine lv_aload_n hx hb dX9_season_30 rfl (lv_at hl 0 rfl) ?_
    refine gf_v (k := 3) (v := .ref (qa 4 0)) cx' hP 0 i_X9 rfl rfl (by decide) kw_267 rfl rfl dX9_season_31 ?_
    refine gf_v (k := 4) (v := .int (C 4 0 4)) cx' hP 10 i_X2 rfl rfl (by decide) kw_104 rfl rfl dX9_season_34 ?_
    refine lv_if_ne (tgt := 42) hx hb dX9_season_37 (by decide) (fun c_7 => ?_) (fun c_7 => ?_)
    · have h := h.1 c_7
      refine lv_iconst (v := 0) hx hb dX9_season_42 (by decide) ?_
      refine lv_istore (lv' := [(5, .int 0), (0, .ref (qa 0 0)), (1, .int x1), (2, .int x2), (3, .int x3), (4, .int x4)]) hx hb dX9_season_43 hl (by decide) rfl (fun ls hl => ?_)
      refine lv_iload_n hx hb dX9_season_45 rfl (lv_at hl 2 rfl) ?_
      refine lv_istore (lv' := [(6, .int x1), (5, .int 0), (0, .ref (qa 0 0)), (1, .int x1), (2, .int x2), (3, .int x3), (4, .int x4)]) hx hb dX9_season_46 hl (by decide) rfl (fun ls hl => ?_)
      refine lv_iconst (v := 0) hx hb dX9_season_48 (by decide) ?_
      refine lv_istore (lv' := [(7, .int 0), (6, .int x1), (5, .int 0), (0, .ref (qa 0 0)), (1, .int x1), (2, .int x2), (3, .int x3), (4, .int x4)]) hx hb dX9_season_49 hl (by decide) rfl (fun ls hl => ?_)
      obtain ⟨n_8, h⟩ := h
      exact w_X9_season_51 cx hA n_8 x2 x3 x4 0 x1 0 H locs ls hP hD hS (lv_sub hl [3, 5, 6, 7, 2, 1, 0] rfl) h
    have h := h.2 c_7
    refine lv_iconst (v := 0) hx hb dX9_season_40 (by decide) ?_
    exact rt_i (v := 0) (u := ()) cx hP hD hS h dX9_season_41
  have h := h.2 c_6
  refine lv_bipush (v := (-2)) hx hb dX9_season_27 (by decide) ?_
  exact rt_i (v := (-2)) (u := ()) cx hP hD hS h dX9_season_29
set_option maxRecDepth 100000 in
theorem c_X9_season (l : Launch) {dC : Nat → ClassId} {dI : Nat → Nat → Nat} {cI cJ : ClassId} (sz : Nat) (qa : Nat → Nat → Nat) (C : Nat → Mem) (L : MemL) (x1 : Int32) (x2 : Int32) (x3 : Int32) (x4 : Int32) (post : Int32 → Prop) (h : wp_X9_season C L x1 x2 x3 x4 post) : Met l yX9_season (Cond.code yX9_season cX9_season 9 (some .int) :: gt) ({ frames := 1, cells := 0, slots := 0, locals := 22 }) (va_Pc [.ref (qa 0 0), .int x1, .int x2, .int x3, .int x4] (PRE (dC, dI) (TY cI cJ) (wC cI cJ qa C L) sz)) (va_Qi (S := Unit) (fun (r : Int32) (_u : Unit) => post r) (fun _u t => AT (dC, dI) (TY cI cJ) (va_A (wC cI cJ qa C L) sz) (wC cI cJ qa C L) t) (va_A (wC cI cJ qa C L) sz)) 0 0 (va_A (wC cI cJ qa C L) sz) :=
  met_of (own := RX9) (Qf := fun A => va_Qi (S := Unit) (fun (r : Int32) (_u : Unit) => post r) (fun _u t => AT (dC, dI) (TY cI cJ) A (wC cI cJ qa C L) t) A) (by decide) rfl (Nat.le_of_ble_eq_true rfl) rfl (fun p e s m below meth c A cx hA ls hP hD hS hl => w_X9_season_0 cx hA x1 x2 x3 x4 _ _ ls hP hD hS hl h)
theorem mv_X9_season : MV yX9_season cX9_season 9 (some .int) 4 := ⟨⟨kw_604, kw_1, by decide +kernel⟩, kw_602, kw_603⟩
set_option maxHeartbeats 4000000 in
set_option maxRecDepth 100000 in
theorem w_X9_isForm_0 {p : Program} {l : Launch} {e : Env} {s : State} {m : MethodId} {args : Array Value} {below : List Frame} {meth : Method} {c : Code} {dC : Nat → ClassId} {dI : Nat → Nat → Nat} {cI cJ : ClassId} {A : Nat → Prop} (cx : CX RX9 cX9_isForm (some .boolean) 1 p s m args meth c (dC, dI) (TY cI cJ)) (hA : ∀ q, s.heap.size ≤ q → A q) {post : Int32 → Prop} : ∀ (x0 : Int32) (H : Heap) (locs : List Loc) (ls : Array Slot), va_P (dC, dI) vwCl ([]) H → va_D A ([]) → va_S A s.heap H locs → lv_has ls 1 [(0, .int x0)] → b_X9_isForm_0 post x0 → W p l e ({ frames := 0, cells := 0, slots := 0, locals := 0 }) s m args below meth c H locs 0 0 (MQ below (va_Qi (S := Unit) (fun (r : Int32) (_u : Unit) => post r) (fun _u t => AT (dC, dI) (TY cI cJ) A ([]) t) A) args s 0 0 A) (F0 m 0 ls []) := by
  obtain ⟨hx, hb, hr, hml, hown, hts, hlocks, hK⟩ := id cx
  have cx' : CX RX9 cX9_isForm (meth.sig.returnType) 1 p s m args meth c (dC, dI) (TY cI cJ) := ⟨hx, hb, rfl, hml, hown, hts, hlocks, hK⟩
  intro x0 H locs ls hP hD hS hl h
  unfold b_X9_isForm_0 at h
  refine lv_iload_n hx hb dX9_isForm_0 rfl (lv_at hl 0 rfl) ?_
  refine lv_if_lt (tgt := 13) hx hb dX9_isForm_1 (by decide) (fun c_1 => ?_) (fun c_1 => ?_)
  · have h := h.1 c_1
    refine lv_iconst (v := 0) hx hb dX9_isForm_13 (by decide) ?_
    exact rt_z (v := 0) (u := ()) cx (Or.inl rfl) hP hD hS h dX9_isForm_14
  have h := h.2 c_1
  refine lv_iload_n hx hb dX9_isForm_4 rfl (lv_at hl 0 rfl) ?_
  refine lv_iconst (v := 2) hx hb dX9_isForm_5 (by decide) ?_
  refine lv_icmp_gt (tgt := 13) hx hb dX9_isForm_6 (by decide) (fun c_2 => ?_) (fun c_2 => ?_)
  · have h := h.1 c_2
    refine lv_iconst (v := 0) hx hb dX9_isForm_13 (by decide) ?_
    exact rt_z (v := 0) (u := ()) cx (Or.inl rfl) hP hD hS h dX9_isForm_14
  have h := h.2 c_2
  refine lv_iconst (v := 1) hx hb dX9_isForm_9 (by decide) ?_
  refine lv_goto (tgt := 14) hx hb dX9_isForm_10 (by decide) ?_
  exact rt_z (v := 1) (u := ()) cx (Or.inr rfl) hP hD hS h dX9_isForm_14
set_option maxRecDepth 100000 in
theorem c_X9_isForm (l : Launch) {dC : Nat → ClassId} {dI : Nat → Nat → Nat} {cI cJ : ClassId} (sz : Nat) (x0 : Int32) (post : Int32 → Prop) (h : wp_X9_isForm x0 post) : Met l yX9_isForm (Cond.code yX9_isForm cX9_isForm 1 (some .boolean) :: gt) ({ frames := 0, cells := 0, slots := 0, locals := 0 }) (va_Pc [.int x0] (PRE (dC, dI) (TY cI cJ) ([]) sz)) (va_Qi (S := Unit) (fun (r : Int32) (_u : Unit) => post r) (fun _u t => AT (dC, dI) (TY cI cJ) (va_A ([]) sz) ([]) t) (va_A ([]) sz)) 0 0 (va_A ([]) sz) :=
  met_of (own := RX9) (Qf := fun A => va_Qi (S := Unit) (fun (r : Int32) (_u : Unit) => post r) (fun _u t => AT (dC, dI) (TY cI cJ) A ([]) t) A) (by decide) rfl (Nat.le_of_ble_eq_true rfl) rfl (fun p e s m below meth c A cx hA ls hP hD hS hl => w_X9_isForm_0 cx hA x0 _ _ ls hP hD hS hl h)
theorem ms_X9_isForm : MS yX9_isForm cX9_isForm 1 (some .boolean) 1 := ⟨⟨kw_612, kw_1, by decide +kernel⟩, kw_611⟩
set_option maxHeartbeats 4000000 in
set_option maxRecDepth 100000 in
theorem w_X9_sheet_0 {p : Program} {l : Launch} {e : Env} {s : State} {m : MethodId} {args : Array Value} {below : List Frame} {meth : Method} {c : Code} {dC : Nat → ClassId} {dI : Nat → Nat → Nat} {cI cJ : ClassId} {A : Nat → Prop} (cx : CX RX9 cX9_sheet (some .int) 4 p s m args meth c (dC, dI) (TY cI cJ)) (hA : ∀ q, s.heap.size ≤ q → A q) {qa : Nat → Nat → Nat} {post : Int32 → (Nat → Mem) → MemL → Prop} : ∀ (x1 : Int32) (x2 : Int32) (x3 : Int32) (C : (Nat → Mem)) (L : MemL) (H : Heap) (locs : List Loc) (ls : Array Slot), va_P (dC, dI) vwCl (wC cI cJ qa C L) H → va_D A (wC cI cJ qa C L) → va_S A s.heap H locs → lv_has ls 4 [(0, .ref (qa 0 0)), (1, .int x1), (2, .int x2), (3, .int x3)] → b_X9_sheet_0 post x1 x2 x3 C L → W p l e ({ frames := 1, cells := 0, slots := 0, locals := 24 }) s m args below meth c H locs 0 0 (MQ below (va_Qi (S := (Nat → Mem) × MemL) (fun (r : Int32) (u : (Nat → Mem) × MemL) => post r u.1 u.2) (fun u t => AT (dC, dI) (TY cI cJ) A (wC cI cJ qa (u.1) (u.2)) t) A) args s 0 0 A) (F0 m 0 ls []) := by
  obtain ⟨hx, hb, hr, hml, hown, hts, hlocks, hK⟩ := id cx
  have cx' : CX RX9 cX9_sheet (meth.sig.returnType) 4 p s m args meth c (dC, dI) (TY cI cJ) := ⟨hx, hb, rfl, hml, hown, hts, hlocks, hK⟩
  intro x1 x2 x3 C L H locs ls hP hD hS hl h
  unfold b_X9_sheet_0 at h
  refine lv_iload_n hx hb dX9_sheet_0 rfl (lv_at hl 1 rfl) ?_
  refine callN_i (run_S (As := [.int x1]) (rest := []) (wc := []) cx' (c_X9_isSheet l H.size x1 _ h) ms_X9_isSheet kw_533 rfl rfl ⟨Nat.le_of_ble_eq_true rfl, Nat.le_of_ble_eq_true rfl⟩ nilP nilD (A := A) rfl hl.1 rfl (Nat.le_of_ble_eq_true rfl) dX9_sheet_1 ⟨Nat.zero_le _, Nat.zero_le _⟩) hP hS hA (fun r_1 H locs hP hS h => ?_)
  refine lv_if_eq (tgt := 20) hx hb dX9_sheet_4 (by decide) (fun c_2 => ?_) (fun c_2 => ?_)
  · have h := h.1 c_2
    refine lv_bipush (v := (-2)) hx hb dX9_sheet_20 (by decide) ?_
    exact rt_i (v := (-2)) (u := (C, L)) cx hP hD hS h dX9_sheet_22
  have h := h.2 c_2
  refine lv_iload_n hx hb dX9_sheet_7 rfl (lv_at hl 2 rfl) ?_
  refine callN_i (run_S (As := [.int x2]) (rest := []) (wc := []) cx' (c_X9_isForm l H.size x2 _ h) ms_X9_isForm kw_610 rfl rfl ⟨Nat.le_of_ble_eq_true rfl, Nat.le_of_ble_eq_true rfl⟩ nilP nilD (A := A) rfl hl.1 rfl (Nat.le_of_ble_eq_true rfl) dX9_sheet_8 ⟨Nat.zero_le _, Nat.zero_le _⟩) hP hS hA (fun r_3 H locs hP hS h => ?_)
  refine lv_if_eq (tgt := 20) hx hb dX9_sheet_11 (by decide) (fun c_4 => ?_) (fun c_4 => ?_)
  · have h := h.1 c_4
    refine lv_bipush (v := (-2)) hx hb dX9_sheet_20 (by decide) ?_
    exact rt_i (v := (-2)) (u := (C, L)) cx hP hD hS h dX9_sheet_22
  have h := h.2 c_4
  refine lv_iload_n hx hb dX9_sheet_14 rfl (lv_at hl 3 rfl) ?_
  refine lv_bipush (v := 60) hx hb dX9_sheet_15 (by decide) ?_
  refine lv_icmp_le (tgt := 23) hx hb dX9_sheet_17 (by decide) (fun c_5 => ?_) (fun c_5 => ?_)
  · have h := h.1 c_5
    refine lv_iload_n hx hb dX9_sheet_23 rfl (lv_at hl 3 rfl) ?_
    refine lv_if_ge (tgt := 33) hx hb dX9_sheet_24 (by decide) (fun c_6 => ?_) (fun c_6 => ?_)
    · have h := h.1 c_6
      refine lv_aload_n hx hb dX9_sheet_33 rfl (lv_at hl 0 rfl) ?_
      refine gf_v (k := 6) (v := .ref (qa 7 0)) cx' hP 0 i_X9 rfl rfl (by decide) kw_270 rfl rfl dX9_sheet_34 ?_
      refine lv_iload_n hx hb dX9_sheet_37 rfl (lv_at hl 1 rfl) ?_
      refine lv_iload_n hx hb dX9_sheet_38 rfl (lv_at hl 2 rfl) ?_
      refine lv_iload_n hx hb dX9_sheet_39 rfl (lv_at hl 3 rfl) ?_
      refine callP_v (wc := ww_X5 cI cJ (qa 7) (C 7)) (wr_C_7 cI cJ qa C L) (fun (u : Mem) => wC cI cJ qa (up3 C 7 (u)) L) [26, 27, 28, 29] [0, 1, 2, 3, 4, 5, 6, 7, 8, 9, 10, 11, 12, 13, 14, 15, 16, 17, 18, 19, 20, 21, 22, 23, 24, 25, 30, 31, 32, 33, 34, 35, 36, 37, 38, 39] [0, 1, 2, 3, 4, 5, 6, 7, 8, 9, 10, 11, 12, 13, 14, 15, 16, 17, 18, 19, 20, 21, 22, 23, 24, 25, 36, 37, 38, 39, 26, 27, 28, 29, 30, 31, 32, 33, 34, 35] rfl rfl rfl (by decide) (fun _ => rfl) rfl hP hD hS hA (fun hPc hDc => run_V (As := [.int x1, .int x2, .int x3]) (rest := []) cx' (c_X5_start l H.size (qa 7) (C 7) x1 x2 x3 _ h) mv_X5_start kw_613 rfl rfl ⟨Nat.le_of_ble_eq_true rfl, Nat.le_of_ble_eq_true rfl⟩ hPc hDc rfl rfl rfl hl.1 rfl (Nat.le_of_ble_eq_true rfl) dX9_sheet_40 ⟨Nat.zero_le _, Nat.zero_le _⟩) rfl (fun u9 H locs hP hD hS h => ?_)
      obtain ⟨u_7, rfl⟩ : ∃ z, z = u9 := ⟨_, rfl⟩
      obtain ⟨C_8, eC_8⟩ : ∃ z : Nat → Mem, z = up3 C 7 u_7 := ⟨_, rfl⟩
      have h := h C_8 eC_8
      have hP : va_P (dC, dI) vwCl (wC cI cJ qa C_8 L) H := by subst eC_8; exact hP
      have hD : va_D A (wC cI cJ qa C_8 L) := by subst eC_8; exact hD
      refine lv_iload_n hx hb dX9_sheet_43 rfl (lv_at hl 3 rfl) ?_
      exact rt_i (v := x3) (u := (C_8, L)) cx hP hD hS h dX9_sheet_44
    have h := h.2 c_6
    refine lv_aload_n hx hb dX9_sheet_27 rfl (lv_at hl 0 rfl) ?_
    refine lv_iconst (v := 5) hx hb dX9_sheet_28 (by decide) ?_
    refine call_i (run_V (As := [.int 5]) (rest := []) cx' (c_X9_found l H.size qa C L 5 _ h) mv_X9_found kw_540 rfl rfl ⟨Nat.le_of_ble_eq_true rfl, Nat.le_of_ble_eq_true rfl⟩ hP hD rfl rfl rfl hl.1 rfl (Nat.le_of_ble_eq_true rfl) dX9_sheet_29 ⟨Nat.zero_le _, Nat.zero_le _⟩) hD hS hA (fun r_9 u9 H locs hP hD hS h => ?_)
    obtain ⟨C_10, L_11⟩ := u9
    have hP : va_P (dC, dI) vwCl (wC cI cJ qa C_10 L_11) H := hP
    have hD : va_D A (wC cI cJ qa C_10 L_11) := hD
    exact rt_i (v := r_9) (u := (C_10, L_11)) cx hP hD hS h dX9_sheet_32
  have h := h.2 c_5
  refine lv_bipush (v := (-2)) hx hb dX9_sheet_20 (by decide) ?_
  exact rt_i (v := (-2)) (u := (C, L)) cx hP hD hS h dX9_sheet_22
set_option maxRecDepth 100000 in
theorem c_X9_sheet (l : Launch) {dC : Nat → ClassId} {dI : Nat → Nat → Nat} {cI cJ : ClassId} (sz : Nat) (qa : Nat → Nat → Nat) (C : Nat → Mem) (L : MemL) (x1 : Int32) (x2 : Int32) (x3 : Int32) (post : Int32 → (Nat → Mem) → MemL → Prop) (h : wp_X9_sheet C L x1 x2 x3 post) : Met l yX9_sheet (Cond.code yX9_sheet cX9_sheet 4 (some .int) :: gt) ({ frames := 1, cells := 0, slots := 0, locals := 24 }) (va_Pc [.ref (qa 0 0), .int x1, .int x2, .int x3] (PRE (dC, dI) (TY cI cJ) (wC cI cJ qa C L) sz)) (va_Qi (S := (Nat → Mem) × MemL) (fun (r : Int32) (u : (Nat → Mem) × MemL) => post r u.1 u.2) (fun u t => AT (dC, dI) (TY cI cJ) (va_A (wC cI cJ qa C L) sz) (wC cI cJ qa (u.1) (u.2)) t) (va_A (wC cI cJ qa C L) sz)) 0 0 (va_A (wC cI cJ qa C L) sz) :=
  met_of (own := RX9) (Qf := fun A => va_Qi (S := (Nat → Mem) × MemL) (fun (r : Int32) (u : (Nat → Mem) × MemL) => post r u.1 u.2) (fun u t => AT (dC, dI) (TY cI cJ) A (wC cI cJ qa (u.1) (u.2)) t) A) (by decide) rfl (Nat.le_of_ble_eq_true rfl) rfl (fun p e s m below meth c A cx hA ls hP hD hS hl => w_X9_sheet_0 cx hA x1 x2 x3 C L _ _ ls hP hD hS hl h)
theorem mv_X9_sheet : MV yX9_sheet cX9_sheet 4 (some .int) 3 := ⟨⟨kw_609, kw_1, by decide +kernel⟩, kw_607, kw_608⟩
set_option maxHeartbeats 4000000 in
set_option maxRecDepth 100000 in
theorem w_X9_lose_0 {p : Program} {l : Launch} {e : Env} {s : State} {m : MethodId} {args : Array Value} {below : List Frame} {meth : Method} {c : Code} {dC : Nat → ClassId} {dI : Nat → Nat → Nat} {cI cJ : ClassId} {A : Nat → Prop} (cx : CX RX9 cX9_lose (some .int) 3 p s m args meth c (dC, dI) (TY cI cJ)) (hA : ∀ q, s.heap.size ≤ q → A q) {qa : Nat → Nat → Nat} {post : Int32 → (Nat → Mem) → MemL → Prop} : ∀ (x1 : Int32) (C : (Nat → Mem)) (L : MemL) (H : Heap) (locs : List Loc) (ls : Array Slot), va_P (dC, dI) vwCl (wC cI cJ qa C L) H → va_D A (wC cI cJ qa C L) → va_S A s.heap H locs → lv_has ls 3 [(0, .ref (qa 0 0)), (1, .int x1)] → b_X9_lose_0 post x1 C L → W p l e ({ frames := 1, cells := 0, slots := 0, locals := 21 }) s m args below meth c H locs 0 0 (MQ below (va_Qi (S := (Nat → Mem) × MemL) (fun (r : Int32) (u : (Nat → Mem) × MemL) => post r u.1 u.2) (fun u t => AT (dC, dI) (TY cI cJ) A (wC cI cJ qa (u.1) (u.2)) t) A) args s 0 0 A) (F0 m 0 ls []) := by
  obtain ⟨hx, hb, hr, hml, hown, hts, hlocks, hK⟩ := id cx
  have cx' : CX RX9 cX9_lose (meth.sig.returnType) 3 p s m args meth c (dC, dI) (TY cI cJ) := ⟨hx, hb, rfl, hml, hown, hts, hlocks, hK⟩
  intro x1 C L H locs ls hP hD hS hl h
  unfold b_X9_lose_0 at h
  refine lv_iload_n hx hb dX9_lose_0 rfl (lv_at hl 1 rfl) ?_
  refine callN_i (run_S (As := [.int x1]) (rest := []) (wc := []) cx' (c_X9_isSheet l H.size x1 _ h) ms_X9_isSheet kw_533 rfl rfl ⟨Nat.le_of_ble_eq_true rfl, Nat.le_of_ble_eq_true rfl⟩ nilP nilD (A := A) rfl hl.1 rfl (Nat.le_of_ble_eq_true rfl) dX9_lose_1 ⟨Nat.zero_le _, Nat.zero_le _⟩) hP hS hA (fun r_1 H locs hP hS h => ?_)
  refine lv_if_ne (tgt := 10) hx hb dX9_lose_4 (by decide) (fun c_2 => ?_) (fun c_2 => ?_)
  · have h := h.1 c_2
    refine lv_aload_n hx hb dX9_lose_10 rfl (lv_at hl 0 rfl) ?_
    refine gf_v (k := 6) (v := .ref (qa 7 0)) cx' hP 0 i_X9 rfl rfl (by decide) kw_270 rfl rfl dX9_lose_11 ?_
    refine lv_iload_n hx hb dX9_lose_14 rfl (lv_at hl 1 rfl) ?_
    refine callP_i (wc := ww_X5 cI cJ (qa 7) (C 7)) (wr_C_7 cI cJ qa C L) (fun (_u : Unit) => wC cI cJ qa C L) [26, 27, 28, 29] [0, 1, 2, 3, 4, 5, 6, 7, 8, 9, 10, 11, 12, 13, 14, 15, 16, 17, 18, 19, 20, 21, 22, 23, 24, 25, 30, 31, 32, 33, 34, 35, 36, 37, 38, 39] [0, 1, 2, 3, 4, 5, 6, 7, 8, 9, 10, 11, 12, 13, 14, 15, 16, 17, 18, 19, 20, 21, 22, 23, 24, 25, 36, 37, 38, 39, 26, 27, 28, 29, 30, 31, 32, 33, 34, 35] rfl rfl rfl (by decide) (fun _ => rfl) rfl hP hD hS hA (fun hPc hDc => run_V (As := [.int x1]) (rest := []) cx' (c_X5_isLost l H.size (qa 7) (C 7) x1 _ h) mv_X5_isLost kw_536 rfl rfl ⟨Nat.le_of_ble_eq_true rfl, Nat.le_of_ble_eq_true rfl⟩ hPc hDc rfl rfl rfl hl.1 rfl (Nat.le_of_ble_eq_true rfl) dX9_lose_15 ⟨Nat.zero_le _, Nat.zero_le _⟩) rfl (fun r_3 u9 H locs hP hD hS h => ?_)
    have hP : va_P (dC, dI) vwCl (wC cI cJ qa C L) H := hP
    have hD : va_D A (wC cI cJ qa C L) := hD
    refine lv_if_eq (tgt := 27) hx hb dX9_lose_18 (by decide) (fun c_4 => ?_) (fun c_4 => ?_)
    · have h := h.1 c_4
      refine lv_aload_n hx hb dX9_lose_27 rfl (lv_at hl 0 rfl) ?_
      refine gf_v (k := 6) (v := .ref (qa 7 0)) cx' hP 0 i_X9 rfl rfl (by decide) kw_270 rfl rfl dX9_lose_28 ?_
      refine gf_v (k := 2) (v := .ref (qa 7 3)) cx' hP 26 i_X5 rfl rfl (by decide) kw_183 rfl rfl dX9_lose_31 ?_
      refine lv_iload_n hx hb dX9_lose_34 rfl (lv_at hl 1 rfl) ?_
      refine va_iald hx hb hK hP 29 0 rfl rfl h.1 dX9_lose_35 ?_
      have h := h.2
      refine lv_topi (fun x2_5 ex2_5 => ?_)
      have h := h x2_5 ex2_5
      refine lv_istore_n (lv' := [(2, .int x2_5), (0, .ref (qa 0 0)), (1, .int x1)]) hx hb dX9_lose_36 rfl hl (by decide) rfl (fun ls hl => ?_)
      refine lv_aload_n hx hb dX9_lose_37 rfl (lv_at hl 1 rfl) ?_
      refine gf_v (k := 6) (v := .ref (qa 7 0)) cx' hP 0 i_X9 rfl rfl (by decide) kw_270 rfl rfl dX9_lose_38 ?_
      refine gf_v (k := 2) (v := .ref (qa 7 3)) cx' hP 26 i_X5 rfl rfl (by decide) kw_183 rfl rfl dX9_lose_41 ?_
      refine lv_iload_n hx hb dX9_lose_44 rfl (lv_at hl 2 rfl) ?_
      refine lv_iconst (v := (-1)) hx hb dX9_lose_45 (by decide) ?_
      obtain ⟨C_6, eC_6⟩ : ∃ z : Nat → Mem, z = up3 C 7 (up2 (C 7) 3 (Int32.toNatClampNeg x1) (-1)) := ⟨_, rfl⟩
      have h1 := h.1
      have h := h.2 C_6 eC_6
      refine st_i hx hb hK hP hD hS 29 0 (wC cI cJ qa C_6 L) rfl rfl h1 dX9_lose_46 (by subst eC_6; rfl) (fun H locs hP hD hS => ?_)
      refine lv_iload_n hx hb dX9_lose_47 rfl (lv_at hl 0 rfl) ?_
      exact rt_i (v := x2_5) (u := (C_6, L)) cx hP hD hS h dX9_lose_48
    have h := h.2 c_4
    refine lv_aload_n hx hb dX9_lose_21 rfl (lv_at hl 0 rfl) ?_
    refine lv_iconst (v := 1) hx hb dX9_lose_22 (by decide) ?_
    refine call_i (run_V (As := [.int 1]) (rest := []) cx' (c_X9_found l H.size qa C L 1 _ h) mv_X9_found kw_540 rfl rfl ⟨Nat.le_of_ble_eq_true rfl, Nat.le_of_ble_eq_true rfl⟩ hP hD rfl rfl rfl hl.1 rfl (Nat.le_of_ble_eq_true rfl) dX9_lose_23 ⟨Nat.zero_le _, Nat.zero_le _⟩) hD hS hA (fun r_7 u9 H locs hP hD hS h => ?_)
    obtain ⟨C_8, L_9⟩ := u9
    have hP : va_P (dC, dI) vwCl (wC cI cJ qa C_8 L_9) H := hP
    have hD : va_D A (wC cI cJ qa C_8 L_9) := hD
    exact rt_i (v := r_7) (u := (C_8, L_9)) cx hP hD hS h dX9_lose_26
  have h := h.2 c_2
  refine lv_bipush (v := (-2)) hx hb dX9_lose_7 (by decide) ?_
  exact rt_i (v := (-2)) (u := (C, L)) cx hP hD hS h dX9_lose_9
set_option maxRecDepth 100000 in
theorem c_X9_lose (l : Launch) {dC : Nat → ClassId} {dI : Nat → Nat → Nat} {cI cJ : ClassId} (sz : Nat) (qa : Nat → Nat → Nat) (C : Nat → Mem) (L : MemL) (x1 : Int32) (post : Int32 → (Nat → Mem) → MemL → Prop) (h : wp_X9_lose C L x1 post) : Met l yX9_lose (Cond.code yX9_lose cX9_lose 3 (some .int) :: gt) ({ frames := 1, cells := 0, slots := 0, locals := 21 }) (va_Pc [.ref (qa 0 0), .int x1] (PRE (dC, dI) (TY cI cJ) (wC cI cJ qa C L) sz)) (va_Qi (S := (Nat → Mem) × MemL) (fun (r : Int32) (u : (Nat → Mem) × MemL) => post r u.1 u.2) (fun u t => AT (dC, dI) (TY cI cJ) (va_A (wC cI cJ qa C L) sz) (wC cI cJ qa (u.1) (u.2)) t) (va_A (wC cI cJ qa C L) sz)) 0 0 (va_A (wC cI cJ qa C L) sz) :=
  met_of (own := RX9) (Qf := fun A => va_Qi (S := (Nat → Mem) × MemL) (fun (r : Int32) (u : (Nat → Mem) × MemL) => post r u.1 u.2) (fun u t => AT (dC, dI) (TY cI cJ) A (wC cI cJ qa (u.1) (u.2)) t) A) (by decide) rfl (Nat.le_of_ble_eq_true rfl) rfl (fun p e s m below meth c A cx hA ls hP hD hS hl => w_X9_lose_0 cx hA x1 C L _ _ ls hP hD hS hl h)
theorem mv_X9_lose : MV yX9_lose cX9_lose 3 (some .int) 1 := ⟨⟨kw_620, kw_1, by decide +kernel⟩, kw_618, kw_619⟩
set_option maxHeartbeats 4000000 in
set_option maxRecDepth 100000 in
theorem w_X9_itemFinding_0 {p : Program} {l : Launch} {e : Env} {s : State} {m : MethodId} {args : Array Value} {below : List Frame} {meth : Method} {c : Code} {dC : Nat → ClassId} {dI : Nat → Nat → Nat} {cI cJ : ClassId} {A : Nat → Prop} (cx : CX RX9 cX9_itemFinding (some .int) 4 p s m args meth c (dC, dI) (TY cI cJ)) (hA : ∀ q, s.heap.size ≤ q → A q) {qa : Nat → Nat → Nat} {C : (Nat → Mem)} {L : MemL} {post : Int32 → Prop} : ∀ (x1 : Int32) (x2 : Int32) (x3 : Int32) (H : Heap) (locs : List Loc) (ls : Array Slot), va_P (dC, dI) vwCl (wC cI cJ qa C L) H → va_D A (wC cI cJ qa C L) → va_S A s.heap H locs → lv_has ls 4 [(0, .ref (qa 0 0)), (1, .int x1), (2, .int x2), (3, .int x3)] → b_X9_itemFinding_0 C L post x1 x2 x3 → W p l e ({ frames := 1, cells := 0, slots := 0, locals := 21 }) s m args below meth c H locs 0 0 (MQ below (va_Qi (S := Unit) (fun (r : Int32) (_u : Unit) => post r) (fun _u t => AT (dC, dI) (TY cI cJ) A (wC cI cJ qa C L) t) A) args s 0 0 A) (F0 m 0 ls []) := by
  obtain ⟨hx, hb, hr, hml, hown, hts, hlocks, hK⟩ := id cx
  have cx' : CX RX9 cX9_itemFinding (meth.sig.returnType) 4 p s m args meth c (dC, dI) (TY cI cJ) := ⟨hx, hb, rfl, hml, hown, hts, hlocks, hK⟩
  intro x1 x2 x3 H locs ls hP hD hS hl h
  unfold b_X9_itemFinding_0 at h
  refine lv_aload_n hx hb dX9_itemFinding_0 rfl (lv_at hl 0 rfl) ?_
  refine gf_v (k := 6) (v := .ref (qa 7 0)) cx' hP 0 i_X9 rfl rfl (by decide) kw_270 rfl rfl dX9_itemFinding_1 ?_
  refine lv_iload_n hx hb dX9_itemFinding_4 rfl (lv_at hl 1 rfl) ?_
  refine callP_i (wc := ww_X5 cI cJ (qa 7) (C 7)) (wr_C_7 cI cJ qa C L) (fun (_u : Unit) => wC cI cJ qa C L) [26, 27, 28, 29] [0, 1, 2, 3, 4, 5, 6, 7, 8, 9, 10, 11, 12, 13, 14, 15, 16, 17, 18, 19, 20, 21, 22, 23, 24, 25, 30, 31, 32, 33, 34, 35, 36, 37, 38, 39] [0, 1, 2, 3, 4, 5, 6, 7, 8, 9, 10, 11, 12, 13, 14, 15, 16, 17, 18, 19, 20, 21, 22, 23, 24, 25, 36, 37, 38, 39, 26, 27, 28, 29, 30, 31, 32, 33, 34, 35] rfl rfl rfl (by decide) (fun _ => rfl) rfl hP hD hS hA (fun hPc hDc => run_V (As := [.int x1]) (rest := []) cx' (c_X5_isLost l H.size (qa 7) (C 7) x1 _ h) mv_X5_isLost kw_536 rfl rfl ⟨Nat.le_of_ble_eq_true rfl, Nat.le_of_ble_eq_true rfl⟩ hPc hDc rfl rfl rfl hl.1 rfl (Nat.le_of_ble_eq_true rfl) dX9_itemFinding_5 ⟨Nat.zero_le _, Nat.zero_le _⟩) rfl (fun r_1 u9 H locs hP hD hS h => ?_)
  have hP : va_P (dC, dI) vwCl (wC cI cJ qa C L) H := hP
  have hD : va_D A (wC cI cJ qa C L) := hD
  refine lv_if_eq (tgt := 13) hx hb dX9_itemFinding_8 (by decide) (fun c_2 => ?_) (fun c_2 => ?_)
  · have h := h.1 c_2
    refine lv_aload_n hx hb dX9_itemFinding_13 rfl (lv_at hl 0 rfl) ?_
    refine gf_v (k := 6) (v := .ref (qa 7 0)) cx' hP 0 i_X9 rfl rfl (by decide) kw_270 rfl rfl dX9_itemFinding_14 ?_
    refine gf_v (k := 1) (v := .ref (qa 7 2)) cx' hP 26 i_X5 rfl rfl (by decide) kw_181 rfl rfl dX9_itemFinding_17 ?_
    refine lv_iload_n hx hb dX9_itemFinding_20 rfl (lv_at hl 1 rfl) ?_
    refine va_iald hx hb hK hP 28 0 rfl rfl h.1 dX9_itemFinding_21 ?_
    have h := h.2
    refine lv_iload_n hx hb dX9_itemFinding_22 rfl (lv_at hl 2 rfl) ?_
    refine lv_icmp_eq (tgt := 28) hx hb dX9_itemFinding_23 (by decide) (fun c_3 => ?_) (fun c_3 => ?_)
    · have h := h.1 c_3
      refine lv_iload_n hx hb dX9_itemFinding_28 rfl (lv_at hl 3 rfl) ?_
      refine lv_if_lt (tgt := 45) hx hb dX9_itemFinding_29 (by decide) (fun c_4 => ?_) (fun c_4 => ?_)
      · have h := h.1 c_4
        refine lv_iconst (v := 2) hx hb dX9_itemFinding_45 (by decide) ?_
        refine lv_goto (tgt := 50) hx hb dX9_itemFinding_46 (by decide) ?_
        exact rt_i (v := 2) (u := ()) cx hP hD hS h dX9_itemFinding_50
      have h := h.2 c_4
      refine lv_iload_n hx hb dX9_itemFinding_32 rfl (lv_at hl 3 rfl) ?_
      refine lv_aload_n hx hb dX9_itemFinding_33 rfl (lv_at hl 0 rfl) ?_
      refine gf_v (k := 6) (v := .ref (qa 7 0)) cx' hP 0 i_X9 rfl rfl (by decide) kw_270 rfl rfl dX9_itemFinding_34 ?_
      refine gf_v (k := 2) (v := .ref (qa 7 3)) cx' hP 26 i_X5 rfl rfl (by decide) kw_183 rfl rfl dX9_itemFinding_37 ?_
      refine lv_iload_n hx hb dX9_itemFinding_40 rfl (lv_at hl 1 rfl) ?_
      refine va_iald hx hb hK hP 29 0 rfl rfl h.1 dX9_itemFinding_41 ?_
      have h := h.2
      refine lv_icmp_lt (tgt := 49) hx hb dX9_itemFinding_42 (by decide) (fun c_5 => ?_) (fun c_5 => ?_)
      · have h := h.1 c_5
        refine lv_iconst (v := 0) hx hb dX9_itemFinding_49 (by decide) ?_
        exact rt_i (v := 0) (u := ()) cx hP hD hS h dX9_itemFinding_50
      have h := h.2 c_5
      refine lv_iconst (v := 2) hx hb dX9_itemFinding_45 (by decide) ?_
      refine lv_goto (tgt := 50) hx hb dX9_itemFinding_46 (by decide) ?_
      exact rt_i (v := 2) (u := ()) cx hP hD hS h dX9_itemFinding_50
    have h := h.2 c_3
    refine lv_iconst (v := 3) hx hb dX9_itemFinding_26 (by decide) ?_
    exact rt_i (v := 3) (u := ()) cx hP hD hS h dX9_itemFinding_27
  have h := h.2 c_2
  refine lv_iconst (v := 1) hx hb dX9_itemFinding_11 (by decide) ?_
  exact rt_i (v := 1) (u := ()) cx hP hD hS h dX9_itemFinding_12
set_option maxRecDepth 100000 in
theorem c_X9_itemFinding (l : Launch) {dC : Nat → ClassId} {dI : Nat → Nat → Nat} {cI cJ : ClassId} (sz : Nat) (qa : Nat → Nat → Nat) (C : Nat → Mem) (L : MemL) (x1 : Int32) (x2 : Int32) (x3 : Int32) (post : Int32 → Prop) (h : wp_X9_itemFinding C L x1 x2 x3 post) : Met l yX9_itemFinding (Cond.code yX9_itemFinding cX9_itemFinding 4 (some .int) :: gt) ({ frames := 1, cells := 0, slots := 0, locals := 21 }) (va_Pc [.ref (qa 0 0), .int x1, .int x2, .int x3] (PRE (dC, dI) (TY cI cJ) (wC cI cJ qa C L) sz)) (va_Qi (S := Unit) (fun (r : Int32) (_u : Unit) => post r) (fun _u t => AT (dC, dI) (TY cI cJ) (va_A (wC cI cJ qa C L) sz) (wC cI cJ qa C L) t) (va_A (wC cI cJ qa C L) sz)) 0 0 (va_A (wC cI cJ qa C L) sz) :=
  met_of (own := RX9) (Qf := fun A => va_Qi (S := Unit) (fun (r : Int32) (_u : Unit) => post r) (fun _u t => AT (dC, dI) (TY cI cJ) A (wC cI cJ qa C L) t) A) (by decide) rfl (Nat.le_of_ble_eq_true rfl) rfl (fun p e s m below meth c A cx hA ls hP hD hS hl => w_X9_itemFinding_0 cx hA x1 x2 x3 _ _ ls hP hD hS hl h)
theorem mv_X9_itemFinding : MV yX9_itemFinding cX9_itemFinding 4 (some .int) 3 := ⟨⟨kw_628, kw_1, by decide +kernel⟩, kw_627, ksel_13⟩
set_option maxHeartbeats 4000000 in
set_option maxRecDepth 100000 in
theorem w_X9_lay_0 {p : Program} {l : Launch} {e : Env} {s : State} {m : MethodId} {args : Array Value} {below : List Frame} {meth : Method} {c : Code} {dC : Nat → ClassId} {dI : Nat → Nat → Nat} {cI cJ : ClassId} {A : Nat → Prop} (cx : CX RX9 cX9_lay (some .int) 6 p s m args meth c (dC, dI) (TY cI cJ)) (hA : ∀ q, s.heap.size ≤ q → A q) {qa : Nat → Nat → Nat} {post : Int32 → (Nat → Mem) → MemL → Prop} : ∀ (x1 : Int32) (x2 : Int32) (x3 : Int32) (x4 : Int32) (C : (Nat → Mem)) (L : MemL) (H : Heap) (locs : List Loc) (ls : Array Slot), va_P (dC, dI) vwCl (wC cI cJ qa C L) H → va_D A (wC cI cJ qa C L) → va_S A s.heap H locs → lv_has ls 6 [(0, .ref (qa 0 0)), (1, .int x1), (2, .int x2), (3, .int x3), (4, .int x4)] → b_X9_lay_0 post x1 x2 x3 x4 C L → W p l e ({ frames := 2, cells := 0, slots := 0, locals := 44 }) s m args below meth c H locs 0 0 (MQ below (va_Qi (S := (Nat → Mem) × MemL) (fun (r : Int32) (u : (Nat → Mem) × MemL) => post r u.1 u.2) (fun u t => AT (dC, dI) (TY cI cJ) A (wC cI cJ qa (u.1) (u.2)) t) A) args s 0 0 A) (F0 m 0 ls []) := by
  obtain ⟨hx, hb, hr, hml, hown, hts, hlocks, hK⟩ := id cx
  have cx' : CX RX9 cX9_lay (meth.sig.returnType) 6 p s m args meth c (dC, dI) (TY cI cJ) := ⟨hx, hb, rfl, hml, hown, hts, hlocks, hK⟩
  intro x1 x2 x3 x4 C L H locs ls hP hD hS hl h
  unfold b_X9_lay_0 at h
  refine lv_iload_n hx hb dX9_lay_0 rfl (lv_at hl 1 rfl) ?_
  refine callN_i (run_S (As := [.int x1]) (rest := []) (wc := []) cx' (c_X9_isSheet l H.size x1 _ h) ms_X9_isSheet kw_533 rfl rfl ⟨Nat.le_of_ble_eq_true rfl, Nat.le_of_ble_eq_true rfl⟩ nilP nilD (A := A) rfl hl.1 rfl (Nat.le_of_ble_eq_true rfl) dX9_lay_1 ⟨Nat.zero_le _, Nat.zero_le _⟩) hP hS hA (fun r_1 H locs hP hS h => ?_)
  refine lv_if_eq (tgt := 14) hx hb dX9_lay_4 (by decide) (fun c_2 => ?_) (fun c_2 => ?_)
  · have h := h.1 c_2
    refine lv_bipush (v := (-2)) hx hb dX9_lay_14 (by decide) ?_
    exact rt_i (v := (-2)) (u := (C, L)) cx hP hD hS h dX9_lay_16
  have h := h.2 c_2
  refine lv_iload_n hx hb dX9_lay_7 rfl (lv_at hl 2 rfl) ?_
  refine callN_i (run_S (As := [.int x2]) (rest := []) (wc := []) cx' (c_X9_isForm l H.size x2 _ h) ms_X9_isForm kw_610 rfl rfl ⟨Nat.le_of_ble_eq_true rfl, Nat.le_of_ble_eq_true rfl⟩ nilP nilD (A := A) rfl hl.1 rfl (Nat.le_of_ble_eq_true rfl) dX9_lay_8 ⟨Nat.zero_le _, Nat.zero_le _⟩) hP hS hA (fun r_3 H locs hP hS h => ?_)
  refine lv_if_ne (tgt := 17) hx hb dX9_lay_11 (by decide) (fun c_4 => ?_) (fun c_4 => ?_)
  · have h := h.1 c_4
    refine lv_aload_n hx hb dX9_lay_17 rfl (lv_at hl 0 rfl) ?_
    refine lv_iload_n hx hb dX9_lay_18 rfl (lv_at hl 1 rfl) ?_
    refine lv_iload_n hx hb dX9_lay_19 rfl (lv_at hl 2 rfl) ?_
    refine lv_iload_n hx hb dX9_lay_20 rfl (lv_at hl 3 rfl) ?_
    refine call_i (run_V (As := [.int x1, .int x2, .int x3]) (rest := []) cx' (c_X9_itemFinding l H.size qa C L x1 x2 x3 _ h) mv_X9_itemFinding kw_625 rfl rfl ⟨Nat.le_of_ble_eq_true rfl, Nat.le_of_ble_eq_true rfl⟩ hP hD rfl rfl rfl hl.1 rfl (Nat.le_of_ble_eq_true rfl) dX9_lay_21 ⟨Nat.zero_le _, Nat.zero_le _⟩) hD hS hA (fun r_5 u9 H locs hP hD hS h => ?_)
    have hP : va_P (dC, dI) vwCl (wC cI cJ qa C L) H := hP
    have hD : va_D A (wC cI cJ qa C L) := hD
    refine lv_istore (lv' := [(5, .int r_5), (0, .ref (qa 0 0)), (1, .int x1), (2, .int x2), (3, .int x3), (4, .int x4)]) hx hb dX9_lay_24 hl (by decide) rfl (fun ls hl => ?_)
    refine lv_iload hx hb dX9_lay_26 (lv_at hl 0 rfl) ?_
    refine lv_if_eq (tgt := 38) hx hb dX9_lay_28 (by decide) (fun c_6 => ?_) (fun c_6 => ?_)
    · have h := h.1 c_6
      refine lv_aload_n hx hb dX9_lay_38 rfl (lv_at hl 1 rfl) ?_
      refine gf_v (k := 6) (v := .ref (qa 7 0)) cx' hP 0 i_X9 rfl rfl (by decide) kw_270 rfl rfl dX9_lay_39 ?_
      refine lv_iload_n hx hb dX9_lay_42 rfl (lv_at hl 2 rfl) ?_
      refine lv_iload_n hx hb dX9_lay_43 rfl (lv_at hl 4 rfl) ?_
      refine lv_iload hx hb dX9_lay_44 (lv_at hl 5 rfl) ?_
      refine callP_v (wc := ww_X5 cI cJ (qa 7) (C 7)) (wr_C_7 cI cJ qa C L) (fun (u : Mem) => wC cI cJ qa (up3 C 7 (u)) L) [26, 27, 28, 29] [0, 1, 2, 3, 4, 5, 6, 7, 8, 9, 10, 11, 12, 13, 14, 15, 16, 17, 18, 19, 20, 21, 22, 23, 24, 25, 30, 31, 32, 33, 34, 35, 36, 37, 38, 39] [0, 1, 2, 3, 4, 5, 6, 7, 8, 9, 10, 11, 12, 13, 14, 15, 16, 17, 18, 19, 20, 21, 22, 23, 24, 25, 36, 37, 38, 39, 26, 27, 28, 29, 30, 31, 32, 33, 34, 35] rfl rfl rfl (by decide) (fun _ => rfl) rfl hP hD hS hA (fun hPc hDc => run_V (As := [.int x1, .int x3, .int x4]) (rest := []) cx' (c_X5_put l H.size (qa 7) (C 7) x1 x3 x4 _ h) mv_X5_put kw_629 rfl rfl ⟨Nat.le_of_ble_eq_true rfl, Nat.le_of_ble_eq_true rfl⟩ hPc hDc rfl rfl rfl hl.1 rfl (Nat.le_of_ble_eq_true rfl) dX9_lay_46 ⟨Nat.zero_le _, Nat.zero_le _⟩) rfl (fun u9 H locs hP hD hS h => ?_)
      obtain ⟨u_7, rfl⟩ : ∃ z, z = u9 := ⟨_, rfl⟩
      obtain ⟨C_8, eC_8⟩ : ∃ z : Nat → Mem, z = up3 C 7 u_7 := ⟨_, rfl⟩
      have h := h C_8 eC_8
      have hP : va_P (dC, dI) vwCl (wC cI cJ qa C_8 L) H := by subst eC_8; exact hP
      have hD : va_D A (wC cI cJ qa C_8 L) := by subst eC_8; exact hD
      refine lv_iconst (v := 1) hx hb dX9_lay_49 (by decide) ?_
      exact rt_i (v := 1) (u := (C_8, L)) cx hP hD hS h dX9_lay_50
    have h := h.2 c_6
    refine lv_aload_n hx hb dX9_lay_31 rfl (lv_at hl 1 rfl) ?_
    refine lv_iload hx hb dX9_lay_32 (lv_at hl 0 rfl) ?_
    refine call_i (run_V (As := [.int r_5]) (rest := []) cx' (c_X9_found l H.size qa C L r_5 _ h) mv_X9_found kw_540 rfl rfl ⟨Nat.le_of_ble_eq_true rfl, Nat.le_of_ble_eq_true rfl⟩ hP hD rfl rfl rfl hl.1 rfl (Nat.le_of_ble_eq_true rfl) dX9_lay_34 ⟨Nat.zero_le _, Nat.zero_le _⟩) hD hS hA (fun r_9 u9 H locs hP hD hS h => ?_)
    obtain ⟨C_10, L_11⟩ := u9
    have hP : va_P (dC, dI) vwCl (wC cI cJ qa C_10 L_11) H := hP
    have hD : va_D A (wC cI cJ qa C_10 L_11) := hD
    exact rt_i (v := r_9) (u := (C_10, L_11)) cx hP hD hS h dX9_lay_37
  have h := h.2 c_4
  refine lv_bipush (v := (-2)) hx hb dX9_lay_14 (by decide) ?_
  exact rt_i (v := (-2)) (u := (C, L)) cx hP hD hS h dX9_lay_16
set_option maxRecDepth 100000 in
theorem c_X9_lay (l : Launch) {dC : Nat → ClassId} {dI : Nat → Nat → Nat} {cI cJ : ClassId} (sz : Nat) (qa : Nat → Nat → Nat) (C : Nat → Mem) (L : MemL) (x1 : Int32) (x2 : Int32) (x3 : Int32) (x4 : Int32) (post : Int32 → (Nat → Mem) → MemL → Prop) (h : wp_X9_lay C L x1 x2 x3 x4 post) : Met l yX9_lay (Cond.code yX9_lay cX9_lay 6 (some .int) :: gt) ({ frames := 2, cells := 0, slots := 0, locals := 44 }) (va_Pc [.ref (qa 0 0), .int x1, .int x2, .int x3, .int x4] (PRE (dC, dI) (TY cI cJ) (wC cI cJ qa C L) sz)) (va_Qi (S := (Nat → Mem) × MemL) (fun (r : Int32) (u : (Nat → Mem) × MemL) => post r u.1 u.2) (fun u t => AT (dC, dI) (TY cI cJ) (va_A (wC cI cJ qa C L) sz) (wC cI cJ qa (u.1) (u.2)) t) (va_A (wC cI cJ qa C L) sz)) 0 0 (va_A (wC cI cJ qa C L) sz) :=
  met_of (own := RX9) (Qf := fun A => va_Qi (S := (Nat → Mem) × MemL) (fun (r : Int32) (u : (Nat → Mem) × MemL) => post r u.1 u.2) (fun u t => AT (dC, dI) (TY cI cJ) A (wC cI cJ qa (u.1) (u.2)) t) A) (by decide) rfl (Nat.le_of_ble_eq_true rfl) rfl (fun p e s m below meth c A cx hA ls hP hD hS hl => w_X9_lay_0 cx hA x1 x2 x3 x4 C L _ _ ls hP hD hS hl h)
theorem mv_X9_lay : MV yX9_lay cX9_lay 6 (some .int) 4 := ⟨⟨kw_624, kw_1, by decide +kernel⟩, kw_622, kw_623⟩
set_option maxHeartbeats 4000000 in
set_option maxRecDepth 100000 in
theorem w_X9_get_14 {p : Program} {l : Launch} {e : Env} {s : State} {m : MethodId} {args : Array Value} {below : List Frame} {meth : Method} {c : Code} {dC : Nat → ClassId} {dI : Nat → Nat → Nat} {cI cJ : ClassId} {A : Nat → Prop} (cx : CX RX9 cX9_get (some .int) 5 p s m args meth c (dC, dI) (TY cI cJ)) (hA : ∀ q, s.heap.size ≤ q → A q) {qa : Nat → Nat → Nat} {post : Int32 → (Nat → Mem) → MemL → Prop} : ∀ (C : (Nat → Mem)) (L : MemL) (H : Heap) (locs : List Loc) (ls : Array Slot), va_P (dC, dI) vwCl (wC cI cJ qa C L) H → va_D A (wC cI cJ qa C L) → va_S A s.heap H locs → lv_has ls 5 [] → b_X9_get_14 post C L → W p l e ({ frames := 2, cells := 0, slots := 0, locals := 44 }) s m args below meth c H locs 0 0 (MQ below (va_Qi (S := (Nat → Mem) × MemL) (fun (r : Int32) (u : (Nat → Mem) × MemL) => post r u.1 u.2) (fun u t => AT (dC, dI) (TY cI cJ) A (wC cI cJ qa (u.1) (u.2)) t) A) args s 0 0 A) (F0 m 14 ls []) := by
  obtain ⟨hx, hb, hr, hml, hown, hts, hlocks, hK⟩ := id cx
  have cx' : CX RX9 cX9_get (meth.sig.returnType) 5 p s m args meth c (dC, dI) (TY cI cJ) := ⟨hx, hb, rfl, hml, hown, hts, hlocks, hK⟩
  intro C L H locs ls hP hD hS hl h
  unfold b_X9_get_14 at h
  refine lv_ldcw hx hb hown (hts _ kw_637) dX9_get_14 ?_
  exact rt_i (v := (-2147483648)) (u := (C, L)) cx hP hD hS h dX9_get_17
set_option maxHeartbeats 4000000 in
set_option maxRecDepth 100000 in
theorem w_X9_get_0 {p : Program} {l : Launch} {e : Env} {s : State} {m : MethodId} {args : Array Value} {below : List Frame} {meth : Method} {c : Code} {dC : Nat → ClassId} {dI : Nat → Nat → Nat} {cI cJ : ClassId} {A : Nat → Prop} (cx : CX RX9 cX9_get (some .int) 5 p s m args meth c (dC, dI) (TY cI cJ)) (hA : ∀ q, s.heap.size ≤ q → A q) {qa : Nat → Nat → Nat} {post : Int32 → (Nat → Mem) → MemL → Prop} : ∀ (x1 : Int32) (x2 : Int32) (x3 : Int32) (C : (Nat → Mem)) (L : MemL) (H : Heap) (locs : List Loc) (ls : Array Slot), va_P (dC, dI) vwCl (wC cI cJ qa C L) H → va_D A (wC cI cJ qa C L) → va_S A s.heap H locs → lv_has ls 5 [(0, .ref (qa 0 0)), (1, .int x1), (2, .int x2), (3, .int x3)] → b_X9_get_0 post x1 x2 x3 C L → W p l e ({ frames := 2, cells := 0, slots := 0, locals := 44 }) s m args below meth c H locs 0 0 (MQ below (va_Qi (S := (Nat → Mem) × MemL) (fun (r : Int32) (u : (Nat → Mem) × MemL) => post r u.1 u.2) (fun u t => AT (dC, dI) (TY cI cJ) A (wC cI cJ qa (u.1) (u.2)) t) A) args s 0 0 A) (F0 m 0 ls []) := by
  obtain ⟨hx, hb, hr, hml, hown, hts, hlocks, hK⟩ := id cx
  have cx' : CX RX9 cX9_get (meth.sig.returnType) 5 p s m args meth c (dC, dI) (TY cI cJ) := ⟨hx, hb, rfl, hml, hown, hts, hlocks, hK⟩
  intro x1 x2 x3 C L H locs ls hP hD hS hl h
  unfold b_X9_get_0 at h
  refine lv_iload_n hx hb dX9_get_0 rfl (lv_at hl 1 rfl) ?_
  refine callN_i (run_S (As := [.int x1]) (rest := []) (wc := []) cx' (c_X9_isSheet l H.size x1 _ h) ms_X9_isSheet kw_533 rfl rfl ⟨Nat.le_of_ble_eq_true rfl, Nat.le_of_ble_eq_true rfl⟩ nilP nilD (A := A) rfl hl.1 rfl (Nat.le_of_ble_eq_true rfl) dX9_get_1 ⟨Nat.zero_le _, Nat.zero_le _⟩) hP hS hA (fun r_1 H locs hP hS h => ?_)
  refine lv_if_eq (tgt := 14) hx hb dX9_get_4 (by decide) (fun c_2 => ?_) (fun c_2 => ?_)
  · have h := h.1 c_2
    exact w_X9_get_14 cx hA C L H locs ls hP hD hS (lv_sub hl [] rfl) h
  have h := h.2 c_2
  refine lv_iload_n hx hb dX9_get_7 rfl (lv_at hl 2 rfl) ?_
  refine callN_i (run_S (As := [.int x2]) (rest := []) (wc := []) cx' (c_X9_isForm l H.size x2 _ h) ms_X9_isForm kw_610 rfl rfl ⟨Nat.le_of_ble_eq_true rfl, Nat.le_of_ble_eq_true rfl⟩ nilP nilD (A := A) rfl hl.1 rfl (Nat.le_of_ble_eq_true rfl) dX9_get_8 ⟨Nat.zero_le _, Nat.zero_le _⟩) hP hS hA (fun r_3 H locs hP hS h => ?_)
  refine lv_if_ne (tgt := 18) hx hb dX9_get_11 (by decide) (fun c_4 => ?_) (fun c_4 => ?_)
  · have h := h.1 c_4
    refine lv_aload_n hx hb dX9_get_18 rfl (lv_at hl 0 rfl) ?_
    refine lv_iload_n hx hb dX9_get_19 rfl (lv_at hl 1 rfl) ?_
    refine lv_iload_n hx hb dX9_get_20 rfl (lv_at hl 2 rfl) ?_
    refine lv_iload_n hx hb dX9_get_21 rfl (lv_at hl 3 rfl) ?_
    refine call_i (run_V (As := [.int x1, .int x2, .int x3]) (rest := []) cx' (c_X9_itemFinding l H.size qa C L x1 x2 x3 _ h) mv_X9_itemFinding kw_625 rfl rfl ⟨Nat.le_of_ble_eq_true rfl, Nat.le_of_ble_eq_true rfl⟩ hP hD rfl rfl rfl hl.1 rfl (Nat.le_of_ble_eq_true rfl) dX9_get_22 ⟨Nat.zero_le _, Nat.zero_le _⟩) hD hS hA (fun r_5 u9 H locs hP hD hS h => ?_)
    have hP : va_P (dC, dI) vwCl (wC cI cJ qa C L) H := hP
    have hD : va_D A (wC cI cJ qa C L) := hD
    refine lv_istore (lv' := [(4, .int r_5), (0, .ref (qa 0 0)), (1, .int x1), (2, .int x2), (3, .int x3)]) hx hb dX9_get_25 hl (by decide) rfl (fun ls hl => ?_)
    refine lv_iload hx hb dX9_get_27 (lv_at hl 0 rfl) ?_
    refine lv_if_eq (tgt := 42) hx hb dX9_get_29 (by decide) (fun c_6 => ?_) (fun c_6 => ?_)
    · have h := h.1 c_6
      refine lv_aload_n hx hb dX9_get_42 rfl (lv_at hl 1 rfl) ?_
      refine gf_v (k := 6) (v := .ref (qa 7 0)) cx' hP 0 i_X9 rfl rfl (by decide) kw_270 rfl rfl dX9_get_43 ?_
      refine lv_iload_n hx hb dX9_get_46 rfl (lv_at hl 2 rfl) ?_
      refine lv_iload_n hx hb dX9_get_47 rfl (lv_at hl 4 rfl) ?_
      refine callP_i (wc := ww_X5 cI cJ (qa 7) (C 7)) (wr_C_7 cI cJ qa C L) (fun (_u : Unit) => wC cI cJ qa C L) [26, 27, 28, 29] [0, 1, 2, 3, 4, 5, 6, 7, 8, 9, 10, 11, 12, 13, 14, 15, 16, 17, 18, 19, 20, 21, 22, 23, 24, 25, 30, 31, 32, 33, 34, 35, 36, 37, 38, 39] [0, 1, 2, 3, 4, 5, 6, 7, 8, 9, 10, 11, 12, 13, 14, 15, 16, 17, 18, 19, 20, 21, 22, 23, 24, 25, 36, 37, 38, 39, 26, 27, 28, 29, 30, 31, 32, 33, 34, 35] rfl rfl rfl (by decide) (fun _ => rfl) rfl hP hD hS hA (fun hPc hDc => run_V (As := [.int x1, .int x3]) (rest := []) cx' (c_X5_item l H.size (qa 7) (C 7) x1 x3 _ h) mv_X5_item kw_544 rfl rfl ⟨Nat.le_of_ble_eq_true rfl, Nat.le_of_ble_eq_true rfl⟩ hPc hDc rfl rfl rfl hl.1 rfl (Nat.le_of_ble_eq_true rfl) dX9_get_48 ⟨Nat.zero_le _, Nat.zero_le _⟩) rfl (fun r_7 u9 H locs hP hD hS h => ?_)
      have hP : va_P (dC, dI) vwCl (wC cI cJ qa C L) H := hP
      have hD : va_D A (wC cI cJ qa C L) := hD
      exact rt_i (v := r_7) (u := (C, L)) cx hP hD hS h dX9_get_51
    have h := h.2 c_6
    refine lv_aload_n hx hb dX9_get_32 rfl (lv_at hl 1 rfl) ?_
    refine lv_iload hx hb dX9_get_33 (lv_at hl 0 rfl) ?_
    obtain ⟨C_8, eC_8⟩ : ∃ z : Nat → Mem, z = up3 C 0 (up2 (C 0) 0 11 r_5) := ⟨_, rfl⟩
    have h := h C_8 eC_8
    refine pf_v (k := 11) (tf := .int) cx' hP hD hS 0 (wC cI cJ qa C_8 L) i_X9 tyX9 tyX9_ok nmX9 rfl rfl (by decide) kw_275 rfl rfl rfl rfl rfl (Nat.le_of_ble_eq_true rfl) dX9_get_35 (by subst eC_8; rfl) (fun H locs hP hD hS => ?_)
    refine lv_ldcw hx hb hown (hts _ kw_637) dX9_get_38 ?_
    exact rt_i (v := (-2147483648)) (u := (C_8, L)) cx hP hD hS h dX9_get_41
  have h := h.2 c_4
  exact w_X9_get_14 cx hA C L H locs ls hP hD hS (lv_sub hl [] rfl) h
set_option maxRecDepth 100000 in
theorem c_X9_get (l : Launch) {dC : Nat → ClassId} {dI : Nat → Nat → Nat} {cI cJ : ClassId} (sz : Nat) (qa : Nat → Nat → Nat) (C : Nat → Mem) (L : MemL) (x1 : Int32) (x2 : Int32) (x3 : Int32) (post : Int32 → (Nat → Mem) → MemL → Prop) (h : wp_X9_get C L x1 x2 x3 post) : Met l yX9_get (Cond.code yX9_get cX9_get 5 (some .int) :: gt) ({ frames := 2, cells := 0, slots := 0, locals := 44 }) (va_Pc [.ref (qa 0 0), .int x1, .int x2, .int x3] (PRE (dC, dI) (TY cI cJ) (wC cI cJ qa C L) sz)) (va_Qi (S := (Nat → Mem) × MemL) (fun (r : Int32) (u : (Nat → Mem) × MemL) => post r u.1 u.2) (fun u t => AT (dC, dI) (TY cI cJ) (va_A (wC cI cJ qa C L) sz) (wC cI cJ qa (u.1) (u.2)) t) (va_A (wC cI cJ qa C L) sz)) 0 0 (va_A (wC cI cJ qa C L) sz) :=
  met_of (own := RX9) (Qf := fun A => va_Qi (S := (Nat → Mem) × MemL) (fun (r : Int32) (u : (Nat → Mem) × MemL) => post r u.1 u.2) (fun u t => AT (dC, dI) (TY cI cJ) A (wC cI cJ qa (u.1) (u.2)) t) A) (by decide) rfl (Nat.le_of_ble_eq_true rfl) rfl (fun p e s m below meth c A cx hA ls hP hD hS hl => w_X9_get_0 cx hA x1 x2 x3 C L _ _ ls hP hD hS hl h)
theorem mv_X9_get : MV yX9_get cX9_get 5 (some .int) 3 := ⟨⟨kw_636, kw_1, by decide +kernel⟩, kw_634, kw_635⟩
set_option maxHeartbeats 4000000 in
set_option maxRecDepth 100000 in
theorem w_X9_copy_101 {p : Program} {l : Launch} {e : Env} {s : State} {m : MethodId} {args : Array Value} {below : List Frame} {meth : Method} {c : Code} {dC : Nat → ClassId} {dI : Nat → Nat → Nat} {cI cJ : ClassId} {A : Nat → Prop} (cx : CX RX9 cX9_copy (some .int) 6 p s m args meth c (dC, dI) (TY cI cJ)) (hA : ∀ q, s.heap.size ≤ q → A q) {qa : Nat → Nat → Nat} {post : Int32 → (Nat → Mem) → MemL → Prop} : ∀ (C : (Nat → Mem)) (L : MemL) (H : Heap) (locs : List Loc) (ls : Array Slot), va_P (dC, dI) vwCl (wC cI cJ qa C L) H → va_D A (wC cI cJ qa C L) → va_S A s.heap H locs → lv_has ls 6 [(0, .ref (qa 0 0))] → b_X9_copy_101 post C L → W p l e ({ frames := 2, cells := 0, slots := 0, locals := 65 }) s m args below meth c H locs 0 0 (MQ below (va_Qi (S := (Nat → Mem) × MemL) (fun (r : Int32) (u : (Nat → Mem) × MemL) => post r u.1 u.2) (fun u t => AT (dC, dI) (TY cI cJ) A (wC cI cJ qa (u.1) (u.2)) t) A) args s 0 0 A) (F0 m 101 ls []) := by
  obtain ⟨hx, hb, hr, hml, hown, hts, hlocks, hK⟩ := id cx
  have cx' : CX RX9 cX9_copy (meth.sig.returnType) 6 p s m args meth c (dC, dI) (TY cI cJ) := ⟨hx, hb, rfl, hml, hown, hts, hlocks, hK⟩
  intro C L H locs ls hP hD hS hl h
  unfold b_X9_copy_101 at h
  refine lv_aload_n hx hb dX9_copy_101 rfl (lv_at hl 0 rfl) ?_
  refine lv_iconst (v := 2) hx hb dX9_copy_102 (by decide) ?_
  refine call_i (run_V (As := [.int 2]) (rest := []) cx' (c_X9_found l H.size qa C L 2 _ h) mv_X9_found kw_540 rfl rfl ⟨Nat.le_of_ble_eq_true rfl, Nat.le_of_ble_eq_true rfl⟩ hP hD rfl rfl rfl hl.1 rfl (Nat.le_of_ble_eq_true rfl) dX9_copy_103 ⟨Nat.zero_le _, Nat.zero_le _⟩) hD hS hA (fun r_1 u9 H locs hP hD hS h => ?_)
  obtain ⟨C_2, L_3⟩ := u9
  have hP : va_P (dC, dI) vwCl (wC cI cJ qa C_2 L_3) H := hP
  have hD : va_D A (wC cI cJ qa C_2 L_3) := hD
  exact rt_i (v := r_1) (u := (C_2, L_3)) cx hP hD hS h dX9_copy_106
set_option maxHeartbeats 4000000 in
set_option maxRecDepth 100000 in
theorem w_X9_copy_39 {p : Program} {l : Launch} {e : Env} {s : State} {m : MethodId} {args : Array Value} {below : List Frame} {meth : Method} {c : Code} {dC : Nat → ClassId} {dI : Nat → Nat → Nat} {cI cJ : ClassId} {A : Nat → Prop} (cx : CX RX9 cX9_copy (some .int) 6 p s m args meth c (dC, dI) (TY cI cJ)) (hA : ∀ q, s.heap.size ≤ q → A q) {qa : Nat → Nat → Nat} {post : Int32 → (Nat → Mem) → MemL → Prop} : ∀ (C : (Nat → Mem)) (L : MemL) (H : Heap) (locs : List Loc) (ls : Array Slot), va_P (dC, dI) vwCl (wC cI cJ qa C L) H → va_D A (wC cI cJ qa C L) → va_S A s.heap H locs → lv_has ls 6 [(0, .ref (qa 0 0))] → b_X9_copy_39 post C L → W p l e ({ frames := 2, cells := 0, slots := 0, locals := 65 }) s m args below meth c H locs 0 0 (MQ below (va_Qi (S := (Nat → Mem) × MemL) (fun (r : Int32) (u : (Nat → Mem) × MemL) => post r u.1 u.2) (fun u t => AT (dC, dI) (TY cI cJ) A (wC cI cJ qa (u.1) (u.2)) t) A) args s 0 0 A) (F0 m 39 ls []) := by
  obtain ⟨hx, hb, hr, hml, hown, hts, hlocks, hK⟩ := id cx
  have cx' : CX RX9 cX9_copy (meth.sig.returnType) 6 p s m args meth c (dC, dI) (TY cI cJ) := ⟨hx, hb, rfl, hml, hown, hts, hlocks, hK⟩
  intro C L H locs ls hP hD hS hl h
  unfold b_X9_copy_39 at h
  refine lv_aload_n hx hb dX9_copy_39 rfl (lv_at hl 0 rfl) ?_
  refine lv_iconst (v := 1) hx hb dX9_copy_40 (by decide) ?_
  refine call_i (run_V (As := [.int 1]) (rest := []) cx' (c_X9_found l H.size qa C L 1 _ h) mv_X9_found kw_540 rfl rfl ⟨Nat.le_of_ble_eq_true rfl, Nat.le_of_ble_eq_true rfl⟩ hP hD rfl rfl rfl hl.1 rfl (Nat.le_of_ble_eq_true rfl) dX9_copy_41 ⟨Nat.zero_le _, Nat.zero_le _⟩) hD hS hA (fun r_1 u9 H locs hP hD hS h => ?_)
  obtain ⟨C_2, L_3⟩ := u9
  have hP : va_P (dC, dI) vwCl (wC cI cJ qa C_2 L_3) H := hP
  have hD : va_D A (wC cI cJ qa C_2 L_3) := hD
  exact rt_i (v := r_1) (u := (C_2, L_3)) cx hP hD hS h dX9_copy_44
set_option maxHeartbeats 4000000 in
set_option maxRecDepth 100000 in
theorem w_X9_copy_0 {p : Program} {l : Launch} {e : Env} {s : State} {m : MethodId} {args : Array Value} {below : List Frame} {meth : Method} {c : Code} {dC : Nat → ClassId} {dI : Nat → Nat → Nat} {cI cJ : ClassId} {A : Nat → Prop} (cx : CX RX9 cX9_copy (some .int) 6 p s m args meth c (dC, dI) (TY cI cJ)) (hA : ∀ q, s.heap.size ≤ q → A q) {qa : Nat → Nat → Nat} {post : Int32 → (Nat → Mem) → MemL → Prop} : ∀ (x1 : Int32) (x2 : Int32) (x3 : Int32) (x4 : Int32) (x5 : Int32) (C : (Nat → Mem)) (L : MemL) (H : Heap) (locs : List Loc) (ls : Array Slot), va_P (dC, dI) vwCl (wC cI cJ qa C L) H → va_D A (wC cI cJ qa C L) → va_S A s.heap H locs → lv_has ls 6 [(0, .ref (qa 0 0)), (1, .int x1), (2, .int x2), (3, .int x3), (4, .int x4), (5, .int x5)] → b_X9_copy_0 post x1 x2 x3 x4 x5 C L → W p l e ({ frames := 2, cells := 0, slots := 0, locals := 65 }) s m args below meth c H locs 0 0 (MQ below (va_Qi (S := (Nat → Mem) × MemL) (fun (r : Int32) (u : (Nat → Mem) × MemL) => post r u.1 u.2) (fun u t => AT (dC, dI) (TY cI cJ) A (wC cI cJ qa (u.1) (u.2)) t) A) args s 0 0 A) (F0 m 0 ls []) := by
  obtain ⟨hx, hb, hr, hml, hown, hts, hlocks, hK⟩ := id cx
  have cx' : CX RX9 cX9_copy (meth.sig.returnType) 6 p s m args meth c (dC, dI) (TY cI cJ) := ⟨hx, hb, rfl, hml, hown, hts, hlocks, hK⟩
  intro x1 x2 x3 x4 x5 C L H locs ls hP hD hS hl h
  unfold b_X9_copy_0 at h
  refine lv_iload_n hx hb dX9_copy_0 rfl (lv_at hl 1 rfl) ?_
  refine callN_i (run_S (As := [.int x1]) (rest := []) (wc := []) cx' (c_X9_isSheet l H.size x1 _ h) ms_X9_isSheet kw_533 rfl rfl ⟨Nat.le_of_ble_eq_true rfl, Nat.le_of_ble_eq_true rfl⟩ nilP nilD (A := A) rfl hl.1 rfl (Nat.le_of_ble_eq_true rfl) dX9_copy_1 ⟨Nat.zero_le _, Nat.zero_le _⟩) hP hS hA (fun r_1 H locs hP hS h => ?_)
  refine lv_if_eq (tgt := 14) hx hb dX9_copy_4 (by decide) (fun c_2 => ?_) (fun c_2 => ?_)
  · have h := h.1 c_2
    refine lv_bipush (v := (-2)) hx hb dX9_copy_14 (by decide) ?_
    exact rt_i (v := (-2)) (u := (C, L)) cx hP hD hS h dX9_copy_16
  have h := h.2 c_2
  refine lv_iload_n hx hb dX9_copy_7 rfl (lv_at hl 3 rfl) ?_
  refine callN_i (run_S (As := [.int x3]) (rest := []) (wc := []) cx' (c_X9_isSheet l H.size x3 _ h) ms_X9_isSheet kw_533 rfl rfl ⟨Nat.le_of_ble_eq_true rfl, Nat.le_of_ble_eq_true rfl⟩ nilP nilD (A := A) rfl hl.1 rfl (Nat.le_of_ble_eq_true rfl) dX9_copy_8 ⟨Nat.zero_le _, Nat.zero_le _⟩) hP hS hA (fun r_3 H locs hP hS h => ?_)
  refine lv_if_ne (tgt := 17) hx hb dX9_copy_11 (by decide) (fun c_4 => ?_) (fun c_4 => ?_)
  · have h := h.1 c_4
    refine lv_aload_n hx hb dX9_copy_17 rfl (lv_at hl 0 rfl) ?_
    refine gf_v (k := 6) (v := .ref (qa 7 0)) cx' hP 0 i_X9 rfl rfl (by decide) kw_270 rfl rfl dX9_copy_18 ?_
    refine lv_iload_n hx hb dX9_copy_21 rfl (lv_at hl 1 rfl) ?_
    refine callP_i (wc := ww_X5 cI cJ (qa 7) (C 7)) (wr_C_7 cI cJ qa C L) (fun (_u : Unit) => wC cI cJ qa C L) [26, 27, 28, 29] [0, 1, 2, 3, 4, 5, 6, 7, 8, 9, 10, 11, 12, 13, 14, 15, 16, 17, 18, 19, 20, 21, 22, 23, 24, 25, 30, 31, 32, 33, 34, 35, 36, 37, 38, 39] [0, 1, 2, 3, 4, 5, 6, 7, 8, 9, 10, 11, 12, 13, 14, 15, 16, 17, 18, 19, 20, 21, 22, 23, 24, 25, 36, 37, 38, 39, 26, 27, 28, 29, 30, 31, 32, 33, 34, 35] rfl rfl rfl (by decide) (fun _ => rfl) rfl hP hD hS hA (fun hPc hDc => run_V (As := [.int x1]) (rest := []) cx' (c_X5_isLost l H.size (qa 7) (C 7) x1 _ h) mv_X5_isLost kw_536 rfl rfl ⟨Nat.le_of_ble_eq_true rfl, Nat.le_of_ble_eq_true rfl⟩ hPc hDc rfl rfl rfl hl.1 rfl (Nat.le_of_ble_eq_true rfl) dX9_copy_22 ⟨Nat.zero_le _, Nat.zero_le _⟩) rfl (fun r_5 u9 H locs hP hD hS h => ?_)
    have hP : va_P (dC, dI) vwCl (wC cI cJ qa C L) H := hP
    have hD : va_D A (wC cI cJ qa C L) := hD
    refine lv_if_ne (tgt := 39) hx hb dX9_copy_25 (by decide) (fun c_6 => ?_) (fun c_6 => ?_)
    · have h := h.1 c_6
      exact w_X9_copy_39 cx hA C L H locs ls hP hD hS (lv_sub hl [0] rfl) h
    have h := h.2 c_6
    refine lv_aload_n hx hb dX9_copy_28 rfl (lv_at hl 0 rfl) ?_
    refine gf_v (k := 6) (v := .ref (qa 7 0)) cx' hP 0 i_X9 rfl rfl (by decide) kw_270 rfl rfl dX9_copy_29 ?_
    refine lv_iload_n hx hb dX9_copy_32 rfl (lv_at hl 3 rfl) ?_
    refine callP_i (wc := ww_X5 cI cJ (qa 7) (C 7)) (wr_C_7 cI cJ qa C L) (fun (_u : Unit) => wC cI cJ qa C L) [26, 27, 28, 29] [0, 1, 2, 3, 4, 5, 6, 7, 8, 9, 10, 11, 12, 13, 14, 15, 16, 17, 18, 19, 20, 21, 22, 23, 24, 25, 30, 31, 32, 33, 34, 35, 36, 37, 38, 39] [0, 1, 2, 3, 4, 5, 6, 7, 8, 9, 10, 11, 12, 13, 14, 15, 16, 17, 18, 19, 20, 21, 22, 23, 24, 25, 36, 37, 38, 39, 26, 27, 28, 29, 30, 31, 32, 33, 34, 35] rfl rfl rfl (by decide) (fun _ => rfl) rfl hP hD hS hA (fun hPc hDc => run_V (As := [.int x3]) (rest := []) cx' (c_X5_isLost l H.size (qa 7) (C 7) x3 _ h) mv_X5_isLost kw_536 rfl rfl ⟨Nat.le_of_ble_eq_true rfl, Nat.le_of_ble_eq_true rfl⟩ hPc hDc rfl rfl rfl hl.1 rfl (Nat.le_of_ble_eq_true rfl) dX9_copy_33 ⟨Nat.zero_le _, Nat.zero_le _⟩) rfl (fun r_7 u9 H locs hP hD hS h => ?_)
    have hP : va_P (dC, dI) vwCl (wC cI cJ qa C L) H := hP
    have hD : va_D A (wC cI cJ qa C L) := hD
    refine lv_if_eq (tgt := 45) hx hb dX9_copy_36 (by decide) (fun c_8 => ?_) (fun c_8 => ?_)
    · have h := h.1 c_8
      refine lv_aload_n hx hb dX9_copy_45 rfl (lv_at hl 0 rfl) ?_
      refine gf_v (k := 6) (v := .ref (qa 7 0)) cx' hP 0 i_X9 rfl rfl (by decide) kw_270 rfl rfl dX9_copy_46 ?_
      refine gf_v (k := 1) (v := .ref (qa 7 2)) cx' hP 26 i_X5 rfl rfl (by decide) kw_181 rfl rfl dX9_copy_49 ?_
      refine lv_iload_n hx hb dX9_copy_52 rfl (lv_at hl 1 rfl) ?_
      refine va_iald hx hb hK hP 28 0 rfl rfl h.1 dX9_copy_53 ?_
      have h := h.2
      refine lv_aload_n hx hb dX9_copy_54 rfl (lv_at hl 0 rfl) ?_
      refine gf_v (k := 6) (v := .ref (qa 7 0)) cx' hP 0 i_X9 rfl rfl (by decide) kw_270 rfl rfl dX9_copy_55 ?_
      refine gf_v (k := 1) (v := .ref (qa 7 2)) cx' hP 26 i_X5 rfl rfl (by decide) kw_181 rfl rfl dX9_copy_58 ?_
      refine lv_iload_n hx hb dX9_copy_61 rfl (lv_at hl 3 rfl) ?_
      refine va_iald hx hb hK hP 28 0 rfl rfl h.1 dX9_copy_62 ?_
      have h := h.2
      refine lv_icmp_eq (tgt := 72) hx hb dX9_copy_63 (by decide) (fun c_9 => ?_) (fun c_9 => ?_)
      · have h := h.1 c_9
        refine lv_aload_n hx hb dX9_copy_72 rfl (lv_at hl 0 rfl) ?_
        refine gf_v (k := 6) (v := .ref (qa 7 0)) cx' hP 0 i_X9 rfl rfl (by decide) kw_270 rfl rfl dX9_copy_73 ?_
        refine lv_iload_n hx hb dX9_copy_76 rfl (lv_at hl 1 rfl) ?_
        refine lv_iload_n hx hb dX9_copy_77 rfl (lv_at hl 2 rfl) ?_
        refine lv_iload hx hb dX9_copy_78 (lv_at hl 5 rfl) ?_
        refine callP_i (wc := ww_X5 cI cJ (qa 7) (C 7)) (wr_C_7 cI cJ qa C L) (fun (_u : Unit) => wC cI cJ qa C L) [26, 27, 28, 29] [0, 1, 2, 3, 4, 5, 6, 7, 8, 9, 10, 11, 12, 13, 14, 15, 16, 17, 18, 19, 20, 21, 22, 23, 24, 25, 30, 31, 32, 33, 34, 35, 36, 37, 38, 39] [0, 1, 2, 3, 4, 5, 6, 7, 8, 9, 10, 11, 12, 13, 14, 15, 16, 17, 18, 19, 20, 21, 22, 23, 24, 25, 36, 37, 38, 39, 26, 27, 28, 29, 30, 31, 32, 33, 34, 35] rfl rfl rfl (by decide) (fun _ => rfl) rfl hP hD hS hA (fun hPc hDc => run_V (As := [.int x1, .int x2, .int x5]) (rest := []) cx' (c_X5_has l H.size (qa 7) (C 7) x1 x2 x5 _ h) mv_X5_has kw_642 rfl rfl ⟨Nat.le_of_ble_eq_true rfl, Nat.le_of_ble_eq_true rfl⟩ hPc hDc rfl rfl rfl hl.1 rfl (Nat.le_of_ble_eq_true rfl) dX9_copy_80 ⟨Nat.zero_le _, Nat.zero_le _⟩) rfl (fun r_10 u9 H locs hP hD hS h => ?_)
        have hP : va_P (dC, dI) vwCl (wC cI cJ qa C L) H := hP
        have hD : va_D A (wC cI cJ qa C L) := hD
        refine lv_if_eq (tgt := 101) hx hb dX9_copy_83 (by decide) (fun c_11 => ?_) (fun c_11 => ?_)
        · have h := h.1 c_11
          exact w_X9_copy_101 cx hA C L H locs ls hP hD hS (lv_sub hl [0] rfl) h
        have h := h.2 c_11
        refine lv_aload_n hx hb dX9_copy_86 rfl (lv_at hl 0 rfl) ?_
        refine gf_v (k := 6) (v := .ref (qa 7 0)) cx' hP 0 i_X9 rfl rfl (by decide) kw_270 rfl rfl dX9_copy_87 ?_
        refine lv_iload_n hx hb dX9_copy_90 rfl (lv_at hl 3 rfl) ?_
        refine lv_iload hx hb dX9_copy_91 (lv_at hl 4 rfl) ?_
        refine lv_iload hx hb dX9_copy_93 (lv_at hl 5 rfl) ?_
        refine callP_i (wc := ww_X5 cI cJ (qa 7) (C 7)) (wr_C_7 cI cJ qa C L) (fun (_u : Unit) => wC cI cJ qa C L) [26, 27, 28, 29] [0, 1, 2, 3, 4, 5, 6, 7, 8, 9, 10, 11, 12, 13, 14, 15, 16, 17, 18, 19, 20, 21, 22, 23, 24, 25, 30, 31, 32, 33, 34, 35, 36, 37, 38, 39] [0, 1, 2, 3, 4, 5, 6, 7, 8, 9, 10, 11, 12, 13, 14, 15, 16, 17, 18, 19, 20, 21, 22, 23, 24, 25, 36, 37, 38, 39, 26, 27, 28, 29, 30, 31, 32, 33, 34, 35] rfl rfl rfl (by decide) (fun _ => rfl) rfl hP hD hS hA (fun hPc hDc => run_V (As := [.int x3, .int x4, .int x5]) (rest := []) cx' (c_X5_has l H.size (qa 7) (C 7) x3 x4 x5 _ h) mv_X5_has kw_642 rfl rfl ⟨Nat.le_of_ble_eq_true rfl, Nat.le_of_ble_eq_true rfl⟩ hPc hDc rfl rfl rfl hl.1 rfl (Nat.le_of_ble_eq_true rfl) dX9_copy_95 ⟨Nat.zero_le _, Nat.zero_le _⟩) rfl (fun r_12 u9 H locs hP hD hS h => ?_)
        have hP : va_P (dC, dI) vwCl (wC cI cJ qa C L) H := hP
        have hD : va_D A (wC cI cJ qa C L) := hD
        refine lv_if_ne (tgt := 107) hx hb dX9_copy_98 (by decide) (fun c_13 => ?_) (fun c_13 => ?_)
        · have h := h.1 c_13
          refine lv_aload_n hx hb dX9_copy_107 rfl (lv_at hl 0 rfl) ?_
          refine gf_v (k := 6) (v := .ref (qa 7 0)) cx' hP 0 i_X9 rfl rfl (by decide) kw_270 rfl rfl dX9_copy_108 ?_
          refine lv_iload_n hx hb dX9_copy_111 rfl (lv_at hl 1 rfl) ?_
          refine lv_iload_n hx hb dX9_copy_112 rfl (lv_at hl 2 rfl) ?_
          refine lv_iload_n hx hb dX9_copy_113 rfl (lv_at hl 3 rfl) ?_
          refine lv_iload hx hb dX9_copy_114 (lv_at hl 4 rfl) ?_
          refine lv_iload hx hb dX9_copy_116 (lv_at hl 5 rfl) ?_
          refine callP_v (wc := ww_X5 cI cJ (qa 7) (C 7)) (wr_C_7 cI cJ qa C L) (fun (u : Mem) => wC cI cJ qa (up3 C 7 (u)) L) [26, 27, 28, 29] [0, 1, 2, 3, 4, 5, 6, 7, 8, 9, 10, 11, 12, 13, 14, 15, 16, 17, 18, 19, 20, 21, 22, 23, 24, 25, 30, 31, 32, 33, 34, 35, 36, 37, 38, 39] [0, 1, 2, 3, 4, 5, 6, 7, 8, 9, 10, 11, 12, 13, 14, 15, 16, 17, 18, 19, 20, 21, 22, 23, 24, 25, 36, 37, 38, 39, 26, 27, 28, 29, 30, 31, 32, 33, 34, 35] rfl rfl rfl (by decide) (fun _ => rfl) rfl hP hD hS hA (fun hPc hDc => run_V (As := [.int x1, .int x2, .int x3, .int x4, .int x5]) (rest := []) cx' (c_X5_move l H.size (qa 7) (C 7) x1 x2 x3 x4 x5 _ h) mv_X5_move kw_646 rfl rfl ⟨Nat.le_of_ble_eq_true rfl, Nat.le_of_ble_eq_true rfl⟩ hPc hDc rfl rfl rfl hl.1 rfl (Nat.le_of_ble_eq_true rfl) dX9_copy_118 ⟨Nat.zero_le _, Nat.zero_le _⟩) rfl (fun u9 H locs hP hD hS h => ?_)
          obtain ⟨u_14, rfl⟩ : ∃ z, z = u9 := ⟨_, rfl⟩
          obtain ⟨C_15, eC_15⟩ : ∃ z : Nat → Mem, z = up3 C 7 u_14 := ⟨_, rfl⟩
          have h := h C_15 eC_15
          have hP : va_P (dC, dI) vwCl (wC cI cJ qa C_15 L) H := by subst eC_15; exact hP
          have hD : va_D A (wC cI cJ qa C_15 L) := by subst eC_15; exact hD
          refine lv_iconst (v := 1) hx hb dX9_copy_121 (by decide) ?_
          exact rt_i (v := 1) (u := (C_15, L)) cx hP hD hS h dX9_copy_122
        have h := h.2 c_13
        exact w_X9_copy_101 cx hA C L H locs ls hP hD hS (lv_sub hl [0] rfl) h
      have h := h.2 c_9
      refine lv_aload_n hx hb dX9_copy_66 rfl (lv_at hl 0 rfl) ?_
      refine lv_iconst (v := 4) hx hb dX9_copy_67 (by decide) ?_
      refine call_i (run_V (As := [.int 4]) (rest := []) cx' (c_X9_found l H.size qa C L 4 _ h) mv_X9_found kw_540 rfl rfl ⟨Nat.le_of_ble_eq_true rfl, Nat.le_of_ble_eq_true rfl⟩ hP hD rfl rfl rfl hl.1 rfl (Nat.le_of_ble_eq_true rfl) dX9_copy_68 ⟨Nat.zero_le _, Nat.zero_le _⟩) hD hS hA (fun r_16 u9 H locs hP hD hS h => ?_)
      obtain ⟨C_17, L_18⟩ := u9
      have hP : va_P (dC, dI) vwCl (wC cI cJ qa C_17 L_18) H := hP
      have hD : va_D A (wC cI cJ qa C_17 L_18) := hD
      exact rt_i (v := r_16) (u := (C_17, L_18)) cx hP hD hS h dX9_copy_71
    have h := h.2 c_8
    exact w_X9_copy_39 cx hA C L H locs ls hP hD hS (lv_sub hl [0] rfl) h
  have h := h.2 c_4
  refine lv_bipush (v := (-2)) hx hb dX9_copy_14 (by decide) ?_
  exact rt_i (v := (-2)) (u := (C, L)) cx hP hD hS h dX9_copy_16
set_option maxRecDepth 100000 in
theorem c_X9_copy (l : Launch) {dC : Nat → ClassId} {dI : Nat → Nat → Nat} {cI cJ : ClassId} (sz : Nat) (qa : Nat → Nat → Nat) (C : Nat → Mem) (L : MemL) (x1 : Int32) (x2 : Int32) (x3 : Int32) (x4 : Int32) (x5 : Int32) (post : Int32 → (Nat → Mem) → MemL → Prop) (h : wp_X9_copy C L x1 x2 x3 x4 x5 post) : Met l yX9_copy (Cond.code yX9_copy cX9_copy 6 (some .int) :: gt) ({ frames := 2, cells := 0, slots := 0, locals := 65 }) (va_Pc [.ref (qa 0 0), .int x1, .int x2, .int x3, .int x4, .int x5] (PRE (dC, dI) (TY cI cJ) (wC cI cJ qa C L) sz)) (va_Qi (S := (Nat → Mem) × MemL) (fun (r : Int32) (u : (Nat → Mem) × MemL) => post r u.1 u.2) (fun u t => AT (dC, dI) (TY cI cJ) (va_A (wC cI cJ qa C L) sz) (wC cI cJ qa (u.1) (u.2)) t) (va_A (wC cI cJ qa C L) sz)) 0 0 (va_A (wC cI cJ qa C L) sz) :=
  met_of (own := RX9) (Qf := fun A => va_Qi (S := (Nat → Mem) × MemL) (fun (r : Int32) (u : (Nat → Mem) × MemL) => post r u.1 u.2) (fun u t => AT (dC, dI) (TY cI cJ) A (wC cI cJ qa (u.1) (u.2)) t) A) (by decide) rfl (Nat.le_of_ble_eq_true rfl) rfl (fun p e s m below meth c A cx hA ls hP hD hS hl => w_X9_copy_0 cx hA x1 x2 x3 x4 x5 C L _ _ ls hP hD hS hl h)
theorem mv_X9_copy : MV yX9_copy cX9_copy 6 (some .int) 5 := ⟨⟨kw_641, kw_1, by decide +kernel⟩, kw_639, kw_640⟩
set_option maxHeartbeats 4000000 in
set_option maxRecDepth 100000 in
theorem w_X9_write_97 {p : Program} {l : Launch} {e : Env} {s : State} {m : MethodId} {args : Array Value} {below : List Frame} {meth : Method} {c : Code} {dC : Nat → ClassId} {dI : Nat → Nat → Nat} {cI cJ : ClassId} {A : Nat → Prop} (cx : CX RX9 cX9_write (some .int) 5 p s m args meth c (dC, dI) (TY cI cJ)) (hA : ∀ q, s.heap.size ≤ q → A q) {qa : Nat → Nat → Nat} {post : Int32 → (Nat → Mem) → MemL → Prop} {k57 : Int32 → Int32 → Int32 → Int32 → (Nat → Mem) → MemL → Prop} (hk57 : ∀ (x1 : Int32) (x2 : Int32) (x3 : Int32) (x4 : Int32) (C : (Nat → Mem)) (L : MemL) (H : Heap) (locs : List Loc) (ls : Array Slot), va_P (dC, dI) vwCl (wC cI cJ qa C L) H → va_D A (wC cI cJ qa C L) → va_S A s.heap H locs → lv_has ls 5 [(0, .ref (qa 0 0)), (1, .int x1), (2, .int x2), (3, .int x3), (4, .int x4)] → k57 x1 x2 x3 x4 C L → W p l e ({ frames := 1, cells := 0, slots := 0, locals := 24 }) s m args below meth c H locs 0 0 (MQ below (va_Qi (S := (Nat → Mem) × MemL) (fun (r : Int32) (u : (Nat → Mem) × MemL) => post r u.1 u.2) (fun u t => AT (dC, dI) (TY cI cJ) A (wC cI cJ qa (u.1) (u.2)) t) A) args s 0 0 A) (F0 m 57 ls [])) : ∀ (x1 : Int32) (x2 : Int32) (x3 : Int32) (x4 : Int32) (z0 : Int32) (z1 : Int32) (z2 : Int32) (C : (Nat → Mem)) (L : MemL) (H : Heap) (locs : List Loc) (ls : Array Slot), va_P (dC, dI) vwCl (wC cI cJ qa C L) H → va_D A (wC cI cJ qa C L) → va_S A s.heap H locs → lv_has ls 5 [(0, .ref (qa 0 0)), (1, .int x1), (2, .int x2), (3, .int x3), (4, .int x4)] → b_X9_write_97 post k57 x1 x2 x3 x4 z0 z1 z2 C L → W p l e ({ frames := 1, cells := 0, slots := 0, locals := 24 }) s m args below meth c H locs 0 0 (MQ below (va_Qi (S := (Nat → Mem) × MemL) (fun (r : Int32) (u : (Nat → Mem) × MemL) => post r u.1 u.2) (fun u t => AT (dC, dI) (TY cI cJ) A (wC cI cJ qa (u.1) (u.2)) t) A) args s 0 0 A) (F0 m 97 ls [.int z0, .int z1, .int z2, .ref (qa 7 0)]) := by
  obtain ⟨hx, hb, hr, hml, hown, hts, hlocks, hK⟩ := id cx
  have cx' : CX RX9 cX9_write (meth.sig.returnType) 5 p s m args meth c (dC, dI) (TY cI cJ) := ⟨hx, hb, rfl, hml, hown, hts, hlocks, hK⟩
  intro x1 x2 x3 x4 z0 z1 z2 C L H locs ls hP hD hS hl h
  unfold b_X9_write_97 at h
  refine callP_v (wc := ww_X5 cI cJ (qa 7) (C 7)) (wr_C_7 cI cJ qa C L) (fun (u : Mem) => wC cI cJ qa (up3 C 7 (u)) L) [26, 27, 28, 29] [0, 1, 2, 3, 4, 5, 6, 7, 8, 9, 10, 11, 12, 13, 14, 15, 16, 17, 18, 19, 20, 21, 22, 23, 24, 25, 30, 31, 32, 33, 34, 35, 36, 37, 38, 39] [0, 1, 2, 3, 4, 5, 6, 7, 8, 9, 10, 11, 12, 13, 14, 15, 16, 17, 18, 19, 20, 21, 22, 23, 24, 25, 36, 37, 38, 39, 26, 27, 28, 29, 30, 31, 32, 33, 34, 35] rfl rfl rfl (by decide) (fun _ => rfl) rfl hP hD hS hA (fun hPc hDc => run_V (As := [.int z2, .int z1, .int z0]) (rest := []) cx' (c_X5_put l H.size (qa 7) (C 7) z2 z1 z0 _ h) mv_X5_put kw_629 rfl rfl ⟨Nat.le_of_ble_eq_true rfl, Nat.le_of_ble_eq_true rfl⟩ hPc hDc rfl rfl rfl hl.1 rfl (Nat.le_of_ble_eq_true rfl) dX9_write_97 ⟨Nat.zero_le _, Nat.zero_le _⟩) rfl (fun u9 H locs hP hD hS h => ?_)
  obtain ⟨u_1, rfl⟩ : ∃ z, z = u9 := ⟨_, rfl⟩
  obtain ⟨C_2, eC_2⟩ : ∃ z : Nat → Mem, z = up3 C 7 u_1 := ⟨_, rfl⟩
  have h := h C_2 eC_2
  have hP : va_P (dC, dI) vwCl (wC cI cJ qa C_2 L) H := by subst eC_2; exact hP
  have hD : va_D A (wC cI cJ qa C_2 L) := by subst eC_2; exact hD
  obtain ⟨x4_3, ex4_3⟩ : ∃ z : Int32, z = x4 + 1 := ⟨_, rfl⟩
  have h := h x4_3 ex4_3
  refine lv_iinc (v := x4_3) (lv' := [(4, .int x4_3), (0, .ref (qa 0 0)), (1, .int x1), (2, .int x2), (3, .int x3)]) hx hb dX9_write_100 hl (k := 4) rfl (by rw [ex4_3]; rfl) (by decide) rfl (fun ls hl => ?_)
  refine lv_goto (tgt := 57) hx hb dX9_write_103 (by decide) ?_
  exact hk57 x1 x2 x3 x4_3 C_2 L H locs ls hP hD hS (lv_sub hl [1, 2, 3, 4, 0] rfl) h
set_option maxHeartbeats 4000000 in
set_option maxRecDepth 100000 in
theorem w_X9_write_57 {p : Program} {l : Launch} {e : Env} {s : State} {m : MethodId} {args : Array Value} {below : List Frame} {meth : Method} {c : Code} {dC : Nat → ClassId} {dI : Nat → Nat → Nat} {cI cJ : ClassId} {A : Nat → Prop} (cx : CX RX9 cX9_write (some .int) 5 p s m args meth c (dC, dI) (TY cI cJ)) (hA : ∀ q, s.heap.size ≤ q → A q) {qa : Nat → Nat → Nat} {post : Int32 → (Nat → Mem) → MemL → Prop} : ∀ (n : Nat) (x1 : Int32) (x2 : Int32) (x3 : Int32) (x4 : Int32) (C : (Nat → Mem)) (L : MemL) (H : Heap) (locs : List Loc) (ls : Array Slot), va_P (dC, dI) vwCl (wC cI cJ qa C L) H → va_D A (wC cI cJ qa C L) → va_S A s.heap H locs → lv_has ls 5 [(0, .ref (qa 0 0)), (1, .int x1), (2, .int x2), (3, .int x3), (4, .int x4)] → b_X9_write_57 post n x1 x2 x3 x4 C L → W p l e ({ frames := 1, cells := 0, slots := 0, locals := 24 }) s m args below meth c H locs 0 0 (MQ below (va_Qi (S := (Nat → Mem) × MemL) (fun (r : Int32) (u : (Nat → Mem) × MemL) => post r u.1 u.2) (fun u t => AT (dC, dI) (TY cI cJ) A (wC cI cJ qa (u.1) (u.2)) t) A) args s 0 0 A) (F0 m 57 ls []) := by
  obtain ⟨hx, hb, hr, hml, hown, hts, hlocks, hK⟩ := id cx
  have cx' : CX RX9 cX9_write (meth.sig.returnType) 5 p s m args meth c (dC, dI) (TY cI cJ) := ⟨hx, hb, rfl, hml, hown, hts, hlocks, hK⟩
  intro n
  induction n with
  | zero =>
    intro x1 x2 x3 x4 C L H locs ls hP hD hS hl h
    exact False.elim h
  | succ n ih =>
    intro x1 x2 x3 x4 C L H locs ls hP hD hS hl h
    unfold b_X9_write_57 at h
    refine lv_iload hx hb dX9_write_57 (lv_at hl 4 rfl) ?_
    refine lv_iload_n hx hb dX9_write_59 rfl (lv_at hl 3 rfl) ?_
    refine lv_icmp_ge (tgt := 106) hx hb dX9_write_60 (by decide) (fun c_1 => ?_) (fun c_1 => ?_)
    · have h := h.1 c_1
      refine lv_iload_n hx hb dX9_write_106 rfl (lv_at hl 3 rfl) ?_
      exact rt_i (v := x3) (u := (C, L)) cx hP hD hS h dX9_write_107
    have h := h.2 c_1
    refine lv_aload_n hx hb dX9_write_63 rfl (lv_at hl 0 rfl) ?_
    refine gf_v (k := 6) (v := .ref (qa 7 0)) cx' hP 0 i_X9 rfl rfl (by decide) kw_270 rfl rfl dX9_write_64 ?_
    refine lv_iload_n hx hb dX9_write_67 rfl (lv_at hl 2 rfl) ?_
    refine lv_iload hx hb dX9_write_68 (lv_at hl 4 rfl) ?_
    refine lv_iload_n hx hb dX9_write_70 rfl (lv_at hl 1 rfl) ?_
    refine lv_if_ne (tgt := 87) hx hb dX9_write_71 (by decide) (fun c_2 => ?_) (fun c_2 => ?_)
    · have h := h.1 c_2
      refine lv_aload_n hx hb dX9_write_87 rfl (lv_at hl 0 rfl) ?_
      refine gf_v (k := 4) (v := .ref (qa 5 0)) cx' hP 0 i_X9 rfl rfl (by decide) kw_268 rfl rfl dX9_write_88 ?_
      refine gf_v (k := 6) (v := .ref (qa 5 7)) cx' hP 15 i_X1 rfl rfl (by decide) kw_134 rfl rfl dX9_write_91 ?_
      refine lv_iload hx hb dX9_write_94 (lv_at hl 4 rfl) ?_
      refine va_iald hx hb hK hP 22 0 rfl rfl h.1 dX9_write_96 ?_
      have h := h.2
      exact w_X9_write_97 cx hA ih x1 x2 x3 x4 (C 5 7 (Int32.toNatClampNeg x4)) x4 x2 C L H locs ls hP hD hS (lv_sub hl [0, 1, 2, 3, 4] rfl) h
    have h := h.2 c_2
    refine lv_aload_n hx hb dX9_write_74 rfl (lv_at hl 0 rfl) ?_
    refine gf_v (k := 4) (v := .ref (qa 5 0)) cx' hP 0 i_X9 rfl rfl (by decide) kw_268 rfl rfl dX9_write_75 ?_
    refine gf_v (k := 5) (v := .ref (qa 5 6)) cx' hP 15 i_X1 rfl rfl (by decide) kw_132 rfl rfl dX9_write_78 ?_
    refine lv_iload hx hb dX9_write_81 (lv_at hl 4 rfl) ?_
    refine va_iald hx hb hK hP 21 0 rfl rfl h.1 dX9_write_83 ?_
    have h := h.2
    refine lv_goto (tgt := 97) hx hb dX9_write_84 (by decide) ?_
    exact w_X9_write_97 cx hA ih x1 x2 x3 x4 (C 5 6 (Int32.toNatClampNeg x4)) x4 x2 C L H locs ls hP hD hS (lv_sub hl [0, 1, 2, 3, 4] rfl) h
set_option maxHeartbeats 4000000 in
set_option maxRecDepth 100000 in
theorem w_X9_write_0 {p : Program} {l : Launch} {e : Env} {s : State} {m : MethodId} {args : Array Value} {below : List Frame} {meth : Method} {c : Code} {dC : Nat → ClassId} {dI : Nat → Nat → Nat} {cI cJ : ClassId} {A : Nat → Prop} (cx : CX RX9 cX9_write (some .int) 5 p s m args meth c (dC, dI) (TY cI cJ)) (hA : ∀ q, s.heap.size ≤ q → A q) {qa : Nat → Nat → Nat} {post : Int32 → (Nat → Mem) → MemL → Prop} : ∀ (x1 : Int32) (x2 : Int32) (C : (Nat → Mem)) (L : MemL) (H : Heap) (locs : List Loc) (ls : Array Slot), va_P (dC, dI) vwCl (wC cI cJ qa C L) H → va_D A (wC cI cJ qa C L) → va_S A s.heap H locs → lv_has ls 5 [(0, .ref (qa 0 0)), (1, .int x1), (2, .int x2)] → b_X9_write_0 post x1 x2 C L → W p l e ({ frames := 1, cells := 0, slots := 0, locals := 24 }) s m args below meth c H locs 0 0 (MQ below (va_Qi (S := (Nat → Mem) × MemL) (fun (r : Int32) (u : (Nat → Mem) × MemL) => post r u.1 u.2) (fun u t => AT (dC, dI) (TY cI cJ) A (wC cI cJ qa (u.1) (u.2)) t) A) args s 0 0 A) (F0 m 0 ls []) := by
  obtain ⟨hx, hb, hr, hml, hown, hts, hlocks, hK⟩ := id cx
  have cx' : CX RX9 cX9_write (meth.sig.returnType) 5 p s m args meth c (dC, dI) (TY cI cJ) := ⟨hx, hb, rfl, hml, hown, hts, hlocks, hK⟩
  intro x1 x2 C L H locs ls hP hD hS hl h
  unfold b_X9_write_0 at h
  refine lv_iload_n hx hb dX9_write_0 rfl (lv_at hl 1 rfl) ?_
  refine callN_i (run_S (As := [.int x1]) (rest := []) (wc := []) cx' (c_X9_isBit l H.size x1 _ h) ms_X9_isBit kw_305 rfl rfl ⟨Nat.le_of_ble_eq_true rfl, Nat.le_of_ble_eq_true rfl⟩ nilP nilD (A := A) rfl hl.1 rfl (Nat.le_of_ble_eq_true rfl) dX9_write_1 ⟨Nat.zero_le _, Nat.zero_le _⟩) hP hS hA (fun r_1 H locs hP hS h => ?_)
  refine lv_if_eq (tgt := 14) hx hb dX9_write_4 (by decide) (fun c_2 => ?_) (fun c_2 => ?_)
  · have h := h.1 c_2
    refine lv_bipush (v := (-2)) hx hb dX9_write_14 (by decide) ?_
    exact rt_i (v := (-2)) (u := (C, L)) cx hP hD hS h dX9_write_16
  have h := h.2 c_2
  refine lv_iload_n hx hb dX9_write_7 rfl (lv_at hl 2 rfl) ?_
  refine callN_i (run_S (As := [.int x2]) (rest := []) (wc := []) cx' (c_X9_isSheet l H.size x2 _ h) ms_X9_isSheet kw_533 rfl rfl ⟨Nat.le_of_ble_eq_true rfl, Nat.le_of_ble_eq_true rfl⟩ nilP nilD (A := A) rfl hl.1 rfl (Nat.le_of_ble_eq_true rfl) dX9_write_8 ⟨Nat.zero_le _, Nat.zero_le _⟩) hP hS hA (fun r_3 H locs hP hS h => ?_)
  refine lv_if_ne (tgt := 17) hx hb dX9_write_11 (by decide) (fun c_4 => ?_) (fun c_4 => ?_)
  · have h := h.1 c_4
    refine lv_aload_n hx hb dX9_write_17 rfl (lv_at hl 0 rfl) ?_
    refine gf_v (k := 6) (v := .ref (qa 7 0)) cx' hP 0 i_X9 rfl rfl (by decide) kw_270 rfl rfl dX9_write_18 ?_
    refine lv_iload_n hx hb dX9_write_21 rfl (lv_at hl 2 rfl) ?_
    refine callP_i (wc := ww_X5 cI cJ (qa 7) (C 7)) (wr_C_7 cI cJ qa C L) (fun (_u : Unit) => wC cI cJ qa C L) [26, 27, 28, 29] [0, 1, 2, 3, 4, 5, 6, 7, 8, 9, 10, 11, 12, 13, 14, 15, 16, 17, 18, 19, 20, 21, 22, 23, 24, 25, 30, 31, 32, 33, 34, 35, 36, 37, 38, 39] [0, 1, 2, 3, 4, 5, 6, 7, 8, 9, 10, 11, 12, 13, 14, 15, 16, 17, 18, 19, 20, 21, 22, 23, 24, 25, 36, 37, 38, 39, 26, 27, 28, 29, 30, 31, 32, 33, 34, 35] rfl rfl rfl (by decide) (fun _ => rfl) rfl hP hD hS hA (fun hPc hDc => run_V (As := [.int x2]) (rest := []) cx' (c_X5_isLost l H.size (qa 7) (C 7) x2 _ h) mv_X5_isLost kw_536 rfl rfl ⟨Nat.le_of_ble_eq_true rfl, Nat.le_of_ble_eq_true rfl⟩ hPc hDc rfl rfl rfl hl.1 rfl (Nat.le_of_ble_eq_true rfl) dX9_write_22 ⟨Nat.zero_le _, Nat.zero_le _⟩) rfl (fun r_5 u9 H locs hP hD hS h => ?_)
    have hP : va_P (dC, dI) vwCl (wC cI cJ qa C L) H := hP
    have hD : va_D A (wC cI cJ qa C L) := hD
    refine lv_if_eq (tgt := 34) hx hb dX9_write_25 (by decide) (fun c_6 => ?_) (fun c_6 => ?_)
    · have h := h.1 c_6
      refine lv_aload_n hx hb dX9_write_34 rfl (lv_at hl 0 rfl) ?_
      refine gf_v (k := 6) (v := .ref (qa 7 0)) cx' hP 0 i_X9 rfl rfl (by decide) kw_270 rfl rfl dX9_write_35 ?_
      refine gf_v (k := 2) (v := .ref (qa 7 3)) cx' hP 26 i_X5 rfl rfl (by decide) kw_183 rfl rfl dX9_write_38 ?_
      refine lv_iload_n hx hb dX9_write_41 rfl (lv_at hl 2 rfl) ?_
      refine va_iald hx hb hK hP 29 0 rfl rfl h.1 dX9_write_42 ?_
      have h := h.2
      refine lv_aload_n hx hb dX9_write_43 rfl (lv_at hl 0 rfl) ?_
      refine gf_v (k := 2) (v := .ref (qa 3 0)) cx' hP 0 i_X9 rfl rfl (by decide) kw_266 rfl rfl dX9_write_44 ?_
      refine gf_v (k := 4) (v := .int (C 3 0 4)) cx' hP 5 i_X4 rfl rfl (by decide) kw_64 rfl rfl dX9_write_47 ?_
      refine va_mmin hx hb (hml.trans hl.1.symm) hown (hts _ kw_657) (hts _ kw_338) (hts _ kw_12) (hts _ kw_339) (Nat.le_of_ble_eq_true rfl) (Nat.le_of_ble_eq_true rfl) (Nat.le_refl _) (Nat.le_refl _) dX9_write_50 ?_
      refine lv_topi (fun x3_7 ex3_7 => ?_)
      have h := h x3_7 ex3_7
      refine lv_istore_n (lv' := [(3, .int x3_7), (0, .ref (qa 0 0)), (1, .int x1), (2, .int x2)]) hx hb dX9_write_53 rfl hl (by decide) rfl (fun ls hl => ?_)
      refine lv_iconst (v := 0) hx hb dX9_write_54 (by decide) ?_
      refine lv_istore (lv' := [(4, .int 0), (3, .int x3_7), (0, .ref (qa 0 0)), (1, .int x1), (2, .int x2)]) hx hb dX9_write_55 hl (by decide) rfl (fun ls hl => ?_)
      obtain ⟨n_8, h⟩ := h
      exact w_X9_write_57 cx hA n_8 x1 x2 x3_7 0 C L H locs ls hP hD hS (lv_sub hl [2, 3, 4, 1, 0] rfl) h
    have h := h.2 c_6
    refine lv_aload_n hx hb dX9_write_28 rfl (lv_at hl 0 rfl) ?_
    refine lv_iconst (v := 1) hx hb dX9_write_29 (by decide) ?_
    refine call_i (run_V (As := [.int 1]) (rest := []) cx' (c_X9_found l H.size qa C L 1 _ h) mv_X9_found kw_540 rfl rfl ⟨Nat.le_of_ble_eq_true rfl, Nat.le_of_ble_eq_true rfl⟩ hP hD rfl rfl rfl hl.1 rfl (Nat.le_of_ble_eq_true rfl) dX9_write_30 ⟨Nat.zero_le _, Nat.zero_le _⟩) hD hS hA (fun r_9 u9 H locs hP hD hS h => ?_)
    obtain ⟨C_10, L_11⟩ := u9
    have hP : va_P (dC, dI) vwCl (wC cI cJ qa C_10 L_11) H := hP
    have hD : va_D A (wC cI cJ qa C_10 L_11) := hD
    exact rt_i (v := r_9) (u := (C_10, L_11)) cx hP hD hS h dX9_write_33
  have h := h.2 c_4
  refine lv_bipush (v := (-2)) hx hb dX9_write_14 (by decide) ?_
  exact rt_i (v := (-2)) (u := (C, L)) cx hP hD hS h dX9_write_16
set_option maxRecDepth 100000 in
theorem c_X9_write (l : Launch) {dC : Nat → ClassId} {dI : Nat → Nat → Nat} {cI cJ : ClassId} (sz : Nat) (qa : Nat → Nat → Nat) (C : Nat → Mem) (L : MemL) (x1 : Int32) (x2 : Int32) (post : Int32 → (Nat → Mem) → MemL → Prop) (h : wp_X9_write C L x1 x2 post) : Met l yX9_write (Cond.code yX9_write cX9_write 5 (some .int) :: gt) ({ frames := 1, cells := 0, slots := 0, locals := 24 }) (va_Pc [.ref (qa 0 0), .int x1, .int x2] (PRE (dC, dI) (TY cI cJ) (wC cI cJ qa C L) sz)) (va_Qi (S := (Nat → Mem) × MemL) (fun (r : Int32) (u : (Nat → Mem) × MemL) => post r u.1 u.2) (fun u t => AT (dC, dI) (TY cI cJ) (va_A (wC cI cJ qa C L) sz) (wC cI cJ qa (u.1) (u.2)) t) (va_A (wC cI cJ qa C L) sz)) 0 0 (va_A (wC cI cJ qa C L) sz) :=
  met_of (own := RX9) (Qf := fun A => va_Qi (S := (Nat → Mem) × MemL) (fun (r : Int32) (u : (Nat → Mem) × MemL) => post r u.1 u.2) (fun u t => AT (dC, dI) (TY cI cJ) A (wC cI cJ qa (u.1) (u.2)) t) A) (by decide) rfl (Nat.le_of_ble_eq_true rfl) rfl (fun p e s m below meth c A cx hA ls hP hD hS hl => w_X9_write_0 cx hA x1 x2 C L _ _ ls hP hD hS hl h)
theorem mv_X9_write : MV yX9_write cX9_write 5 (some .int) 2 := ⟨⟨kw_656, kw_1, by decide +kernel⟩, kw_654, kw_655⟩
set_option maxHeartbeats 4000000 in
set_option maxRecDepth 100000 in
theorem w_X9_givenInAll_4 {p : Program} {l : Launch} {e : Env} {s : State} {m : MethodId} {args : Array Value} {below : List Frame} {meth : Method} {c : Code} {dC : Nat → ClassId} {dI : Nat → Nat → Nat} {cI cJ : ClassId} {A : Nat → Prop} (cx : CX RX9 cX9_givenInAll (some .int) 3 p s m args meth c (dC, dI) (TY cI cJ)) (hA : ∀ q, s.heap.size ≤ q → A q) {qa : Nat → Nat → Nat} {C : (Nat → Mem)} {L : MemL} {post : Int32 → Prop} : ∀ (n : Nat) (x1 : Int32) (x2 : Int32) (H : Heap) (locs : List Loc) (ls : Array Slot), va_P (dC, dI) vwCl (wC cI cJ qa C L) H → va_D A (wC cI cJ qa C L) → va_S A s.heap H locs → lv_has ls 3 [(0, .ref (qa 0 0)), (1, .int x1), (2, .int x2)] → b_X9_givenInAll_4 C L post n x1 x2 → W p l e ({ frames := 0, cells := 0, slots := 0, locals := 0 }) s m args below meth c H locs 0 0 (MQ below (va_Qi (S := Unit) (fun (r : Int32) (_u : Unit) => post r) (fun _u t => AT (dC, dI) (TY cI cJ) A (wC cI cJ qa C L) t) A) args s 0 0 A) (F0 m 4 ls []) := by
  obtain ⟨hx, hb, hr, hml, hown, hts, hlocks, hK⟩ := id cx
  have cx' : CX RX9 cX9_givenInAll (meth.sig.returnType) 3 p s m args meth c (dC, dI) (TY cI cJ) := ⟨hx, hb, rfl, hml, hown, hts, hlocks, hK⟩
  intro n
  induction n with
  | zero =>
    intro x1 x2 H locs ls hP hD hS hl h
    exact False.elim h
  | succ n ih =>
    intro x1 x2 H locs ls hP hD hS hl h
    unfold b_X9_givenInAll_4 at h
    refine lv_iload_n hx hb dX9_givenInAll_4 rfl (lv_at hl 2 rfl) ?_
    refine lv_aload_n hx hb dX9_givenInAll_5 rfl (lv_at hl 0 rfl) ?_
    refine gf_v (k := 2) (v := .ref (qa 3 0)) cx' hP 0 i_X9 rfl rfl (by decide) kw_266 rfl rfl dX9_givenInAll_6 ?_
    refine gf_v (k := 4) (v := .int (C 3 0 4)) cx' hP 5 i_X4 rfl rfl (by decide) kw_64 rfl rfl dX9_givenInAll_9 ?_
    refine lv_icmp_ge (tgt := 33) hx hb dX9_givenInAll_12 (by decide) (fun c_1 => ?_) (fun c_1 => ?_)
    · have h := h.1 c_1
      refine lv_iload_n hx hb dX9_givenInAll_33 rfl (lv_at hl 1 rfl) ?_
      exact rt_i (v := x1) (u := ()) cx hP hD hS h dX9_givenInAll_34
    have h := h.2 c_1
    refine lv_iload_n hx hb dX9_givenInAll_15 rfl (lv_at hl 1 rfl) ?_
    refine lv_aload_n hx hb dX9_givenInAll_16 rfl (lv_at hl 0 rfl) ?_
    refine gf_v (k := 4) (v := .ref (qa 5 0)) cx' hP 0 i_X9 rfl rfl (by decide) kw_268 rfl rfl dX9_givenInAll_17 ?_
    refine gf_v (k := 5) (v := .ref (qa 5 6)) cx' hP 15 i_X1 rfl rfl (by decide) kw_132 rfl rfl dX9_givenInAll_20 ?_
    refine lv_iload_n hx hb dX9_givenInAll_23 rfl (lv_at hl 2 rfl) ?_
    refine va_iald hx hb hK hP 21 0 rfl rfl h.1 dX9_givenInAll_24 ?_
    have h := h.2
    refine lv_iadd hx hb dX9_givenInAll_25 ?_
    refine lv_topi (fun x1_2 ex1_2 => ?_)
    have h := h x1_2 ex1_2
    refine lv_istore_n (lv' := [(1, .int x1_2), (0, .ref (qa 0 0)), (2, .int x2)]) hx hb dX9_givenInAll_26 rfl hl (by decide) rfl (fun ls hl => ?_)
    obtain ⟨x2_3, ex2_3⟩ : ∃ z : Int32, z = x2 + 1 := ⟨_, rfl⟩
    have h := h x2_3 ex2_3
    refine lv_iinc (v := x2_3) (lv' := [(2, .int x2_3), (1, .int x1_2), (0, .ref (qa 0 0))]) hx hb dX9_givenInAll_27 hl (k := 2) rfl (by rw [ex2_3]; rfl) (by decide) rfl (fun ls hl => ?_)
    refine lv_goto (tgt := 4) hx hb dX9_givenInAll_30 (by decide) ?_
    exact ih x1_2 x2_3 H locs ls hP hD hS (lv_sub hl [2, 1, 0] rfl) h
set_option maxHeartbeats 4000000 in
set_option maxRecDepth 100000 in
theorem w_X9_givenInAll_0 {p : Program} {l : Launch} {e : Env} {s : State} {m : MethodId} {args : Array Value} {below : List Frame} {meth : Method} {c : Code} {dC : Nat → ClassId} {dI : Nat → Nat → Nat} {cI cJ : ClassId} {A : Nat → Prop} (cx : CX RX9 cX9_givenInAll (some .int) 3 p s m args meth c (dC, dI) (TY cI cJ)) (hA : ∀ q, s.heap.size ≤ q → A q) {qa : Nat → Nat → Nat} {C : (Nat → Mem)} {L : MemL} {post : Int32 → Prop} : ∀  (H : Heap) (locs : List Loc) (ls : Array Slot), va_P (dC, dI) vwCl (wC cI cJ qa C L) H → va_D A (wC cI cJ qa C L) → va_S A s.heap H locs → lv_has ls 3 [(0, .ref (qa 0 0))] → b_X9_givenInAll_0 C L post  → W p l e ({ frames := 0, cells := 0, slots := 0, locals := 0 }) s m args below meth c H locs 0 0 (MQ below (va_Qi (S := Unit) (fun (r : Int32) (_u : Unit) => post r) (fun _u t => AT (dC, dI) (TY cI cJ) A (wC cI cJ qa C L) t) A) args s 0 0 A) (F0 m 0 ls []) := by
  obtain ⟨hx, hb, hr, hml, hown, hts, hlocks, hK⟩ := id cx
  have cx' : CX RX9 cX9_givenInAll (meth.sig.returnType) 3 p s m args meth c (dC, dI) (TY cI cJ) := ⟨hx, hb, rfl, hml, hown, hts, hlocks, hK⟩
  intro H locs ls hP hD hS hl h
  unfold b_X9_givenInAll_0 at h
  refine lv_iconst (v := 0) hx hb dX9_givenInAll_0 (by decide) ?_
  refine lv_istore_n (lv' := [(1, .int 0), (0, .ref (qa 0 0))]) hx hb dX9_givenInAll_1 rfl hl (by decide) rfl (fun ls hl => ?_)
  refine lv_iconst (v := 0) hx hb dX9_givenInAll_2 (by decide) ?_
  refine lv_istore_n (lv' := [(2, .int 0), (1, .int 0), (0, .ref (qa 0 0))]) hx hb dX9_givenInAll_3 rfl hl (by decide) rfl (fun ls hl => ?_)
  obtain ⟨n_1, h⟩ := h
  exact w_X9_givenInAll_4 cx hA n_1 0 0 H locs ls hP hD hS (lv_sub hl [2, 1, 0] rfl) h
set_option maxRecDepth 100000 in
theorem c_X9_givenInAll (l : Launch) {dC : Nat → ClassId} {dI : Nat → Nat → Nat} {cI cJ : ClassId} (sz : Nat) (qa : Nat → Nat → Nat) (C : Nat → Mem) (L : MemL) (post : Int32 → Prop) (h : wp_X9_givenInAll C L post) : Met l yX9_givenInAll (Cond.code yX9_givenInAll cX9_givenInAll 3 (some .int) :: gt) ({ frames := 0, cells := 0, slots := 0, locals := 0 }) (va_Pc [.ref (qa 0 0)] (PRE (dC, dI) (TY cI cJ) (wC cI cJ qa C L) sz)) (va_Qi (S := Unit) (fun (r : Int32) (_u : Unit) => post r) (fun _u t => AT (dC, dI) (TY cI cJ) (va_A (wC cI cJ qa C L) sz) (wC cI cJ qa C L) t) (va_A (wC cI cJ qa C L) sz)) 0 0 (va_A (wC cI cJ qa C L) sz) :=
  met_of (own := RX9) (Qf := fun A => va_Qi (S := Unit) (fun (r : Int32) (_u : Unit) => post r) (fun _u t => AT (dC, dI) (TY cI cJ) A (wC cI cJ qa C L) t) A) (by decide) rfl (Nat.le_of_ble_eq_true rfl) rfl (fun p e s m below meth c A cx hA ls hP hD hS hl => w_X9_givenInAll_0 cx hA  _ _ ls hP hD hS hl h)
theorem mv_X9_givenInAll : MV yX9_givenInAll cX9_givenInAll 3 (some .int) 0 := ⟨⟨kw_665, kw_1, by decide +kernel⟩, kw_664, ksel_14⟩
set_option maxHeartbeats 4000000 in
set_option maxRecDepth 100000 in
theorem w_X9_sleepersInAll_31 {p : Program} {l : Launch} {e : Env} {s : State} {m : MethodId} {args : Array Value} {below : List Frame} {meth : Method} {c : Code} {dC : Nat → ClassId} {dI : Nat → Nat → Nat} {cI cJ : ClassId} {A : Nat → Prop} (cx : CX RX9 cX9_sleepersInAll (some .int) 3 p s m args meth c (dC, dI) (TY cI cJ)) (hA : ∀ q, s.heap.size ≤ q → A q) {qa : Nat → Nat → Nat} {C : (Nat → Mem)} {L : MemL} {post : Int32 → Prop} {k4 : Int32 → Int32 → Prop} (hk4 : ∀ (x1 : Int32) (x2 : Int32) (H : Heap) (locs : List Loc) (ls : Array Slot), va_P (dC, dI) vwCl (wC cI cJ qa C L) H → va_D A (wC cI cJ qa C L) → va_S A s.heap H locs → lv_has ls 3 [(0, .ref (qa 0 0)), (1, .int x1), (2, .int x2)] → k4 x1 x2 → W p l e ({ frames := 0, cells := 0, slots := 0, locals := 0 }) s m args below meth c H locs 0 0 (MQ below (va_Qi (S := Unit) (fun (r : Int32) (_u : Unit) => post r) (fun _u t => AT (dC, dI) (TY cI cJ) A (wC cI cJ qa C L) t) A) args s 0 0 A) (F0 m 4 ls [])) : ∀ (x1 : Int32) (x2 : Int32) (H : Heap) (locs : List Loc) (ls : Array Slot), va_P (dC, dI) vwCl (wC cI cJ qa C L) H → va_D A (wC cI cJ qa C L) → va_S A s.heap H locs → lv_has ls 3 [(0, .ref (qa 0 0)), (1, .int x1), (2, .int x2)] → b_X9_sleepersInAll_31 C L post k4 x1 x2 → W p l e ({ frames := 0, cells := 0, slots := 0, locals := 0 }) s m args below meth c H locs 0 0 (MQ below (va_Qi (S := Unit) (fun (r : Int32) (_u : Unit) => post r) (fun _u t => AT (dC, dI) (TY cI cJ) A (wC cI cJ qa C L) t) A) args s 0 0 A) (F0 m 31 ls []) := by
  obtain ⟨hx, hb, hr, hml, hown, hts, hlocks, hK⟩ := id cx
  have cx' : CX RX9 cX9_sleepersInAll (meth.sig.returnType) 3 p s m args meth c (dC, dI) (TY cI cJ) := ⟨hx, hb, rfl, hml, hown, hts, hlocks, hK⟩
  intro x1 x2 H locs ls hP hD hS hl h
  unfold b_X9_sleepersInAll_31 at h
  obtain ⟨x2_1, ex2_1⟩ : ∃ z : Int32, z = x2 + 1 := ⟨_, rfl⟩
  have h := h x2_1 ex2_1
  refine lv_iinc (v := x2_1) (lv' := [(2, .int x2_1), (0, .ref (qa 0 0)), (1, .int x1)]) hx hb dX9_sleepersInAll_31 hl (k := 2) rfl (by rw [ex2_1]; rfl) (by decide) rfl (fun ls hl => ?_)
  refine lv_goto (tgt := 4) hx hb dX9_sleepersInAll_34 (by decide) ?_
  exact hk4 x1 x2_1 H locs ls hP hD hS (lv_sub hl [1, 2, 0] rfl) h
set_option maxHeartbeats 4000000 in
set_option maxRecDepth 100000 in
theorem w_X9_sleepersInAll_4 {p : Program} {l : Launch} {e : Env} {s : State} {m : MethodId} {args : Array Value} {below : List Frame} {meth : Method} {c : Code} {dC : Nat → ClassId} {dI : Nat → Nat → Nat} {cI cJ : ClassId} {A : Nat → Prop} (cx : CX RX9 cX9_sleepersInAll (some .int) 3 p s m args meth c (dC, dI) (TY cI cJ)) (hA : ∀ q, s.heap.size ≤ q → A q) {qa : Nat → Nat → Nat} {C : (Nat → Mem)} {L : MemL} {post : Int32 → Prop} : ∀ (n : Nat) (x1 : Int32) (x2 : Int32) (H : Heap) (locs : List Loc) (ls : Array Slot), va_P (dC, dI) vwCl (wC cI cJ qa C L) H → va_D A (wC cI cJ qa C L) → va_S A s.heap H locs → lv_has ls 3 [(0, .ref (qa 0 0)), (1, .int x1), (2, .int x2)] → b_X9_sleepersInAll_4 C L post n x1 x2 → W p l e ({ frames := 0, cells := 0, slots := 0, locals := 0 }) s m args below meth c H locs 0 0 (MQ below (va_Qi (S := Unit) (fun (r : Int32) (_u : Unit) => post r) (fun _u t => AT (dC, dI) (TY cI cJ) A (wC cI cJ qa C L) t) A) args s 0 0 A) (F0 m 4 ls []) := by
  obtain ⟨hx, hb, hr, hml, hown, hts, hlocks, hK⟩ := id cx
  have cx' : CX RX9 cX9_sleepersInAll (meth.sig.returnType) 3 p s m args meth c (dC, dI) (TY cI cJ) := ⟨hx, hb, rfl, hml, hown, hts, hlocks, hK⟩
  intro n
  induction n with
  | zero =>
    intro x1 x2 H locs ls hP hD hS hl h
    exact False.elim h
  | succ n ih =>
    intro x1 x2 H locs ls hP hD hS hl h
    unfold b_X9_sleepersInAll_4 at h
    refine lv_iload_n hx hb dX9_sleepersInAll_4 rfl (lv_at hl 2 rfl) ?_
    refine lv_aload_n hx hb dX9_sleepersInAll_5 rfl (lv_at hl 0 rfl) ?_
    refine gf_v (k := 3) (v := .ref (qa 4 0)) cx' hP 0 i_X9 rfl rfl (by decide) kw_267 rfl rfl dX9_sleepersInAll_6 ?_
    refine gf_v (k := 4) (v := .int (C 4 0 4)) cx' hP 10 i_X2 rfl rfl (by decide) kw_104 rfl rfl dX9_sleepersInAll_9 ?_
    refine lv_icmp_ge (tgt := 37) hx hb dX9_sleepersInAll_12 (by decide) (fun c_1 => ?_) (fun c_1 => ?_)
    · have h := h.1 c_1
      refine lv_iload_n hx hb dX9_sleepersInAll_37 rfl (lv_at hl 1 rfl) ?_
      exact rt_i (v := x1) (u := ()) cx hP hD hS h dX9_sleepersInAll_38
    have h := h.2 c_1
    refine lv_aload_n hx hb dX9_sleepersInAll_15 rfl (lv_at hl 0 rfl) ?_
    refine gf_v (k := 4) (v := .ref (qa 5 0)) cx' hP 0 i_X9 rfl rfl (by decide) kw_268 rfl rfl dX9_sleepersInAll_16 ?_
    refine gf_v (k := 1) (v := .ref (qa 5 2)) cx' hP 15 i_X1 rfl rfl (by decide) kw_124 rfl rfl dX9_sleepersInAll_19 ?_
    refine lv_iload_n hx hb dX9_sleepersInAll_22 rfl (lv_at hl 2 rfl) ?_
    refine va_iald hx hb hK hP 17 0 rfl rfl h.1 dX9_sleepersInAll_23 ?_
    have h := h.2
    refine lv_iconst (v := (-1)) hx hb dX9_sleepersInAll_24 (by decide) ?_
    refine lv_icmp_eq (tgt := 31) hx hb dX9_sleepersInAll_25 (by decide) (fun c_2 => ?_) (fun c_2 => ?_)
    · have h := h.1 c_2
      exact w_X9_sleepersInAll_31 cx hA ih x1 x2 H locs ls hP hD hS (lv_sub hl [0, 1, 2] rfl) h
    have h := h.2 c_2
    obtain ⟨x1_3, ex1_3⟩ : ∃ z : Int32, z = x1 + 1 := ⟨_, rfl⟩
    have h := h x1_3 ex1_3
    refine lv_iinc (v := x1_3) (lv' := [(1, .int x1_3), (0, .ref (qa 0 0)), (2, .int x2)]) hx hb dX9_sleepersInAll_28 hl (k := 1) rfl (by rw [ex1_3]; rfl) (by decide) rfl (fun ls hl => ?_)
    exact w_X9_sleepersInAll_31 cx hA ih x1_3 x2 H locs ls hP hD hS (lv_sub hl [1, 0, 2] rfl) h
set_option maxHeartbeats 4000000 in
set_option maxRecDepth 100000 in
theorem w_X9_sleepersInAll_0 {p : Program} {l : Launch} {e : Env} {s : State} {m : MethodId} {args : Array Value} {below : List Frame} {meth : Method} {c : Code} {dC : Nat → ClassId} {dI : Nat → Nat → Nat} {cI cJ : ClassId} {A : Nat → Prop} (cx : CX RX9 cX9_sleepersInAll (some .int) 3 p s m args meth c (dC, dI) (TY cI cJ)) (hA : ∀ q, s.heap.size ≤ q → A q) {qa : Nat → Nat → Nat} {C : (Nat → Mem)} {L : MemL} {post : Int32 → Prop} : ∀  (H : Heap) (locs : List Loc) (ls : Array Slot), va_P (dC, dI) vwCl (wC cI cJ qa C L) H → va_D A (wC cI cJ qa C L) → va_S A s.heap H locs → lv_has ls 3 [(0, .ref (qa 0 0))] → b_X9_sleepersInAll_0 C L post  → W p l e ({ frames := 0, cells := 0, slots := 0, locals := 0 }) s m args below meth c H locs 0 0 (MQ below (va_Qi (S := Unit) (fun (r : Int32) (_u : Unit) => post r) (fun _u t => AT (dC, dI) (TY cI cJ) A (wC cI cJ qa C L) t) A) args s 0 0 A) (F0 m 0 ls []) := by
  obtain ⟨hx, hb, hr, hml, hown, hts, hlocks, hK⟩ := id cx
  have cx' : CX RX9 cX9_sleepersInAll (meth.sig.returnType) 3 p s m args meth c (dC, dI) (TY cI cJ) := ⟨hx, hb, rfl, hml, hown, hts, hlocks, hK⟩
  intro H locs ls hP hD hS hl h
  unfold b_X9_sleepersInAll_0 at h
  refine lv_iconst (v := 0) hx hb dX9_sleepersInAll_0 (by decide) ?_
  refine lv_istore_n (lv' := [(1, .int 0), (0, .ref (qa 0 0))]) hx hb dX9_sleepersInAll_1 rfl hl (by decide) rfl (fun ls hl => ?_)
  refine lv_iconst (v := 0) hx hb dX9_sleepersInAll_2 (by decide) ?_
  refine lv_istore_n (lv' := [(2, .int 0), (1, .int 0), (0, .ref (qa 0 0))]) hx hb dX9_sleepersInAll_3 rfl hl (by decide) rfl (fun ls hl => ?_)
  obtain ⟨n_1, h⟩ := h
  exact w_X9_sleepersInAll_4 cx hA n_1 0 0 H locs ls hP hD hS (lv_sub hl [2, 1, 0] rfl) h
set_option maxRecDepth 100000 in
theorem c_X9_sleepersInAll (l : Launch) {dC : Nat → ClassId} {dI : Nat → Nat → Nat} {cI cJ : ClassId} (sz : Nat) (qa : Nat → Nat → Nat) (C : Nat → Mem) (L : MemL) (post : Int32 → Prop) (h : wp_X9_sleepersInAll C L post) : Met l yX9_sleepersInAll (Cond.code yX9_sleepersInAll cX9_sleepersInAll 3 (some .int) :: gt) ({ frames := 0, cells := 0, slots := 0, locals := 0 }) (va_Pc [.ref (qa 0 0)] (PRE (dC, dI) (TY cI cJ) (wC cI cJ qa C L) sz)) (va_Qi (S := Unit) (fun (r : Int32) (_u : Unit) => post r) (fun _u t => AT (dC, dI) (TY cI cJ) (va_A (wC cI cJ qa C L) sz) (wC cI cJ qa C L) t) (va_A (wC cI cJ qa C L) sz)) 0 0 (va_A (wC cI cJ qa C L) sz) :=
  met_of (own := RX9) (Qf := fun A => va_Qi (S := Unit) (fun (r : Int32) (_u : Unit) => post r) (fun _u t => AT (dC, dI) (TY cI cJ) A (wC cI cJ qa C L) t) A) (by decide) rfl (Nat.le_of_ble_eq_true rfl) rfl (fun p e s m below meth c A cx hA ls hP hD hS hl => w_X9_sleepersInAll_0 cx hA  _ _ ls hP hD hS hl h)
theorem mv_X9_sleepersInAll : MV yX9_sleepersInAll cX9_sleepersInAll 3 (some .int) 0 := ⟨⟨kw_669, kw_1, by decide +kernel⟩, kw_668, ksel_15⟩
set_option maxHeartbeats 4000000 in
set_option maxRecDepth 100000 in
theorem w_X9_count_0 {p : Program} {l : Launch} {e : Env} {s : State} {m : MethodId} {args : Array Value} {below : List Frame} {meth : Method} {c : Code} {dC : Nat → ClassId} {dI : Nat → Nat → Nat} {cI cJ : ClassId} {A : Nat → Prop} (cx : CX RX9 cX9_count (some .int) 2 p s m args meth c (dC, dI) (TY cI cJ)) (hA : ∀ q, s.heap.size ≤ q → A q) {qa : Nat → Nat → Nat} {C : (Nat → Mem)} {L : MemL} {post : Int32 → Prop} : ∀ (x1 : Int32) (H : Heap) (locs : List Loc) (ls : Array Slot), va_P (dC, dI) vwCl (wC cI cJ qa C L) H → va_D A (wC cI cJ qa C L) → va_S A s.heap H locs → lv_has ls 2 [(0, .ref (qa 0 0)), (1, .int x1)] → b_X9_count_0 C L post x1 → W p l e ({ frames := 1, cells := 0, slots := 0, locals := 22 }) s m args below meth c H locs 0 0 (MQ below (va_Qi (S := Unit) (fun (r : Int32) (_u : Unit) => post r) (fun _u t => AT (dC, dI) (TY cI cJ) A (wC cI cJ qa C L) t) A) args s 0 0 A) (F0 m 0 ls []) := by
  obtain ⟨hx, hb, hr, hml, hown, hts, hlocks, hK⟩ := id cx
  have cx' : CX RX9 cX9_count (meth.sig.returnType) 2 p s m args meth c (dC, dI) (TY cI cJ) := ⟨hx, hb, rfl, hml, hown, hts, hlocks, hK⟩
  intro x1 H locs ls hP hD hS hl h
  unfold b_X9_count_0 at h
  refine lv_iload_n hx hb dX9_count_0 rfl (lv_at hl 1 rfl) ?_
  by_cases c_1 : x1 = 0
  · have h := h.1 c_1
    refine lv_tableIn (off := 51) (tgt := 52) hx hb dX9_count_1 (by have e9 := c_1; (rw [e9]; decide)) (by have e9 := c_1; (rw [e9]; decide)) (by have e9 := c_1; (rw [e9]; rfl)) (by decide) ?_
    refine lv_aload_n hx hb dX9_count_52 rfl (lv_at hl 0 rfl) ?_
    refine gf_v (k := 2) (v := .ref (qa 3 0)) cx' hP 0 i_X9 rfl rfl (by decide) kw_266 rfl rfl dX9_count_53 ?_
    refine gf_v (k := 4) (v := .int (C 3 0 4)) cx' hP 5 i_X4 rfl rfl (by decide) kw_64 rfl rfl dX9_count_56 ?_
    exact rt_i (v := C 3 0 4) (u := ()) cx hP hD hS h dX9_count_59
  have h := h.2 c_1
  by_cases c_2 : x1 = 1
  · have h := h.1 c_2
    refine lv_tableIn (off := 59) (tgt := 60) hx hb dX9_count_1 (by have e9 := c_2; (rw [e9]; decide)) (by have e9 := c_2; (rw [e9]; decide)) (by have e9 := c_2; (rw [e9]; rfl)) (by decide) ?_
    refine lv_aload_n hx hb dX9_count_60 rfl (lv_at hl 0 rfl) ?_
    refine gf_v (k := 3) (v := .ref (qa 4 0)) cx' hP 0 i_X9 rfl rfl (by decide) kw_267 rfl rfl dX9_count_61 ?_
    refine gf_v (k := 4) (v := .int (C 4 0 4)) cx' hP 10 i_X2 rfl rfl (by decide) kw_104 rfl rfl dX9_count_64 ?_
    exact rt_i (v := C 4 0 4) (u := ()) cx hP hD hS h dX9_count_67
  have h := h.2 c_2
  by_cases c_3 : x1 = 2
  · have h := h.1 c_3
    refine lv_tableIn (off := 67) (tgt := 68) hx hb dX9_count_1 (by have e9 := c_3; (rw [e9]; decide)) (by have e9 := c_3; (rw [e9]; decide)) (by have e9 := c_3; (rw [e9]; rfl)) (by decide) ?_
    refine lv_aload_n hx hb dX9_count_68 rfl (lv_at hl 0 rfl) ?_
    refine gf_v (k := 0) (v := .ref (qa 1 0)) cx' hP 0 i_X9 rfl rfl (by decide) kw_264 rfl rfl dX9_count_69 ?_
    refine gf_v (k := 3) (v := .int (C 1 0 3)) cx' hP 1 i_X7 rfl rfl (by decide) kw_34 rfl rfl dX9_count_72 ?_
    exact rt_i (v := C 1 0 3) (u := ()) cx hP hD hS h dX9_count_75
  have h := h.2 c_3
  by_cases c_4 : x1 = 3
  · have h := h.1 c_4
    refine lv_tableIn (off := 75) (tgt := 76) hx hb dX9_count_1 (by have e9 := c_4; (rw [e9]; decide)) (by have e9 := c_4; (rw [e9]; decide)) (by have e9 := c_4; (rw [e9]; rfl)) (by decide) ?_
    refine lv_aload_n hx hb dX9_count_76 rfl (lv_at hl 0 rfl) ?_
    refine gf_v (k := 1) (v := .ref (qa 2 0)) cx' hP 0 i_X9 rfl rfl (by decide) kw_265 rfl rfl dX9_count_77 ?_
    refine gf_v (k := 3) (v := .int (C 2 0 3)) cx' hP 3 i_X7 rfl rfl (by decide) kw_34 rfl rfl dX9_count_80 ?_
    exact rt_i (v := C 2 0 3) (u := ()) cx hP hD hS h dX9_count_83
  have h := h.2 c_4
  by_cases c_5 : x1 = 4
  · have h := h.1 c_5
    refine lv_tableIn (off := 83) (tgt := 84) hx hb dX9_count_1 (by have e9 := c_5; (rw [e9]; decide)) (by have e9 := c_5; (rw [e9]; decide)) (by have e9 := c_5; (rw [e9]; rfl)) (by decide) ?_
    refine lv_aload_n hx hb dX9_count_84 rfl (lv_at hl 0 rfl) ?_
    refine call_i (run_V (As := []) (rest := []) cx' (c_X9_givenInAll l H.size qa C L _ h) mv_X9_givenInAll kw_662 rfl rfl ⟨Nat.le_of_ble_eq_true rfl, Nat.le_of_ble_eq_true rfl⟩ hP hD rfl rfl rfl hl.1 rfl (Nat.le_of_ble_eq_true rfl) dX9_count_85 ⟨Nat.zero_le _, Nat.zero_le _⟩) hD hS hA (fun r_6 u9 H locs hP hD hS h => ?_)
    have hP : va_P (dC, dI) vwCl (wC cI cJ qa C L) H := hP
    have hD : va_D A (wC cI cJ qa C L) := hD
    exact rt_i (v := r_6) (u := ()) cx hP hD hS h dX9_count_88
  have h := h.2 c_5
  by_cases c_7 : x1 = 5
  · have h := h.1 c_7
    refine lv_tableIn (off := 88) (tgt := 89) hx hb dX9_count_1 (by have e9 := c_7; (rw [e9]; decide)) (by have e9 := c_7; (rw [e9]; decide)) (by have e9 := c_7; (rw [e9]; rfl)) (by decide) ?_
    refine lv_aload_n hx hb dX9_count_89 rfl (lv_at hl 0 rfl) ?_
    refine call_i (run_V (As := []) (rest := []) cx' (c_X9_sleepersInAll l H.size qa C L _ h) mv_X9_sleepersInAll kw_666 rfl rfl ⟨Nat.le_of_ble_eq_true rfl, Nat.le_of_ble_eq_true rfl⟩ hP hD rfl rfl rfl hl.1 rfl (Nat.le_of_ble_eq_true rfl) dX9_count_90 ⟨Nat.zero_le _, Nat.zero_le _⟩) hD hS hA (fun r_8 u9 H locs hP hD hS h => ?_)
    have hP : va_P (dC, dI) vwCl (wC cI cJ qa C L) H := hP
    have hD : va_D A (wC cI cJ qa C L) := hD
    exact rt_i (v := r_8) (u := ()) cx hP hD hS h dX9_count_93
  have h := h.2 c_7
  by_cases c_9 : x1 = 6
  · have h := h.1 c_9
    refine lv_tableIn (off := 93) (tgt := 94) hx hb dX9_count_1 (by have e9 := c_9; (rw [e9]; decide)) (by have e9 := c_9; (rw [e9]; decide)) (by have e9 := c_9; (rw [e9]; rfl)) (by decide) ?_
    refine lv_aload_n hx hb dX9_count_94 rfl (lv_at hl 0 rfl) ?_
    refine gf_v (k := 2) (v := .ref (qa 3 0)) cx' hP 0 i_X9 rfl rfl (by decide) kw_266 rfl rfl dX9_count_95 ?_
    refine gf_v (k := 6) (v := .int (C 3 0 6)) cx' hP 5 i_X4 rfl rfl (by decide) kw_68 rfl rfl dX9_count_98 ?_
    exact rt_i (v := C 3 0 6) (u := ()) cx hP hD hS h dX9_count_101
  have h := h.2 c_9
  by_cases c_10 : x1 = 7
  · have h := h.1 c_10
    refine lv_tableIn (off := 101) (tgt := 102) hx hb dX9_count_1 (by have e9 := c_10; (rw [e9]; decide)) (by have e9 := c_10; (rw [e9]; decide)) (by have e9 := c_10; (rw [e9]; rfl)) (by decide) ?_
    refine lv_aload_n hx hb dX9_count_102 rfl (lv_at hl 0 rfl) ?_
    refine gf_v (k := 5) (v := .ref (qa 6 0)) cx' hP 0 i_X9 rfl rfl (by decide) kw_269 rfl rfl dX9_count_103 ?_
    refine gf_v (k := 2) (v := .int (C 6 0 2)) cx' hP 23 i_X6 rfl rfl (by decide) kw_165 rfl rfl dX9_count_106 ?_
    exact rt_i (v := C 6 0 2) (u := ()) cx hP hD hS h dX9_count_109
  have h := h.2 c_10
  by_cases c_11 : x1 = 8
  · have h := h.1 c_11
    refine lv_tableIn (off := 109) (tgt := 110) hx hb dX9_count_1 (by have e9 := c_11; (rw [e9]; decide)) (by have e9 := c_11; (rw [e9]; decide)) (by have e9 := c_11; (rw [e9]; rfl)) (by decide) ?_
    refine lv_aload_n hx hb dX9_count_110 rfl (lv_at hl 0 rfl) ?_
    refine gf_v (k := 11) (v := .int (C 0 0 11)) cx' hP 0 i_X9 rfl rfl (by decide) kw_275 rfl rfl dX9_count_111 ?_
    exact rt_i (v := C 0 0 11) (u := ()) cx hP hD hS h dX9_count_114
  have h := h.2 c_11
  refine tsw_def (tgt := 115) hx hb dX9_count_1 (fun j hj hle => ?_) (by decide) ?_
  · have hj9 : j = 0 ∨ j = 1 ∨ j = 2 ∨ j = 3 ∨ j = 4 ∨ j = 5 ∨ j = 6 ∨ j = 7 ∨ j = 8 := by omega
    rcases hj9 with rfl | rfl | rfl | rfl | rfl | rfl | rfl | rfl | rfl
    · exact absurd (have e9 : x1 = 0 := Int32.toInt_inj.mp (by rw [hj]; rfl); e9) c_1
    · exact absurd (have e9 : x1 = 1 := Int32.toInt_inj.mp (by rw [hj]; rfl); e9) c_2
    · exact absurd (have e9 : x1 = 2 := Int32.toInt_inj.mp (by rw [hj]; rfl); e9) c_3
    · exact absurd (have e9 : x1 = 3 := Int32.toInt_inj.mp (by rw [hj]; rfl); e9) c_4
    · exact absurd (have e9 : x1 = 4 := Int32.toInt_inj.mp (by rw [hj]; rfl); e9) c_5
    · exact absurd (have e9 : x1 = 5 := Int32.toInt_inj.mp (by rw [hj]; rfl); e9) c_7
    · exact absurd (have e9 : x1 = 6 := Int32.toInt_inj.mp (by rw [hj]; rfl); e9) c_9
    · exact absurd (have e9 : x1 = 7 := Int32.toInt_inj.mp (by rw [hj]; rfl); e9) c_10
    · exact absurd (have e9 : x1 = 8 := Int32.toInt_inj.mp (by rw [hj]; rfl); e9) c_11
  refine lv_bipush (v := (-2)) hx hb dX9_count_115 (by decide) ?_
  exact rt_i (v := (-2)) (u := ()) cx hP hD hS h dX9_count_117
set_option maxRecDepth 100000 in
theorem c_X9_count (l : Launch) {dC : Nat → ClassId} {dI : Nat → Nat → Nat} {cI cJ : ClassId} (sz : Nat) (qa : Nat → Nat → Nat) (C : Nat → Mem) (L : MemL) (x1 : Int32) (post : Int32 → Prop) (h : wp_X9_count C L x1 post) : Met l yX9_count (Cond.code yX9_count cX9_count 2 (some .int) :: gt) ({ frames := 1, cells := 0, slots := 0, locals := 22 }) (va_Pc [.ref (qa 0 0), .int x1] (PRE (dC, dI) (TY cI cJ) (wC cI cJ qa C L) sz)) (va_Qi (S := Unit) (fun (r : Int32) (_u : Unit) => post r) (fun _u t => AT (dC, dI) (TY cI cJ) (va_A (wC cI cJ qa C L) sz) (wC cI cJ qa C L) t) (va_A (wC cI cJ qa C L) sz)) 0 0 (va_A (wC cI cJ qa C L) sz) :=
  met_of (own := RX9) (Qf := fun A => va_Qi (S := Unit) (fun (r : Int32) (_u : Unit) => post r) (fun _u t => AT (dC, dI) (TY cI cJ) A (wC cI cJ qa C L) t) A) (by decide) rfl (Nat.le_of_ble_eq_true rfl) rfl (fun p e s m below meth c A cx hA ls hP hD hS hl => w_X9_count_0 cx hA x1 _ _ ls hP hD hS hl h)
theorem mv_X9_count : MV yX9_count cX9_count 2 (some .int) 1 := ⟨⟨kw_661, kw_1, by decide +kernel⟩, kw_659, kw_660⟩
set_option maxHeartbeats 4000000 in
set_option maxRecDepth 100000 in
theorem w_X9_mixGuest_85 {p : Program} {l : Launch} {e : Env} {s : State} {m : MethodId} {args : Array Value} {below : List Frame} {meth : Method} {c : Code} {dC : Nat → ClassId} {dI : Nat → Nat → Nat} {cI cJ : ClassId} {A : Nat → Prop} (cx : CX RX9 cX9_mixGuest (some .long) 7 p s m args meth c (dC, dI) (TY cI cJ)) (hA : ∀ q, s.heap.size ≤ q → A q) {qa : Nat → Nat → Nat} {post : Int64 → (Nat → Mem) → MemL → Prop} : ∀ (n : Nat) (x3 : Int32) (x4 : Int64) (x6 : Int32) (C : (Nat → Mem)) (L : MemL) (H : Heap) (locs : List Loc) (ls : Array Slot), va_P (dC, dI) vwCl (wC cI cJ qa C L) H → va_D A (wC cI cJ qa C L) → va_S A s.heap H locs → lv_has ls 7 [(0, .ref (qa 0 0)), (3, .int x3), (4, .long x4), (6, .int x6)] → b_X9_mixGuest_85 post n x3 x4 x6 C L → W p l e ({ frames := 3, cells := 0, slots := 0, locals := 77 }) s m args below meth c H locs 0 0 (MQ below (va_Ql (S := (Nat → Mem) × MemL) (fun (r : Int64) (u : (Nat → Mem) × MemL) => post r u.1 u.2) (fun u t => AT (dC, dI) (TY cI cJ) A (wC cI cJ qa (u.1) (u.2)) t) A) args s 0 0 A) (F0 m 85 ls []) := by
  obtain ⟨hx, hb, hr, hml, hown, hts, hlocks, hK⟩ := id cx
  have cx' : CX RX9 cX9_mixGuest (meth.sig.returnType) 7 p s m args meth c (dC, dI) (TY cI cJ) := ⟨hx, hb, rfl, hml, hown, hts, hlocks, hK⟩
  intro n
  induction n with
  | zero =>
    intro x3 x4 x6 C L H locs ls hP hD hS hl h
    exact False.elim h
  | succ n ih =>
    intro x3 x4 x6 C L H locs ls hP hD hS hl h
    unfold b_X9_mixGuest_85 at h
    refine lv_iload hx hb dX9_mixGuest_85 (lv_at hl 3 rfl) ?_
    refine lv_aload_n hx hb dX9_mixGuest_87 rfl (lv_at hl 0 rfl) ?_
    refine gf_v (k := 2) (v := .ref (qa 3 0)) cx' hP 0 i_X9 rfl rfl (by decide) kw_266 rfl rfl dX9_mixGuest_88 ?_
    refine gf_v (k := 4) (v := .int (C 3 0 4)) cx' hP 5 i_X4 rfl rfl (by decide) kw_64 rfl rfl dX9_mixGuest_91 ?_
    refine lv_icmp_ge (tgt := 120) hx hb dX9_mixGuest_94 (by decide) (fun c_1 => ?_) (fun c_1 => ?_)
    · have h := h.1 c_1
      refine lv_lload hx hb dX9_mixGuest_120 (lv_at hl 2 rfl) ?_
      exact rt_l (v := x4) (u := (C, L)) cx hP hD hS h dX9_mixGuest_122
    have h := h.2 c_1
    refine lv_ldc2 hx hb hown (hts _ kw_675) dX9_mixGuest_97 ?_
    refine lv_lload hx hb dX9_mixGuest_100 (lv_at hl 2 rfl) ?_
    refine lv_lmul hx hb dX9_mixGuest_102 ?_
    refine lv_aload_n hx hb dX9_mixGuest_103 rfl (lv_at hl 0 rfl) ?_
    refine lv_iload_n hx hb dX9_mixGuest_104 rfl (lv_at hl 1 rfl) ?_
    refine lv_iload hx hb dX9_mixGuest_105 (lv_at hl 3 rfl) ?_
    refine call_i (run_V (As := [.int x3, .int x6]) (rest := [.long (31 * x4)]) cx' (c_X9_gives l H.size qa C L x3 x6 _ h) mv_X9_gives kw_705 rfl rfl ⟨Nat.le_of_ble_eq_true rfl, Nat.le_of_ble_eq_true rfl⟩ hP hD rfl rfl rfl hl.1 rfl (Nat.le_of_ble_eq_true rfl) dX9_mixGuest_107 ⟨Nat.zero_le _, Nat.zero_le _⟩) hD hS hA (fun r_2 u9 H locs hP hD hS h => ?_)
    have hP : va_P (dC, dI) vwCl (wC cI cJ qa C L) H := hP
    have hD : va_D A (wC cI cJ qa C L) := hD
    refine lv_i2l (v := Int32.toInt64 r_2) hx hb dX9_mixGuest_110 rfl ?_
    refine lv_ladd hx hb dX9_mixGuest_111 ?_
    refine lv_topl (fun x4_3 ex4_3 => ?_)
    have h := h x4_3 ex4_3
    refine lv_lstore (lv' := [(4, .long x4_3), (0, .ref (qa 0 0)), (3, .int x3), (6, .int x6)]) hx hb dX9_mixGuest_112 hl (by decide) rfl (fun ls hl => ?_)
    obtain ⟨x6_4, ex6_4⟩ : ∃ z : Int32, z = x6 + 1 := ⟨_, rfl⟩
    have h := h x6_4 ex6_4
    refine lv_iinc (v := x6_4) (lv' := [(6, .int x6_4), (4, .long x4_3), (0, .ref (qa 0 0)), (3, .int x3)]) hx hb dX9_mixGuest_114 hl (k := 3) rfl (by rw [ex6_4]; rfl) (by decide) rfl (fun ls hl => ?_)
    refine lv_goto (tgt := 85) hx hb dX9_mixGuest_117 (by decide) ?_
    exact ih x3 x4_3 x6_4 C L H locs ls hP hD hS (lv_sub hl [2, 3, 1, 0] rfl) h
set_option maxHeartbeats 4000000 in
set_option maxRecDepth 100000 in
theorem w_X9_mixGuest_38 {p : Program} {l : Launch} {e : Env} {s : State} {m : MethodId} {args : Array Value} {below : List Frame} {meth : Method} {c : Code} {dC : Nat → ClassId} {dI : Nat → Nat → Nat} {cI cJ : ClassId} {A : Nat → Prop} (cx : CX RX9 cX9_mixGuest (some .long) 7 p s m args meth c (dC, dI) (TY cI cJ)) (hA : ∀ q, s.heap.size ≤ q → A q) {qa : Nat → Nat → Nat} {post : Int64 → (Nat → Mem) → MemL → Prop} : ∀ (n : Nat) (x3 : Int32) (x4 : Int64) (x6 : Int32) (C : (Nat → Mem)) (L : MemL) (H : Heap) (locs : List Loc) (ls : Array Slot), va_P (dC, dI) vwCl (wC cI cJ qa C L) H → va_D A (wC cI cJ qa C L) → va_S A s.heap H locs → lv_has ls 7 [(0, .ref (qa 0 0)), (3, .int x3), (4, .long x4), (6, .int x6)] → b_X9_mixGuest_38 post n x3 x4 x6 C L → W p l e ({ frames := 3, cells := 0, slots := 0, locals := 77 }) s m args below meth c H locs 0 0 (MQ below (va_Ql (S := (Nat → Mem) × MemL) (fun (r : Int64) (u : (Nat → Mem) × MemL) => post r u.1 u.2) (fun u t => AT (dC, dI) (TY cI cJ) A (wC cI cJ qa (u.1) (u.2)) t) A) args s 0 0 A) (F0 m 38 ls []) := by
  obtain ⟨hx, hb, hr, hml, hown, hts, hlocks, hK⟩ := id cx
  have cx' : CX RX9 cX9_mixGuest (meth.sig.returnType) 7 p s m args meth c (dC, dI) (TY cI cJ) := ⟨hx, hb, rfl, hml, hown, hts, hlocks, hK⟩
  intro n
  induction n with
  | zero =>
    intro x3 x4 x6 C L H locs ls hP hD hS hl h
    exact False.elim h
  | succ n ih =>
    intro x3 x4 x6 C L H locs ls hP hD hS hl h
    unfold b_X9_mixGuest_38 at h
    refine lv_iload hx hb dX9_mixGuest_38 (lv_at hl 3 rfl) ?_
    refine lv_iconst (v := 3) hx hb dX9_mixGuest_40 (by decide) ?_
    refine lv_icmp_gt (tgt := 67) hx hb dX9_mixGuest_41 (by decide) (fun c_1 => ?_) (fun c_1 => ?_)
    · have h := h.1 c_1
      refine lv_ldc2 hx hb hown (hts _ kw_675) dX9_mixGuest_67 ?_
      refine lv_lload hx hb dX9_mixGuest_70 (lv_at hl 2 rfl) ?_
      refine lv_lmul hx hb dX9_mixGuest_72 ?_
      refine lv_aload_n hx hb dX9_mixGuest_73 rfl (lv_at hl 0 rfl) ?_
      refine lv_iload_n hx hb dX9_mixGuest_74 rfl (lv_at hl 1 rfl) ?_
      refine call_i (run_V (As := [.int x3]) (rest := [.long (31 * x4)]) cx' (c_X9_began l H.size qa C L x3 _ h) mv_X9_began kw_704 rfl rfl ⟨Nat.le_of_ble_eq_true rfl, Nat.le_of_ble_eq_true rfl⟩ hP hD rfl rfl rfl hl.1 rfl (Nat.le_of_ble_eq_true rfl) dX9_mixGuest_75 ⟨Nat.zero_le _, Nat.zero_le _⟩) hD hS hA (fun r_2 u9 H locs hP hD hS h => ?_)
      obtain ⟨C_3, L_4⟩ := u9
      have hP : va_P (dC, dI) vwCl (wC cI cJ qa C_3 L_4) H := hP
      have hD : va_D A (wC cI cJ qa C_3 L_4) := hD
      refine lv_i2l (v := Int32.toInt64 r_2) hx hb dX9_mixGuest_78 rfl ?_
      refine lv_ladd hx hb dX9_mixGuest_79 ?_
      refine lv_topl (fun x4_5 ex4_5 => ?_)
      have h := h x4_5 ex4_5
      refine lv_lstore (lv' := [(4, .long x4_5), (0, .ref (qa 0 0)), (3, .int x3), (6, .int x6)]) hx hb dX9_mixGuest_80 hl (by decide) rfl (fun ls hl => ?_)
      refine lv_iconst (v := 0) hx hb dX9_mixGuest_82 (by decide) ?_
      refine lv_istore (lv' := [(6, .int 0), (4, .long x4_5), (0, .ref (qa 0 0)), (3, .int x3)]) hx hb dX9_mixGuest_83 hl (by decide) rfl (fun ls hl => ?_)
      obtain ⟨n_6, h⟩ := h
      exact w_X9_mixGuest_85 cx hA n_6 x3 x4_5 0 C_3 L_4 H locs ls hP hD hS (lv_sub hl [2, 3, 1, 0] rfl) h
    have h := h.2 c_1
    refine lv_ldc2 hx hb hown (hts _ kw_675) dX9_mixGuest_44 ?_
    refine lv_lload hx hb dX9_mixGuest_47 (lv_at hl 2 rfl) ?_
    refine lv_lmul hx hb dX9_mixGuest_49 ?_
    refine lv_aload_n hx hb dX9_mixGuest_50 rfl (lv_at hl 0 rfl) ?_
    refine lv_iload_n hx hb dX9_mixGuest_51 rfl (lv_at hl 1 rfl) ?_
    refine lv_iload hx hb dX9_mixGuest_52 (lv_at hl 3 rfl) ?_
    refine call_i (run_V (As := [.int x3, .int x6]) (rest := [.long (31 * x4)]) cx' (c_X9_fed l H.size qa C L x3 x6 _ h) mv_X9_fed kw_703 rfl rfl ⟨Nat.le_of_ble_eq_true rfl, Nat.le_of_ble_eq_true rfl⟩ hP hD rfl rfl rfl hl.1 rfl (Nat.le_of_ble_eq_true rfl) dX9_mixGuest_54 ⟨Nat.zero_le _, Nat.zero_le _⟩) hD hS hA (fun r_7 u9 H locs hP hD hS h => ?_)
    have hP : va_P (dC, dI) vwCl (wC cI cJ qa C L) H := hP
    have hD : va_D A (wC cI cJ qa C L) := hD
    refine lv_i2l (v := Int32.toInt64 r_7) hx hb dX9_mixGuest_57 rfl ?_
    refine lv_ladd hx hb dX9_mixGuest_58 ?_
    refine lv_topl (fun x4_8 ex4_8 => ?_)
    have h := h x4_8 ex4_8
    refine lv_lstore (lv' := [(4, .long x4_8), (0, .ref (qa 0 0)), (3, .int x3), (6, .int x6)]) hx hb dX9_mixGuest_59 hl (by decide) rfl (fun ls hl => ?_)
    obtain ⟨x6_9, ex6_9⟩ : ∃ z : Int32, z = x6 + 1 := ⟨_, rfl⟩
    have h := h x6_9 ex6_9
    refine lv_iinc (v := x6_9) (lv' := [(6, .int x6_9), (4, .long x4_8), (0, .ref (qa 0 0)), (3, .int x3)]) hx hb dX9_mixGuest_61 hl (k := 3) rfl (by rw [ex6_9]; rfl) (by decide) rfl (fun ls hl => ?_)
    refine lv_goto (tgt := 38) hx hb dX9_mixGuest_64 (by decide) ?_
    exact ih x3 x4_8 x6_9 C L H locs ls hP hD hS (lv_sub hl [2, 3, 1, 0] rfl) h
set_option maxHeartbeats 4000000 in
set_option maxRecDepth 100000 in
theorem w_X9_mixGuest_6 {p : Program} {l : Launch} {e : Env} {s : State} {m : MethodId} {args : Array Value} {below : List Frame} {meth : Method} {c : Code} {dC : Nat → ClassId} {dI : Nat → Nat → Nat} {cI cJ : ClassId} {A : Nat → Prop} (cx : CX RX9 cX9_mixGuest (some .long) 7 p s m args meth c (dC, dI) (TY cI cJ)) (hA : ∀ q, s.heap.size ≤ q → A q) {qa : Nat → Nat → Nat} {post : Int64 → (Nat → Mem) → MemL → Prop} : ∀ (n : Nat) (x3 : Int32) (x4 : Int64) (x6 : Int32) (C : (Nat → Mem)) (L : MemL) (H : Heap) (locs : List Loc) (ls : Array Slot), va_P (dC, dI) vwCl (wC cI cJ qa C L) H → va_D A (wC cI cJ qa C L) → va_S A s.heap H locs → lv_has ls 7 [(0, .ref (qa 0 0)), (3, .int x3), (4, .long x4), (6, .int x6)] → b_X9_mixGuest_6 post n x3 x4 x6 C L → W p l e ({ frames := 3, cells := 0, slots := 0, locals := 77 }) s m args below meth c H locs 0 0 (MQ below (va_Ql (S := (Nat → Mem) × MemL) (fun (r : Int64) (u : (Nat → Mem) × MemL) => post r u.1 u.2) (fun u t => AT (dC, dI) (TY cI cJ) A (wC cI cJ qa (u.1) (u.2)) t) A) args s 0 0 A) (F0 m 6 ls []) := by
  obtain ⟨hx, hb, hr, hml, hown, hts, hlocks, hK⟩ := id cx
  have cx' : CX RX9 cX9_mixGuest (meth.sig.returnType) 7 p s m args meth c (dC, dI) (TY cI cJ) := ⟨hx, hb, rfl, hml, hown, hts, hlocks, hK⟩
  intro n
  induction n with
  | zero =>
    intro x3 x4 x6 C L H locs ls hP hD hS hl h
    exact False.elim h
  | succ n ih =>
    intro x3 x4 x6 C L H locs ls hP hD hS hl h
    unfold b_X9_mixGuest_6 at h
    refine lv_iload hx hb dX9_mixGuest_6 (lv_at hl 3 rfl) ?_
    refine lv_iconst (v := 3) hx hb dX9_mixGuest_8 (by decide) ?_
    refine lv_icmp_gt (tgt := 35) hx hb dX9_mixGuest_9 (by decide) (fun c_1 => ?_) (fun c_1 => ?_)
    · have h := h.1 c_1
      refine lv_iconst (v := 0) hx hb dX9_mixGuest_35 (by decide) ?_
      refine lv_istore (lv' := [(6, .int 0), (0, .ref (qa 0 0)), (3, .int x3), (4, .long x4)]) hx hb dX9_mixGuest_36 hl (by decide) rfl (fun ls hl => ?_)
      obtain ⟨n_2, h⟩ := h
      exact w_X9_mixGuest_38 cx hA n_2 x3 x4 0 C L H locs ls hP hD hS (lv_sub hl [1, 2, 3, 0] rfl) h
    have h := h.2 c_1
    refine lv_ldc2 hx hb hown (hts _ kw_675) dX9_mixGuest_12 ?_
    refine lv_lload hx hb dX9_mixGuest_15 (lv_at hl 2 rfl) ?_
    refine lv_lmul hx hb dX9_mixGuest_17 ?_
    refine lv_aload_n hx hb dX9_mixGuest_18 rfl (lv_at hl 0 rfl) ?_
    refine lv_iload_n hx hb dX9_mixGuest_19 rfl (lv_at hl 1 rfl) ?_
    refine lv_iload hx hb dX9_mixGuest_20 (lv_at hl 3 rfl) ?_
    refine call_i (run_V (As := [.int x3, .int x6]) (rest := [.long (31 * x4)]) cx' (c_X9_guest l H.size qa C L x3 x6 _ h) mv_X9_guest kw_702 rfl rfl ⟨Nat.le_of_ble_eq_true rfl, Nat.le_of_ble_eq_true rfl⟩ hP hD rfl rfl rfl hl.1 rfl (Nat.le_of_ble_eq_true rfl) dX9_mixGuest_22 ⟨Nat.zero_le _, Nat.zero_le _⟩) hD hS hA (fun r_3 u9 H locs hP hD hS h => ?_)
    have hP : va_P (dC, dI) vwCl (wC cI cJ qa C L) H := hP
    have hD : va_D A (wC cI cJ qa C L) := hD
    refine lv_i2l (v := Int32.toInt64 r_3) hx hb dX9_mixGuest_25 rfl ?_
    refine lv_ladd hx hb dX9_mixGuest_26 ?_
    refine lv_topl (fun x4_4 ex4_4 => ?_)
    have h := h x4_4 ex4_4
    refine lv_lstore (lv' := [(4, .long x4_4), (0, .ref (qa 0 0)), (3, .int x3), (6, .int x6)]) hx hb dX9_mixGuest_27 hl (by decide) rfl (fun ls hl => ?_)
    obtain ⟨x6_5, ex6_5⟩ : ∃ z : Int32, z = x6 + 1 := ⟨_, rfl⟩
    have h := h x6_5 ex6_5
    refine lv_iinc (v := x6_5) (lv' := [(6, .int x6_5), (4, .long x4_4), (0, .ref (qa 0 0)), (3, .int x3)]) hx hb dX9_mixGuest_29 hl (k := 3) rfl (by rw [ex6_5]; rfl) (by decide) rfl (fun ls hl => ?_)
    refine lv_goto (tgt := 6) hx hb dX9_mixGuest_32 (by decide) ?_
    exact ih x3 x4_4 x6_5 C L H locs ls hP hD hS (lv_sub hl [2, 3, 1, 0] rfl) h
set_option maxHeartbeats 4000000 in
set_option maxRecDepth 100000 in
theorem w_X9_mixGuest_0 {p : Program} {l : Launch} {e : Env} {s : State} {m : MethodId} {args : Array Value} {below : List Frame} {meth : Method} {c : Code} {dC : Nat → ClassId} {dI : Nat → Nat → Nat} {cI cJ : ClassId} {A : Nat → Prop} (cx : CX RX9 cX9_mixGuest (some .long) 7 p s m args meth c (dC, dI) (TY cI cJ)) (hA : ∀ q, s.heap.size ≤ q → A q) {qa : Nat → Nat → Nat} {post : Int64 → (Nat → Mem) → MemL → Prop} : ∀ (x1 : Int64) (x3 : Int32) (C : (Nat → Mem)) (L : MemL) (H : Heap) (locs : List Loc) (ls : Array Slot), va_P (dC, dI) vwCl (wC cI cJ qa C L) H → va_D A (wC cI cJ qa C L) → va_S A s.heap H locs → lv_has ls 7 [(0, .ref (qa 0 0)), (1, .long x1), (3, .int x3)] → b_X9_mixGuest_0 post x1 x3 C L → W p l e ({ frames := 3, cells := 0, slots := 0, locals := 77 }) s m args below meth c H locs 0 0 (MQ below (va_Ql (S := (Nat → Mem) × MemL) (fun (r : Int64) (u : (Nat → Mem) × MemL) => post r u.1 u.2) (fun u t => AT (dC, dI) (TY cI cJ) A (wC cI cJ qa (u.1) (u.2)) t) A) args s 0 0 A) (F0 m 0 ls []) := by
  obtain ⟨hx, hb, hr, hml, hown, hts, hlocks, hK⟩ := id cx
  have cx' : CX RX9 cX9_mixGuest (meth.sig.returnType) 7 p s m args meth c (dC, dI) (TY cI cJ) := ⟨hx, hb, rfl, hml, hown, hts, hlocks, hK⟩
  intro x1 x3 C L H locs ls hP hD hS hl h
  unfold b_X9_mixGuest_0 at h
  refine lv_lload_n hx hb dX9_mixGuest_0 rfl (lv_at hl 1 rfl) ?_
  refine lv_lstore (lv' := [(4, .long x1), (0, .ref (qa 0 0)), (1, .long x1), (3, .int x3)]) hx hb dX9_mixGuest_1 hl (by decide) rfl (fun ls hl => ?_)
  refine lv_iconst (v := 0) hx hb dX9_mixGuest_3 (by decide) ?_
  refine lv_istore (lv' := [(6, .int 0), (4, .long x1), (0, .ref (qa 0 0)), (1, .long x1), (3, .int x3)]) hx hb dX9_mixGuest_4 hl (by decide) rfl (fun ls hl => ?_)
  obtain ⟨n_1, h⟩ := h
  exact w_X9_mixGuest_6 cx hA n_1 x3 x1 0 C L H locs ls hP hD hS (lv_sub hl [2, 4, 1, 0] rfl) h
set_option maxRecDepth 100000 in
theorem c_X9_mixGuest (l : Launch) {dC : Nat → ClassId} {dI : Nat → Nat → Nat} {cI cJ : ClassId} (sz : Nat) (qa : Nat → Nat → Nat) (C : Nat → Mem) (L : MemL) (x1 : Int64) (x3 : Int32) (post : Int64 → (Nat → Mem) → MemL → Prop) (h : wp_X9_mixGuest C L x1 x3 post) : Met l yX9_mixGuest (Cond.code yX9_mixGuest cX9_mixGuest 7 (some .long) :: gt) ({ frames := 3, cells := 0, slots := 0, locals := 77 }) (va_Pc [.ref (qa 0 0), .long x1, .int x3] (PRE (dC, dI) (TY cI cJ) (wC cI cJ qa C L) sz)) (va_Ql (S := (Nat → Mem) × MemL) (fun (r : Int64) (u : (Nat → Mem) × MemL) => post r u.1 u.2) (fun u t => AT (dC, dI) (TY cI cJ) (va_A (wC cI cJ qa C L) sz) (wC cI cJ qa (u.1) (u.2)) t) (va_A (wC cI cJ qa C L) sz)) 0 0 (va_A (wC cI cJ qa C L) sz) :=
  met_of (own := RX9) (Qf := fun A => va_Ql (S := (Nat → Mem) × MemL) (fun (r : Int64) (u : (Nat → Mem) × MemL) => post r u.1 u.2) (fun u t => AT (dC, dI) (TY cI cJ) A (wC cI cJ qa (u.1) (u.2)) t) A) (by decide) rfl (Nat.le_of_ble_eq_true rfl) rfl (fun p e s m below meth c A cx hA ls hP hD hS hl => w_X9_mixGuest_0 cx hA x1 x3 C L _ _ ls hP hD hS hl h)
theorem mv_X9_mixGuest : MV yX9_mixGuest cX9_mixGuest 7 (some .long) 2 := ⟨⟨kw_701, kw_1, by decide +kernel⟩, kw_700, ksel_19⟩
