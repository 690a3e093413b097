set_option maxHeartbeats 4000000 in
set_option maxRecDepth 100000 in
theorem w_X7_firstFault_90 {p : Program} {l : Launch} {e : Env} {s : State} {m : MethodId} {args : Array Value} {below : List Frame} {meth : Method} {c : Code} {dC : Nat → ClassId} {dI : Nat → Nat → Nat} {cI cJ : ClassId} {A : Nat → Prop} (cx : CX RX7 cX7_firstFault (some .int) 4 p s m args meth c (dC, dI) (TY cI cJ)) (hA : ∀ q, s.heap.size ≤ q → A q) {q0 : Nat → Nat} {n0 : Nat} {m0 : Mem} {post : Int32 → Prop} : ∀ (z0 : Int32) (H : Heap) (locs : List Loc) (ls : Array Slot), va_P (dC, dI) vwCl (ww_X7 cI cJ n0 q0 m0) H → va_D A (ww_X7 cI cJ n0 q0 m0) → va_S A s.heap H locs → lv_has ls 4 [(0, .ref (q0 0))] → b_X7_firstFault_90 n0 m0 post z0 → W p l e ({ frames := 2, cells := 0, slots := 0, locals := 41 }) s m args below meth c H locs 0 0 (MQ below (va_Qi (S := Unit) (fun (r : Int32) (_u : Unit) => post r) (fun _u t => AT (dC, dI) (TY cI cJ) A (ww_X7 cI cJ n0 q0 m0) t) A) args s 0 0 A) (F0 m 90 ls [.int z0]) := by
  obtain ⟨hx, hb, hr, hml, hown, hts, hlocks, hK⟩ := id cx
  have cx' : CX RX7 cX7_firstFault (meth.sig.returnType) 4 p s m args meth c (dC, dI) (TY cI cJ) := ⟨hx, hb, rfl, hml, hown, hts, hlocks, hK⟩
  intro z0 H locs ls hP hD hS hl h
  unfold b_X7_firstFault_90 at h
  refine lv_istore_n (lv' := [(1, .int z0), (0, .ref (q0 0))]) hx hb dX7_firstFault_90 rfl hl (by decide) rfl (fun ls hl => ?_)
  refine lv_iload_n hx hb dX7_firstFault_91 rfl (lv_at hl 0 rfl) ?_
  refine dia_i (ls := ls) (c0 := z0 = 0) (a := m0 0 3) (b := (-1)) (J := 103) (rest := []) (fun K => ?_) (fun v_2 ev_2 => ?_)
  · refine lv_if_eq (tgt := 99) hx hb dX7_firstFault_92 (by decide) (fun c_1 => ?_) (fun c_1 => ?_)
    · refine lv_aload_n hx hb dX7_firstFault_99 rfl (lv_at hl 1 rfl) ?_
      refine gf_v (k := 3) (v := .int (m0 0 3)) cx' hP 0 i_X7 rfl rfl (by decide) kw_33 rfl rfl dX7_firstFault_100 ?_
      exact K _ (Or.inl ⟨c_1, rfl⟩)
    · refine lv_iconst (v := (-1)) hx hb dX7_firstFault_95 (by decide) ?_
      refine lv_goto (tgt := 103) hx hb dX7_firstFault_96 (by decide) ?_
      exact K _ (Or.inr ⟨c_1, rfl⟩)
  have h := h v_2 ev_2
  exact rt_i (v := v_2) (u := ()) cx hP hD hS h dX7_firstFault_103
set_option maxHeartbeats 4000000 in
set_option maxRecDepth 100000 in
theorem w_X7_firstFault_85 {p : Program} {l : Launch} {e : Env} {s : State} {m : MethodId} {args : Array Value} {below : List Frame} {meth : Method} {c : Code} {dC : Nat → ClassId} {dI : Nat → Nat → Nat} {cI cJ : ClassId} {A : Nat → Prop} (cx : CX RX7 cX7_firstFault (some .int) 4 p s m args meth c (dC, dI) (TY cI cJ)) (hA : ∀ q, s.heap.size ≤ q → A q) {q0 : Nat → Nat} {n0 : Nat} {m0 : Mem} {post : Int32 → Prop} : ∀  (H : Heap) (locs : List Loc) (ls : Array Slot), va_P (dC, dI) vwCl (ww_X7 cI cJ n0 q0 m0) H → va_D A (ww_X7 cI cJ n0 q0 m0) → va_S A s.heap H locs → lv_has ls 4 [(0, .ref (q0 0))] → b_X7_firstFault_85 n0 m0 post  → W p l e ({ frames := 2, cells := 0, slots := 0, locals := 41 }) s m args below meth c H locs 0 0 (MQ below (va_Qi (S := Unit) (fun (r : Int32) (_u : Unit) => post r) (fun _u t => AT (dC, dI) (TY cI cJ) A (ww_X7 cI cJ n0 q0 m0) t) A) args s 0 0 A) (F0 m 85 ls []) := by
  obtain ⟨hx, hb, hr, hml, hown, hts, hlocks, hK⟩ := id cx
  have cx' : CX RX7 cX7_firstFault (meth.sig.returnType) 4 p s m args meth c (dC, dI) (TY cI cJ) := ⟨hx, hb, rfl, hml, hown, hts, hlocks, hK⟩
  intro H locs ls hP hD hS hl h
  unfold b_X7_firstFault_85 at h
  refine lv_iconst (v := 1) hx hb dX7_firstFault_85 (by decide) ?_
  refine lv_goto (tgt := 90) hx hb dX7_firstFault_86 (by decide) ?_
  exact w_X7_firstFault_90 cx hA 1 H locs ls hP hD hS (lv_sub hl [0] rfl) h
set_option maxHeartbeats 4000000 in
set_option maxRecDepth 100000 in
theorem w_X7_firstFault_47 {p : Program} {l : Launch} {e : Env} {s : State} {m : MethodId} {args : Array Value} {below : List Frame} {meth : Method} {c : Code} {dC : Nat → ClassId} {dI : Nat → Nat → Nat} {cI cJ : ClassId} {A : Nat → Prop} (cx : CX RX7 cX7_firstFault (some .int) 4 p s m args meth c (dC, dI) (TY cI cJ)) (hA : ∀ q, s.heap.size ≤ q → A q) {q0 : Nat → Nat} {n0 : Nat} {m0 : Mem} {post : Int32 → Prop} {k2 : Int32 → Prop} (hk2 : ∀ (x1 : Int32) (H : Heap) (locs : List Loc) (ls : Array Slot), va_P (dC, dI) vwCl (ww_X7 cI cJ n0 q0 m0) H → va_D A (ww_X7 cI cJ n0 q0 m0) → va_S A s.heap H locs → lv_has ls 4 [(0, .ref (q0 0)), (1, .int x1)] → k2 x1 → W p l e ({ frames := 2, cells := 0, slots := 0, locals := 41 }) s m args below meth c H locs 0 0 (MQ below (va_Qi (S := Unit) (fun (r : Int32) (_u : Unit) => post r) (fun _u t => AT (dC, dI) (TY cI cJ) A (ww_X7 cI cJ n0 q0 m0) t) A) args s 0 0 A) (F0 m 2 ls [])) : ∀ (x1 : Int32) (z0 : Int32) (H : Heap) (locs : List Loc) (ls : Array Slot), va_P (dC, dI) vwCl (ww_X7 cI cJ n0 q0 m0) H → va_D A (ww_X7 cI cJ n0 q0 m0) → va_S A s.heap H locs → lv_has ls 4 [(0, .ref (q0 0)), (1, .int x1)] → b_X7_firstFault_47 n0 m0 post k2 x1 z0 → W p l e ({ frames := 2, cells := 0, slots := 0, locals := 41 }) s m args below meth c H locs 0 0 (MQ below (va_Qi (S := Unit) (fun (r : Int32) (_u : Unit) => post r) (fun _u t => AT (dC, dI) (TY cI cJ) A (ww_X7 cI cJ n0 q0 m0) t) A) args s 0 0 A) (F0 m 47 ls [.int z0]) := by
  obtain ⟨hx, hb, hr, hml, hown, hts, hlocks, hK⟩ := id cx
  have cx' : CX RX7 cX7_firstFault (meth.sig.returnType) 4 p s m args meth c (dC, dI) (TY cI cJ) := ⟨hx, hb, rfl, hml, hown, hts, hlocks, hK⟩
  intro x1 z0 H locs ls hP hD hS hl h
  unfold b_X7_firstFault_47 at h
  refine lv_istore_n (lv' := [(3, .int z0), (0, .ref (q0 0)), (1, .int x1)]) hx hb dX7_firstFault_47 rfl hl (by decide) rfl (fun ls hl => ?_)
  refine lv_iload_n hx hb dX7_firstFault_48 rfl (lv_at hl 0 rfl) ?_
  refine lv_if_ne (tgt := 54) hx hb dX7_firstFault_49 (by decide) (fun c_1 => ?_) (fun c_1 => ?_)
  · have h := h.1 c_1
    obtain ⟨x1_2, ex1_2⟩ : ∃ z : Int32, z = x1 + 1 := ⟨_, rfl⟩
    have h := h x1_2 ex1_2
    refine lv_iinc (v := x1_2) (lv' := [(1, .int x1_2), (3, .int z0), (0, .ref (q0 0))]) hx hb dX7_firstFault_54 hl (k := 2) rfl (by rw [ex1_2]; rfl) (by decide) rfl (fun ls hl => ?_)
    refine lv_goto (tgt := 2) hx hb dX7_firstFault_57 (by decide) ?_
    exact hk2 x1_2 H locs ls hP hD hS (lv_sub hl [2, 0] rfl) h
  have h := h.2 c_1
  refine lv_iload_n hx hb dX7_firstFault_52 rfl (lv_at hl 2 rfl) ?_
  exact rt_i (v := x1) (u := ()) cx hP hD hS h dX7_firstFault_53
set_option maxHeartbeats 4000000 in
set_option maxRecDepth 100000 in
theorem w_X7_firstFault_2 {p : Program} {l : Launch} {e : Env} {s : State} {m : MethodId} {args : Array Value} {below : List Frame} {meth : Method} {c : Code} {dC : Nat → ClassId} {dI : Nat → Nat → Nat} {cI cJ : ClassId} {A : Nat → Prop} (cx : CX RX7 cX7_firstFault (some .int) 4 p s m args meth c (dC, dI) (TY cI cJ)) (hA : ∀ q, s.heap.size ≤ q → A q) {q0 : Nat → Nat} {n0 : Nat} {m0 : Mem} {post : Int32 → Prop} : ∀ (n : Nat) (x1 : Int32) (H : Heap) (locs : List Loc) (ls : Array Slot), va_P (dC, dI) vwCl (ww_X7 cI cJ n0 q0 m0) H → va_D A (ww_X7 cI cJ n0 q0 m0) → va_S A s.heap H locs → lv_has ls 4 [(0, .ref (q0 0)), (1, .int x1)] → b_X7_firstFault_2 n0 m0 post n x1 → W p l e ({ frames := 2, cells := 0, slots := 0, locals := 41 }) s m args below meth c H locs 0 0 (MQ below (va_Qi (S := Unit) (fun (r : Int32) (_u : Unit) => post r) (fun _u t => AT (dC, dI) (TY cI cJ) A (ww_X7 cI cJ n0 q0 m0) t) A) args s 0 0 A) (F0 m 2 ls []) := by
  obtain ⟨hx, hb, hr, hml, hown, hts, hlocks, hK⟩ := id cx
  have cx' : CX RX7 cX7_firstFault (meth.sig.returnType) 4 p s m args meth c (dC, dI) (TY cI cJ) := ⟨hx, hb, rfl, hml, hown, hts, hlocks, hK⟩
  intro n
  induction n with
  | zero =>
    intro x1 H locs ls hP hD hS hl h
    exact False.elim h
  | succ n ih =>
    intro x1 H locs ls hP hD hS hl h
    unfold b_X7_firstFault_2 at h
    refine lv_iload_n hx hb dX7_firstFault_2 rfl (lv_at hl 1 rfl) ?_
    refine lv_aload_n hx hb dX7_firstFault_3 rfl (lv_at hl 0 rfl) ?_
    refine gf_v (k := 3) (v := .int (m0 0 3)) cx' hP 0 i_X7 rfl rfl (by decide) kw_33 rfl rfl dX7_firstFault_4 ?_
    refine lv_icmp_ge (tgt := 60) hx hb dX7_firstFault_7 (by decide) (fun c_1 => ?_) (fun c_1 => ?_)
    · have h := h.1 c_1
      refine lv_aload_n hx hb dX7_firstFault_60 rfl (lv_at hl 0 rfl) ?_
      refine gf_v (k := 3) (v := .int (m0 0 3)) cx' hP 0 i_X7 rfl rfl (by decide) kw_33 rfl rfl dX7_firstFault_61 ?_
      refine lv_if_eq (tgt := 85) hx hb dX7_firstFault_64 (by decide) (fun c_2 => ?_) (fun c_2 => ?_)
      · have h := h.1 c_2
        exact w_X7_firstFault_85 cx hA  H locs ls hP hD hS (lv_sub hl [0] rfl) h
      have h := h.2 c_2
      refine lv_aload_n hx hb dX7_firstFault_67 rfl (lv_at hl 0 rfl) ?_
      refine gf_v (k := 3) (v := .int (m0 0 3)) cx' hP 0 i_X7 rfl rfl (by decide) kw_33 rfl rfl dX7_firstFault_68 ?_
      refine lv_aload_n hx hb dX7_firstFault_71 rfl (lv_at hl 0 rfl) ?_
      refine gf_v (k := 1) (v := .int (m0 0 1)) cx' hP 0 i_X7 rfl rfl (by decide) kw_30 rfl rfl dX7_firstFault_72 ?_
      refine lv_irem hx hb dX7_firstFault_75 h.1 ?_
      have h := h.2
      refine lv_aload_n hx hb dX7_firstFault_76 rfl (lv_at hl 0 rfl) ?_
      refine gf_v (k := 1) (v := .int (m0 0 1)) cx' hP 0 i_X7 rfl rfl (by decide) kw_30 rfl rfl dX7_firstFault_77 ?_
      refine lv_iconst (v := 1) hx hb dX7_firstFault_80 (by decide) ?_
      refine lv_isub hx hb dX7_firstFault_81 ?_
      refine lv_icmp_ne (tgt := 89) hx hb dX7_firstFault_82 (by decide) (fun c_3 => ?_) (fun c_3 => ?_)
      · have h := h.1 c_3
        refine lv_iconst (v := 0) hx hb dX7_firstFault_89 (by decide) ?_
        exact w_X7_firstFault_90 cx hA 0 H locs ls hP hD hS (lv_sub hl [0] rfl) h
      have h := h.2 c_3
      exact w_X7_firstFault_85 cx hA  H locs ls hP hD hS (lv_sub hl [0] rfl) h
    have h := h.2 c_1
    refine lv_iload_n hx hb dX7_firstFault_10 rfl (lv_at hl 1 rfl) ?_
    refine lv_aload_n hx hb dX7_firstFault_11 rfl (lv_at hl 0 rfl) ?_
    refine gf_v (k := 1) (v := .int (m0 0 1)) cx' hP 0 i_X7 rfl rfl (by decide) kw_30 rfl rfl dX7_firstFault_12 ?_
    refine lv_irem hx hb dX7_firstFault_15 h.1 ?_
    have h := h.2
    refine lv_topi (fun x2_4 ex2_4 => ?_)
    have h := h x2_4 ex2_4
    refine lv_istore_n (lv' := [(2, .int x2_4), (0, .ref (q0 0)), (1, .int x1)]) hx hb dX7_firstFault_16 rfl hl (by decide) rfl (fun ls hl => ?_)
    refine lv_aload_n hx hb dX7_firstFault_17 rfl (lv_at hl 1 rfl) ?_
    refine gf_v (k := 0) (v := .int (m0 0 0)) cx' hP 0 i_X7 rfl rfl (by decide) kw_29 rfl rfl dX7_firstFault_18 ?_
    refine lv_if_eq (tgt := 37) hx hb dX7_firstFault_21 (by decide) (fun c_5 => ?_) (fun c_5 => ?_)
    · have h := h.1 c_5
      refine lv_iload_n hx hb dX7_firstFault_37 rfl (lv_at hl 0 rfl) ?_
      refine lv_aload_n hx hb dX7_firstFault_38 rfl (lv_at hl 1 rfl) ?_
      refine gf_v (k := 2) (v := .ref (q0 1)) cx' hP 0 i_X7 rfl rfl (by decide) kw_31 rfl rfl dX7_firstFault_39 ?_
      refine lv_iload_n hx hb dX7_firstFault_42 rfl (lv_at hl 2 rfl) ?_
      refine va_iald hx hb hK hP 1 0 rfl rfl h.1 dX7_firstFault_43 ?_
      have h := h.2
      refine callN_i (run_S (As := [.int x2_4, .int (m0 1 (Int32.toNatClampNeg x1))]) (rest := []) (wc := []) cx' (c_X7_fitsGuest l H.size x2_4 (m0 1 (Int32.toNatClampNeg x1)) _ h) ms_X7_fitsGuest kw_334 rfl rfl ⟨Nat.le_of_ble_eq_true rfl, Nat.le_of_ble_eq_true rfl⟩ nilP nilD (A := A) rfl hl.1 rfl (Nat.le_of_ble_eq_true rfl) dX7_firstFault_44 ⟨Nat.zero_le _, Nat.zero_le _⟩) hP hS hA (fun r_6 H locs hP hS h => ?_)
      exact w_X7_firstFault_47 cx hA ih x1 r_6 H locs ls hP hD hS (lv_sub hl [1, 2] rfl) h
    have h := h.2 c_5
    refine lv_iload_n hx hb dX7_firstFault_24 rfl (lv_at hl 0 rfl) ?_
    refine lv_aload_n hx hb dX7_firstFault_25 rfl (lv_at hl 1 rfl) ?_
    refine gf_v (k := 2) (v := .ref (q0 1)) cx' hP 0 i_X7 rfl rfl (by decide) kw_31 rfl rfl dX7_firstFault_26 ?_
    refine lv_iload_n hx hb dX7_firstFault_29 rfl (lv_at hl 2 rfl) ?_
    refine va_iald hx hb hK hP 1 0 rfl rfl h.1 dX7_firstFault_30 ?_
    have h := h.2
    refine callN_i (run_S (As := [.int x2_4, .int (m0 1 (Int32.toNatClampNeg x1))]) (rest := []) (wc := []) cx' (c_X7_fitsHouse l H.size x2_4 (m0 1 (Int32.toNatClampNeg x1)) _ h) ms_X7_fitsHouse kw_328 rfl rfl ⟨Nat.le_of_ble_eq_true rfl, Nat.le_of_ble_eq_true rfl⟩ nilP nilD (A := A) rfl hl.1 rfl (Nat.le_of_ble_eq_true rfl) dX7_firstFault_31 ⟨Nat.zero_le _, Nat.zero_le _⟩) hP hS hA (fun r_7 H locs hP hS h => ?_)
    refine lv_goto (tgt := 47) hx hb dX7_firstFault_34 (by decide) ?_
    exact w_X7_firstFault_47 cx hA ih x1 r_7 H locs ls hP hD hS (lv_sub hl [1, 2] rfl) h
set_option maxHeartbeats 4000000 in
set_option maxRecDepth 100000 in
theorem w_X7_firstFault_0 {p : Program} {l : Launch} {e : Env} {s : State} {m : MethodId} {args : Array Value} {below : List Frame} {meth : Method} {c : Code} {dC : Nat → ClassId} {dI : Nat → Nat → Nat} {cI cJ : ClassId} {A : Nat → Prop} (cx : CX RX7 cX7_firstFault (some .int) 4 p s m args meth c (dC, dI) (TY cI cJ)) (hA : ∀ q, s.heap.size ≤ q → A q) {q0 : Nat → Nat} {n0 : Nat} {m0 : Mem} {post : Int32 → Prop} : ∀  (H : Heap) (locs : List Loc) (ls : Array Slot), va_P (dC, dI) vwCl (ww_X7 cI cJ n0 q0 m0) H → va_D A (ww_X7 cI cJ n0 q0 m0) → va_S A s.heap H locs → lv_has ls 4 [(0, .ref (q0 0))] → b_X7_firstFault_0 n0 m0 post  → W p l e ({ frames := 2, cells := 0, slots := 0, locals := 41 }) s m args below meth c H locs 0 0 (MQ below (va_Qi (S := Unit) (fun (r : Int32) (_u : Unit) => post r) (fun _u t => AT (dC, dI) (TY cI cJ) A (ww_X7 cI cJ n0 q0 m0) t) A) args s 0 0 A) (F0 m 0 ls []) := by
  obtain ⟨hx, hb, hr, hml, hown, hts, hlocks, hK⟩ := id cx
  have cx' : CX RX7 cX7_firstFault (meth.sig.returnType) 4 p s m args meth c (dC, dI) (TY cI cJ) := ⟨hx, hb, rfl, hml, hown, hts, hlocks, hK⟩
  intro H locs ls hP hD hS hl h
  unfold b_X7_firstFault_0 at h
  refine lv_iconst (v := 0) hx hb dX7_firstFault_0 (by decide) ?_
  refine lv_istore_n (lv' := [(1, .int 0), (0, .ref (q0 0))]) hx hb dX7_firstFault_1 rfl hl (by decide) rfl (fun ls hl => ?_)
  obtain ⟨n_1, h⟩ := h
  exact w_X7_firstFault_2 cx hA n_1 0 H locs ls hP hD hS (lv_sub hl [1, 0] rfl) h
set_option maxRecDepth 100000 in
theorem c_X7_firstFault (l : Launch) {dC : Nat → ClassId} {dI : Nat → Nat → Nat} {cI cJ : ClassId} (sz : Nat) (n0 : Nat) (q0 : Nat → Nat) (m0 : Mem) (post : Int32 → Prop) (h : wp_X7_firstFault n0 m0 post) : Met l yX7_firstFault (Cond.code yX7_firstFault cX7_firstFault 4 (some .int) :: gt) ({ frames := 2, cells := 0, slots := 0, locals := 41 }) (va_Pc [.ref (q0 0)] (PRE (dC, dI) (TY cI cJ) (ww_X7 cI cJ n0 q0 m0) sz)) (va_Qi (S := Unit) (fun (r : Int32) (_u : Unit) => post r) (fun _u t => AT (dC, dI) (TY cI cJ) (va_A (ww_X7 cI cJ n0 q0 m0) sz) (ww_X7 cI cJ n0 q0 m0) t) (va_A (ww_X7 cI cJ n0 q0 m0) sz)) 0 0 (va_A (ww_X7 cI cJ n0 q0 m0) sz) :=
  met_of (own := RX7) (Qf := fun A => va_Qi (S := Unit) (fun (r : Int32) (_u : Unit) => post r) (fun _u t => AT (dC, dI) (TY cI cJ) A (ww_X7 cI cJ n0 q0 m0) t) A) (by decide) rfl (Nat.le_of_ble_eq_true rfl) rfl (fun p e s m below meth c A cx hA ls hP hD hS hl => w_X7_firstFault_0 cx hA  _ _ ls hP hD hS hl h)
theorem mv_X7_firstFault : MV yX7_firstFault cX7_firstFault 4 (some .int) 0 := ⟨⟨kw_327, kw_2, by decide +kernel⟩, kw_325, kw_326⟩
set_option maxHeartbeats 4000000 in
set_option maxRecDepth 100000 in
theorem w_X7_things_0 {p : Program} {l : Launch} {e : Env} {s : State} {m : MethodId} {args : Array Value} {below : List Frame} {meth : Method} {c : Code} {dC : Nat → ClassId} {dI : Nat → Nat → Nat} {cI cJ : ClassId} {A : Nat → Prop} (cx : CX RX7 cX7_things (some .int) 1 p s m args meth c (dC, dI) (TY cI cJ)) (hA : ∀ q, s.heap.size ≤ q → A q) {q0 : Nat → Nat} {n0 : Nat} {m0 : Mem} {post : Int32 → Prop} : ∀  (H : Heap) (locs : List Loc) (ls : Array Slot), va_P (dC, dI) vwCl (ww_X7 cI cJ n0 q0 m0) H → va_D A (ww_X7 cI cJ n0 q0 m0) → va_S A s.heap H locs → lv_has ls 1 [(0, .ref (q0 0))] → b_X7_things_0 n0 m0 post  → W p l e ({ frames := 3, cells := 0, slots := 0, locals := 64 }) s m args below meth c H locs 0 0 (MQ below (va_Qi (S := Unit) (fun (r : Int32) (_u : Unit) => post r) (fun _u t => AT (dC, dI) (TY cI cJ) A (ww_X7 cI cJ n0 q0 m0) t) A) args s 0 0 A) (F0 m 0 ls []) := by
  obtain ⟨hx, hb, hr, hml, hown, hts, hlocks, hK⟩ := id cx
  have cx' : CX RX7 cX7_things (meth.sig.returnType) 1 p s m args meth c (dC, dI) (TY cI cJ) := ⟨hx, hb, rfl, hml, hown, hts, hlocks, hK⟩
  intro H locs ls hP hD hS hl h
  unfold b_X7_things_0 at h
  refine lv_aload_n hx hb dX7_things_0 rfl (lv_at hl 0 rfl) ?_
  refine call_i (run_V (As := []) (rest := []) cx' (c_X7_firstFault l H.size n0 q0 m0 _ h) mv_X7_firstFault kw_324 rfl rfl ⟨Nat.le_of_ble_eq_true rfl, Nat.le_of_ble_eq_true rfl⟩ hP hD rfl rfl rfl hl.1 rfl (Nat.le_of_ble_eq_true rfl) dX7_things_1 ⟨Nat.zero_le _, Nat.zero_le _⟩) hD hS hA (fun r_1 u9 H locs hP hD hS h => ?_)
  have hP : va_P (dC, dI) vwCl (ww_X7 cI cJ n0 q0 m0) H := hP
  have hD : va_D A (ww_X7 cI cJ n0 q0 m0) := hD
  refine lv_iconst (v := (-1)) hx hb dX7_things_4 (by decide) ?_
  refine lv_icmp_ne (tgt := 22) hx hb dX7_things_5 (by decide) (fun c_2 => ?_) (fun c_2 => ?_)
  · have h := h.1 c_2
    refine lv_iconst (v := 0) hx hb dX7_things_22 (by decide) ?_
    exact rt_i (v := 0) (u := ()) cx hP hD hS h dX7_things_23
  have h := h.2 c_2
  refine lv_aload_n hx hb dX7_things_8 rfl (lv_at hl 0 rfl) ?_
  refine gf_v (k := 3) (v := .int (m0 0 3)) cx' hP 0 i_X7 rfl rfl (by decide) kw_33 rfl rfl dX7_things_9 ?_
  refine lv_iconst (v := 1) hx hb dX7_things_12 (by decide) ?_
  refine lv_iadd hx hb dX7_things_13 ?_
  refine lv_aload_n hx hb dX7_things_14 rfl (lv_at hl 0 rfl) ?_
  refine gf_v (k := 1) (v := .int (m0 0 1)) cx' hP 0 i_X7 rfl rfl (by decide) kw_30 rfl rfl dX7_things_15 ?_
  refine lv_idiv hx hb dX7_things_18 h.1 ?_
  have h := h.2
  refine lv_goto (tgt := 23) hx hb dX7_things_19 (by decide) ?_
  exact rt_i (v := ((m0 0 3) + 1) / (m0 0 1)) (u := ()) cx hP hD hS h dX7_things_23
set_option maxRecDepth 100000 in
theorem c_X7_things (l : Launch) {dC : Nat → ClassId} {dI : Nat → Nat → Nat} {cI cJ : ClassId} (sz : Nat) (n0 : Nat) (q0 : Nat → Nat) (m0 : Mem) (post : Int32 → Prop) (h : wp_X7_things n0 m0 post) : Met l yX7_things (Cond.code yX7_things cX7_things 1 (some .int) :: gt) ({ frames := 3, cells := 0, slots := 0, locals := 64 }) (va_Pc [.ref (q0 0)] (PRE (dC, dI) (TY cI cJ) (ww_X7 cI cJ n0 q0 m0) sz)) (va_Qi (S := Unit) (fun (r : Int32) (_u : Unit) => post r) (fun _u t => AT (dC, dI) (TY cI cJ) (va_A (ww_X7 cI cJ n0 q0 m0) sz) (ww_X7 cI cJ n0 q0 m0) t) (va_A (ww_X7 cI cJ n0 q0 m0) sz)) 0 0 (va_A (ww_X7 cI cJ n0 q0 m0) sz) :=
  met_of (own := RX7) (Qf := fun A => va_Qi (S := Unit) (fun (r : Int32) (_u : Unit) => post r) (fun _u t => AT (dC, dI) (TY cI cJ) A (ww_X7 cI cJ n0 q0 m0) t) A) (by decide) rfl (Nat.le_of_ble_eq_true rfl) rfl (fun p e s m below meth c A cx hA ls hP hD hS hl => w_X7_things_0 cx hA  _ _ ls hP hD hS hl h)
theorem mv_X7_things : MV yX7_things cX7_things 1 (some .int) 0 := ⟨⟨kw_323, kw_2, by decide +kernel⟩, kw_321, kw_322⟩
set_option maxHeartbeats 4000000 in
set_option maxRecDepth 100000 in
theorem w_X2_parse_15 {p : Program} {l : Launch} {e : Env} {s : State} {m : MethodId} {args : Array Value} {below : List Frame} {meth : Method} {c : Code} {dC : Nat → ClassId} {dI : Nat → Nat → Nat} {cI cJ : ClassId} {A : Nat → Prop} (cx : CX RX2 cX2_parse none 3 p s m args meth c (dC, dI) (TY cI cJ)) (hA : ∀ q, s.heap.size ≤ q → A q) {q0 : Nat → Nat} {q1 : Nat → Nat} {n1 : Nat} {m1 : Mem} {post : Mem → Prop} : ∀ (n : Nat) (x2 : Int32) (m0 : Mem) (H : Heap) (locs : List Loc) (ls : Array Slot), va_P (dC, dI) vwCl (ww_X2_X7 cI cJ q0 m0 n1 q1 m1) H → va_D A (ww_X2_X7 cI cJ q0 m0 n1 q1 m1) → va_S A s.heap H locs → lv_has ls 3 [(0, .ref (q0 0)), (1, .ref (q1 0)), (2, .int x2)] → b_X2_parse_15 n1 m1 post n x2 m0 → W p l e ({ frames := 4, cells := 0, slots := 0, locals := 84 }) s m args below meth c H locs 0 0 (MQ below (va_Qv (S := Mem) (fun (u : Mem) => post u) (fun u t => AT (dC, dI) (TY cI cJ) A (ww_X2_X7 cI cJ q0 u n1 q1 m1) t) A) args s 0 0 A) (F0 m 15 ls []) := by
  obtain ⟨hx, hb, hr, hml, hown, hts, hlocks, hK⟩ := id cx
  have cx' : CX RX2 cX2_parse (meth.sig.returnType) 3 p s m args meth c (dC, dI) (TY cI cJ) := ⟨hx, hb, rfl, hml, hown, hts, hlocks, hK⟩
  intro n
  induction n with
  | zero =>
    intro x2 m0 H locs ls hP hD hS hl h
    exact False.elim h
  | succ n ih =>
    intro x2 m0 H locs ls hP hD hS hl h
    unfold b_X2_parse_15 at h
    refine lv_iload_n hx hb dX2_parse_15 rfl (lv_at hl 2 rfl) ?_
    refine lv_aload_n hx hb dX2_parse_16 rfl (lv_at hl 0 rfl) ?_
    refine gf_v (k := 4) (v := .int (m0 0 4)) cx' hP 0 i_X2 rfl rfl (by decide) kw_102 rfl rfl dX2_parse_17 ?_
    refine lv_icmp_ge (tgt := 97) hx hb dX2_parse_20 (by decide) (fun c_1 => ?_) (fun c_1 => ?_)
    · have h := h.1 c_1
      exact rt_v (u := m0) cx hP hD hS h dX2_parse_97
    have h := h.2 c_1
    refine lv_aload_n hx hb dX2_parse_23 rfl (lv_at hl 0 rfl) ?_
    refine gf_v (k := 0) (v := .ref (q0 1)) cx' hP 0 i_X2 rfl rfl (by decide) kw_90 rfl rfl dX2_parse_24 ?_
    refine lv_iload_n hx hb dX2_parse_27 rfl (lv_at hl 2 rfl) ?_
    refine lv_bipush (v := 10) hx hb dX2_parse_28 (by decide) ?_
    refine lv_aload_n hx hb dX2_parse_30 rfl (lv_at hl 1 rfl) ?_
    refine lv_iload_n hx hb dX2_parse_31 rfl (lv_at hl 2 rfl) ?_
    refine lv_iconst (v := 0) hx hb dX2_parse_32 (by decide) ?_
    refine callP_i (wc := ww_X7 cI cJ n1 q1 m1) (wr_X2_X7_0_1_2_3_4 cI cJ q0 m0 n1 q1 m1) (fun (_u : Unit) => ww_X2_X7 cI cJ q0 m0 n1 q1 m1) [5, 6] [0, 1, 2, 3, 4] [0, 1, 2, 3, 4, 5, 6] rfl rfl rfl (by decide) (fun _ => rfl) rfl hP hD hS hA (fun hPc hDc => run_V (As := [.int x2, .int 0]) (rest := [.int 10, .int x2, .ref (q0 1)]) cx' (c_X7_figureOf l H.size n1 q1 m1 x2 0 _ h) mv_X7_figureOf kw_356 rfl rfl ⟨Nat.le_of_ble_eq_true rfl, Nat.le_of_ble_eq_true rfl⟩ hPc hDc rfl rfl rfl hl.1 rfl (Nat.le_of_ble_eq_true rfl) dX2_parse_33 ⟨Nat.zero_le _, Nat.zero_le _⟩) rfl (fun r_2 u9 H locs hP hD hS h => ?_)
    have hP : va_P (dC, dI) vwCl (ww_X2_X7 cI cJ q0 m0 n1 q1 m1) H := hP
    have hD : va_D A (ww_X2_X7 cI cJ q0 m0 n1 q1 m1) := hD
    refine lv_imul hx hb dX2_parse_36 ?_
    refine lv_aload_n hx hb dX2_parse_37 rfl (lv_at hl 1 rfl) ?_
    refine lv_iload_n hx hb dX2_parse_38 rfl (lv_at hl 2 rfl) ?_
    refine lv_iconst (v := 1) hx hb dX2_parse_39 (by decide) ?_
    refine callP_i (wc := ww_X7 cI cJ n1 q1 m1) (wr_X2_X7_0_1_2_3_4 cI cJ q0 m0 n1 q1 m1) (fun (_u : Unit) => ww_X2_X7 cI cJ q0 m0 n1 q1 m1) [5, 6] [0, 1, 2, 3, 4] [0, 1, 2, 3, 4, 5, 6] rfl rfl rfl (by decide) (fun _ => rfl) rfl hP hD hS hA (fun hPc hDc => run_V (As := [.int x2, .int 1]) (rest := [.int (10 * r_2), .int x2, .ref (q0 1)]) cx' (c_X7_figureOf l H.size n1 q1 m1 x2 1 _ h) mv_X7_figureOf kw_356 rfl rfl ⟨Nat.le_of_ble_eq_true rfl, Nat.le_of_ble_eq_true rfl⟩ hPc hDc rfl rfl rfl hl.1 rfl (Nat.le_of_ble_eq_true rfl) dX2_parse_40 ⟨Nat.zero_le _, Nat.zero_le _⟩) rfl (fun r_3 u9 H locs hP hD hS h => ?_)
    have hP : va_P (dC, dI) vwCl (ww_X2_X7 cI cJ q0 m0 n1 q1 m1) H := hP
    have hD : va_D A (ww_X2_X7 cI cJ q0 m0 n1 q1 m1) := hD
    refine lv_iadd hx hb dX2_parse_43 ?_
    obtain ⟨m0_4, em0_4⟩ : ∃ z : Mem, z = up2 m0 1 (Int32.toNatClampNeg x2) ((10 * r_2) + r_3) := ⟨_, rfl⟩
    have h1 := h.1
    have h := h.2 m0_4 em0_4
    refine st_i hx hb hK hP hD hS 1 0 (ww_X2_X7 cI cJ q0 m0_4 n1 q1 m1) rfl rfl h1 dX2_parse_44 (by subst em0_4; rfl) (fun H locs hP hD hS => ?_)
    refine lv_aload_n hx hb dX2_parse_45 rfl (lv_at hl 0 rfl) ?_
    refine gf_v (k := 1) (v := .ref (q0 2)) cx' hP 0 i_X2 rfl rfl (by decide) kw_93 rfl rfl dX2_parse_46 ?_
    refine lv_iload_n hx hb dX2_parse_49 rfl (lv_at hl 2 rfl) ?_
    refine lv_aload_n hx hb dX2_parse_50 rfl (lv_at hl 1 rfl) ?_
    refine lv_iload_n hx hb dX2_parse_51 rfl (lv_at hl 2 rfl) ?_
    refine lv_iconst (v := 2) hx hb dX2_parse_52 (by decide) ?_
    refine callP_i (wc := ww_X7 cI cJ n1 q1 m1) (wr_X2_X7_0_1_2_3_4 cI cJ q0 m0_4 n1 q1 m1) (fun (_u : Unit) => ww_X2_X7 cI cJ q0 m0_4 n1 q1 m1) [5, 6] [0, 1, 2, 3, 4] [0, 1, 2, 3, 4, 5, 6] rfl rfl rfl (by decide) (fun _ => rfl) rfl hP hD hS hA (fun hPc hDc => run_V (As := [.int x2, .int 2]) (rest := [.int x2, .ref (q0 2)]) cx' (c_X7_figureOf l H.size n1 q1 m1 x2 2 _ h) mv_X7_figureOf kw_356 rfl rfl ⟨Nat.le_of_ble_eq_true rfl, Nat.le_of_ble_eq_true rfl⟩ hPc hDc rfl rfl rfl hl.1 rfl (Nat.le_of_ble_eq_true rfl) dX2_parse_53 ⟨Nat.zero_le _, Nat.zero_le _⟩) rfl (fun r_5 u9 H locs hP hD hS h => ?_)
    have hP : va_P (dC, dI) vwCl (ww_X2_X7 cI cJ q0 m0_4 n1 q1 m1) H := hP
    have hD : va_D A (ww_X2_X7 cI cJ q0 m0_4 n1 q1 m1) := hD
    obtain ⟨m0_6, em0_6⟩ : ∃ z : Mem, z = up2 m0_4 2 (Int32.toNatClampNeg x2) r_5 := ⟨_, rfl⟩
    have h1 := h.1
    have h := h.2 m0_6 em0_6
    refine st_i hx hb hK hP hD hS 2 0 (ww_X2_X7 cI cJ q0 m0_6 n1 q1 m1) rfl rfl h1 dX2_parse_56 (by subst em0_6; rfl) (fun H locs hP hD hS => ?_)
    refine lv_aload_n hx hb dX2_parse_57 rfl (lv_at hl 0 rfl) ?_
    refine gf_v (k := 2) (v := .ref (q0 3)) cx' hP 0 i_X2 rfl rfl (by decide) kw_96 rfl rfl dX2_parse_58 ?_
    refine lv_iload_n hx hb dX2_parse_61 rfl (lv_at hl 2 rfl) ?_
    refine lv_aload_n hx hb dX2_parse_62 rfl (lv_at hl 1 rfl) ?_
    refine lv_iload_n hx hb dX2_parse_63 rfl (lv_at hl 2 rfl) ?_
    refine lv_iconst (v := 3) hx hb dX2_parse_64 (by decide) ?_
    refine callP_i (wc := ww_X7 cI cJ n1 q1 m1) (wr_X2_X7_0_1_2_3_4 cI cJ q0 m0_6 n1 q1 m1) (fun (_u : Unit) => ww_X2_X7 cI cJ q0 m0_6 n1 q1 m1) [5, 6] [0, 1, 2, 3, 4] [0, 1, 2, 3, 4, 5, 6] rfl rfl rfl (by decide) (fun _ => rfl) rfl hP hD hS hA (fun hPc hDc => run_V (As := [.int x2, .int 3]) (rest := [.int x2, .ref (q0 3)]) cx' (c_X7_byteOf l H.size n1 q1 m1 x2 3 _ h) mv_X7_byteOf kw_357 rfl rfl ⟨Nat.le_of_ble_eq_true rfl, Nat.le_of_ble_eq_true rfl⟩ hPc hDc rfl rfl rfl hl.1 rfl (Nat.le_of_ble_eq_true rfl) dX2_parse_65 ⟨Nat.zero_le _, Nat.zero_le _⟩) rfl (fun r_7 u9 H locs hP hD hS h => ?_)
    have hP : va_P (dC, dI) vwCl (ww_X2_X7 cI cJ q0 m0_6 n1 q1 m1) H := hP
    have hD : va_D A (ww_X2_X7 cI cJ q0 m0_6 n1 q1 m1) := hD
    refine lv_bipush (v := 100) hx hb dX2_parse_68 (by decide) ?_
    refine dia_i (ls := ls) (c0 := r_7 = 100) (a := 1) (b := 0) (J := 78) (rest := [.int x2, .ref (q0 3)]) (fun K => ?_) (fun v_9 ev_9 => ?_)
    · refine lv_icmp_ne (tgt := 77) hx hb dX2_parse_70 (by decide) (fun c_8 => ?_) (fun c_8 => ?_)
      · refine lv_iconst (v := 0) hx hb dX2_parse_77 (by decide) ?_
        exact K _ (Or.inr ⟨c_8, rfl⟩)
      · refine lv_iconst (v := 1) hx hb dX2_parse_73 (by decide) ?_
        refine lv_goto (tgt := 78) hx hb dX2_parse_74 (by decide) ?_
        exact K _ (Or.inl ⟨c_8, rfl⟩)
    have h := h v_9 ev_9
    obtain ⟨m0_10, em0_10⟩ : ∃ z : Mem, z = up2 m0_6 3 (Int32.toNatClampNeg x2) v_9 := ⟨_, rfl⟩
    have h1 := h.1
    have h := h.2 m0_10 em0_10
    refine st_i hx hb hK hP hD hS 3 0 (ww_X2_X7 cI cJ q0 m0_10 n1 q1 m1) rfl rfl h1 dX2_parse_78 (by subst em0_10; rfl) (fun H locs hP hD hS => ?_)
    refine lv_aload_n hx hb dX2_parse_79 rfl (lv_at hl 0 rfl) ?_
    refine gf_v (k := 3) (v := .ref (q0 4)) cx' hP 0 i_X2 rfl rfl (by decide) kw_99 rfl rfl dX2_parse_80 ?_
    refine lv_iload_n hx hb dX2_parse_83 rfl (lv_at hl 2 rfl) ?_
    refine lv_aload_n hx hb dX2_parse_84 rfl (lv_at hl 1 rfl) ?_
    refine lv_iload_n hx hb dX2_parse_85 rfl (lv_at hl 2 rfl) ?_
    refine lv_iconst (v := 4) hx hb dX2_parse_86 (by decide) ?_
    refine callP_i (wc := ww_X7 cI cJ n1 q1 m1) (wr_X2_X7_0_1_2_3_4 cI cJ q0 m0_10 n1 q1 m1) (fun (_u : Unit) => ww_X2_X7 cI cJ q0 m0_10 n1 q1 m1) [5, 6] [0, 1, 2, 3, 4] [0, 1, 2, 3, 4, 5, 6] rfl rfl rfl (by decide) (fun _ => rfl) rfl hP hD hS hA (fun hPc hDc => run_V (As := [.int x2, .int 4]) (rest := [.int x2, .ref (q0 4)]) cx' (c_X7_figureOf l H.size n1 q1 m1 x2 4 _ h) mv_X7_figureOf kw_356 rfl rfl ⟨Nat.le_of_ble_eq_true rfl, Nat.le_of_ble_eq_true rfl⟩ hPc hDc rfl rfl rfl hl.1 rfl (Nat.le_of_ble_eq_true rfl) dX2_parse_87 ⟨Nat.zero_le _, Nat.zero_le _⟩) rfl (fun r_11 u9 H locs hP hD hS h => ?_)
    have hP : va_P (dC, dI) vwCl (ww_X2_X7 cI cJ q0 m0_10 n1 q1 m1) H := hP
    have hD : va_D A (ww_X2_X7 cI cJ q0 m0_10 n1 q1 m1) := hD
    obtain ⟨m0_12, em0_12⟩ : ∃ z : Mem, z = up2 m0_10 4 (Int32.toNatClampNeg x2) r_11 := ⟨_, rfl⟩
    have h1 := h.1
    have h := h.2 m0_12 em0_12
    refine st_i hx hb hK hP hD hS 4 0 (ww_X2_X7 cI cJ q0 m0_12 n1 q1 m1) rfl rfl h1 dX2_parse_90 (by subst em0_12; rfl) (fun H locs hP hD hS => ?_)
    obtain ⟨x2_13, ex2_13⟩ : ∃ z : Int32, z = x2 + 1 := ⟨_, rfl⟩
    have h := h x2_13 ex2_13
    refine lv_iinc (v := x2_13) (lv' := [(2, .int x2_13), (0, .ref (q0 0)), (1, .ref (q1 0))]) hx hb dX2_parse_91 hl (k := 2) rfl (by rw [ex2_13]; rfl) (by decide) rfl (fun ls hl => ?_)
    refine lv_goto (tgt := 15) hx hb dX2_parse_94 (by decide) ?_
    exact ih x2_13 m0_12 H locs ls hP hD hS (lv_sub hl [1, 2, 0] rfl) h
set_option maxHeartbeats 4000000 in
set_option maxRecDepth 100000 in
theorem w_X2_parse_0 {p : Program} {l : Launch} {e : Env} {s : State} {m : MethodId} {args : Array Value} {below : List Frame} {meth : Method} {c : Code} {dC : Nat → ClassId} {dI : Nat → Nat → Nat} {cI cJ : ClassId} {A : Nat → Prop} (cx : CX RX2 cX2_parse none 3 p s m args meth c (dC, dI) (TY cI cJ)) (hA : ∀ q, s.heap.size ≤ q → A q) {q0 : Nat → Nat} {q1 : Nat → Nat} {n1 : Nat} {m1 : Mem} {post : Mem → Prop} : ∀ (m0 : Mem) (H : Heap) (locs : List Loc) (ls : Array Slot), va_P (dC, dI) vwCl (ww_X2_X7 cI cJ q0 m0 n1 q1 m1) H → va_D A (ww_X2_X7 cI cJ q0 m0 n1 q1 m1) → va_S A s.heap H locs → lv_has ls 3 [(0, .ref (q0 0)), (1, .ref (q1 0))] → b_X2_parse_0 n1 m1 post m0 → W p l e ({ frames := 4, cells := 0, slots := 0, locals := 84 }) s m args below meth c H locs 0 0 (MQ below (va_Qv (S := Mem) (fun (u : Mem) => post u) (fun u t => AT (dC, dI) (TY cI cJ) A (ww_X2_X7 cI cJ q0 u n1 q1 m1) t) A) args s 0 0 A) (F0 m 0 ls []) := by
  obtain ⟨hx, hb, hr, hml, hown, hts, hlocks, hK⟩ := id cx
  have cx' : CX RX2 cX2_parse (meth.sig.returnType) 3 p s m args meth c (dC, dI) (TY cI cJ) := ⟨hx, hb, rfl, hml, hown, hts, hlocks, hK⟩
  intro m0 H locs ls hP hD hS hl h
  unfold b_X2_parse_0 at h
  refine lv_aload_n hx hb dX2_parse_0 rfl (lv_at hl 0 rfl) ?_
  refine lv_aload_n hx hb dX2_parse_1 rfl (lv_at hl 1 rfl) ?_
  refine callP_i (wc := ww_X7 cI cJ n1 q1 m1) (wr_X2_X7_0_1_2_3_4 cI cJ q0 m0 n1 q1 m1) (fun (_u : Unit) => ww_X2_X7 cI cJ q0 m0 n1 q1 m1) [5, 6] [0, 1, 2, 3, 4] [0, 1, 2, 3, 4, 5, 6] rfl rfl rfl (by decide) (fun _ => rfl) rfl hP hD hS hA (fun hPc hDc => run_V (As := []) (rest := [.ref (q0 0)]) cx' (c_X7_things l H.size n1 q1 m1 _ h) mv_X7_things kw_354 rfl rfl ⟨Nat.le_of_ble_eq_true rfl, Nat.le_of_ble_eq_true rfl⟩ hPc hDc rfl rfl rfl hl.1 rfl (Nat.le_of_ble_eq_true rfl) dX2_parse_2 ⟨Nat.zero_le _, Nat.zero_le _⟩) rfl (fun r_1 u9 H locs hP hD hS h => ?_)
  have hP : va_P (dC, dI) vwCl (ww_X2_X7 cI cJ q0 m0 n1 q1 m1) H := hP
  have hD : va_D A (ww_X2_X7 cI cJ q0 m0 n1 q1 m1) := hD
  refine lv_bipush (v := 8) hx hb dX2_parse_5 (by decide) ?_
  refine va_mmin hx hb (hml.trans hl.1.symm) hown (hts _ kw_355) (hts _ kw_338) (hts _ kw_12) (hts _ kw_339) (Nat.le_of_ble_eq_true rfl) (Nat.le_of_ble_eq_true rfl) (Nat.le_refl _) (Nat.le_refl _) dX2_parse_7 ?_
  obtain ⟨m0_2, em0_2⟩ : ∃ z : Mem, z = up2 m0 0 4 (if 8 < r_1 then 8 else r_1) := ⟨_, rfl⟩
  have h := h m0_2 em0_2
  refine pf_v (k := 4) (tf := .int) cx' hP hD hS 0 (ww_X2_X7 cI cJ q0 m0_2 n1 q1 m1) i_X2 tyX2 tyX2_ok nmX2 rfl rfl (by decide) kw_102 rfl rfl rfl rfl rfl (Nat.le_of_ble_eq_true rfl) dX2_parse_10 (by subst em0_2; rfl) (fun H locs hP hD hS => ?_)
  refine lv_iconst (v := 0) hx hb dX2_parse_13 (by decide) ?_
  refine lv_istore_n (lv' := [(2, .int 0), (0, .ref (q0 0)), (1, .ref (q1 0))]) hx hb dX2_parse_14 rfl hl (by decide) rfl (fun ls hl => ?_)
  obtain ⟨n_3, h⟩ := h
  exact w_X2_parse_15 cx hA n_3 0 m0_2 H locs ls hP hD hS (lv_sub hl [1, 2, 0] rfl) h
set_option maxRecDepth 100000 in
theorem c_X2_parse (l : Launch) {dC : Nat → ClassId} {dI : Nat → Nat → Nat} {cI cJ : ClassId} (sz : Nat) (q0 : Nat → Nat) (m0 : Mem) (n1 : Nat) (q1 : Nat → Nat) (m1 : Mem) (post : Mem → Prop) (h : wp_X2_parse m0 n1 m1 post) : Met l yX2_parse (Cond.code yX2_parse cX2_parse 3 none :: gt) ({ frames := 4, cells := 0, slots := 0, locals := 84 }) (va_Pc [.ref (q0 0), .ref (q1 0)] (PRE (dC, dI) (TY cI cJ) (ww_X2_X7 cI cJ q0 m0 n1 q1 m1) sz)) (va_Qv (S := Mem) (fun (u : Mem) => post u) (fun u t => AT (dC, dI) (TY cI cJ) (va_A (ww_X2_X7 cI cJ q0 m0 n1 q1 m1) sz) (ww_X2_X7 cI cJ q0 u n1 q1 m1) t) (va_A (ww_X2_X7 cI cJ q0 m0 n1 q1 m1) sz)) 0 0 (va_A (ww_X2_X7 cI cJ q0 m0 n1 q1 m1) sz) :=
  met_of (own := RX2) (Qf := fun A => va_Qv (S := Mem) (fun (u : Mem) => post u) (fun u t => AT (dC, dI) (TY cI cJ) A (ww_X2_X7 cI cJ q0 u n1 q1 m1) t) A) (by decide) rfl (Nat.le_of_ble_eq_true rfl) rfl (fun p e s m below meth c A cx hA ls hP hD hS hl => w_X2_parse_0 cx hA m0 _ _ ls hP hD hS hl h)
theorem mv_X2_parse : MV yX2_parse cX2_parse 3 none 1 := ⟨⟨kw_353, kw_4, by decide +kernel⟩, kw_351, kw_352⟩
set_option maxHeartbeats 4000000 in
set_option maxRecDepth 100000 in
theorem w_X3_clear_0 {p : Program} {l : Launch} {e : Env} {s : State} {m : MethodId} {args : Array Value} {below : List Frame} {meth : Method} {c : Code} {dC : Nat → ClassId} {dI : Nat → Nat → Nat} {cI cJ : ClassId} {A : Nat → Prop} (cx : CX RX3 cX3_clear none 1 p s m args meth c (dC, dI) (TY cI cJ)) (hA : ∀ q, s.heap.size ≤ q → A q) {q0 : Nat → Nat} {post : Mem → Prop} : ∀ (m0 : Mem) (H : Heap) (locs : List Loc) (ls : Array Slot), va_P (dC, dI) vwCl (ww_X3 cI cJ q0 m0) H → va_D A (ww_X3 cI cJ q0 m0) → va_S A s.heap H locs → lv_has ls 1 [(0, .ref (q0 0))] → b_X3_clear_0 post m0 → W p l e ({ frames := 0, cells := 0, slots := 0, locals := 0 }) s m args below meth c H locs 0 0 (MQ below (va_Qv (S := Mem) (fun (u : Mem) => post u) (fun u t => AT (dC, dI) (TY cI cJ) A (ww_X3 cI cJ q0 u) t) A) args s 0 0 A) (F0 m 0 ls []) := by
  obtain ⟨hx, hb, hr, hml, hown, hts, hlocks, hK⟩ := id cx
  have cx' : CX RX3 cX3_clear (meth.sig.returnType) 1 p s m args meth c (dC, dI) (TY cI cJ) := ⟨hx, hb, rfl, hml, hown, hts, hlocks, hK⟩
  intro m0 H locs ls hP hD hS hl h
  unfold b_X3_clear_0 at h
  refine lv_aload_n hx hb dX3_clear_0 rfl (lv_at hl 0 rfl) ?_
  refine lv_iconst (v := (-1)) hx hb dX3_clear_1 (by decide) ?_
  obtain ⟨m0_1, em0_1⟩ : ∃ z : Mem, z = up2 m0 0 0 (-1) := ⟨_, rfl⟩
  have h := h m0_1 em0_1
  refine pf_v (k := 0) (tf := .int) cx' hP hD hS 0 (ww_X3 cI cJ q0 m0_1) i_X3 tyX3 tyX3_ok nmX3 rfl rfl (by decide) kw_252 rfl rfl rfl rfl rfl (Nat.le_of_ble_eq_true rfl) dX3_clear_2 (by subst em0_1; rfl) (fun H locs hP hD hS => ?_)
  refine lv_aload_n hx hb dX3_clear_5 rfl (lv_at hl 0 rfl) ?_
  refine lv_iconst (v := 0) hx hb dX3_clear_6 (by decide) ?_
  obtain ⟨m0_2, em0_2⟩ : ∃ z : Mem, z = up2 m0_1 0 1 0 := ⟨_, rfl⟩
  have h := h m0_2 em0_2
  refine pf_v (k := 1) (tf := .int) cx' hP hD hS 0 (ww_X3 cI cJ q0 m0_2) i_X3 tyX3 tyX3_ok nmX3 rfl rfl (by decide) kw_254 rfl rfl rfl rfl rfl (Nat.le_of_ble_eq_true rfl) dX3_clear_7 (by subst em0_2; rfl) (fun H locs hP hD hS => ?_)
  refine lv_aload_n hx hb dX3_clear_10 rfl (lv_at hl 0 rfl) ?_
  refine lv_iconst (v := 0) hx hb dX3_clear_11 (by decide) ?_
  obtain ⟨m0_3, em0_3⟩ : ∃ z : Mem, z = up2 m0_2 0 2 0 := ⟨_, rfl⟩
  have h := h m0_3 em0_3
  refine pf_v (k := 2) (tf := .int) cx' hP hD hS 0 (ww_X3 cI cJ q0 m0_3) i_X3 tyX3 tyX3_ok nmX3 rfl rfl (by decide) kw_256 rfl rfl rfl rfl rfl (Nat.le_of_ble_eq_true rfl) dX3_clear_12 (by subst em0_3; rfl) (fun H locs hP hD hS => ?_)
  exact rt_v (u := m0_3) cx hP hD hS h dX3_clear_15
set_option maxRecDepth 100000 in
theorem c_X3_clear (l : Launch) {dC : Nat → ClassId} {dI : Nat → Nat → Nat} {cI cJ : ClassId} (sz : Nat) (q0 : Nat → Nat) (m0 : Mem) (post : Mem → Prop) (h : wp_X3_clear m0 post) : Met l yX3_clear (Cond.code yX3_clear cX3_clear 1 none :: gt) ({ frames := 0, cells := 0, slots := 0, locals := 0 }) (va_Pc [.ref (q0 0)] (PRE (dC, dI) (TY cI cJ) (ww_X3 cI cJ q0 m0) sz)) (va_Qv (S := Mem) (fun (u : Mem) => post u) (fun u t => AT (dC, dI) (TY cI cJ) (va_A (ww_X3 cI cJ q0 m0) sz) (ww_X3 cI cJ q0 u) t) (va_A (ww_X3 cI cJ q0 m0) sz)) 0 0 (va_A (ww_X3 cI cJ q0 m0) sz) :=
  met_of (own := RX3) (Qf := fun A => va_Qv (S := Mem) (fun (u : Mem) => post u) (fun u t => AT (dC, dI) (TY cI cJ) A (ww_X3 cI cJ q0 u) t) A) (by decide) rfl (Nat.le_of_ble_eq_true rfl) rfl (fun p e s m below meth c A cx hA ls hP hD hS hl => w_X3_clear_0 cx hA m0 _ _ ls hP hD hS hl h)
theorem mv_X3_clear : MV yX3_clear cX3_clear 1 none 0 := ⟨⟨kw_466, kw_10, by decide +kernel⟩, kw_464, kw_465⟩
set_option maxHeartbeats 4000000 in
set_option maxRecDepth 100000 in
theorem w_X3_weigh_44 {p : Program} {l : Launch} {e : Env} {s : State} {m : MethodId} {args : Array Value} {below : List Frame} {meth : Method} {c : Code} {dC : Nat → ClassId} {dI : Nat → Nat → Nat} {cI cJ : ClassId} {A : Nat → Prop} (cx : CX RX3 cX3_weigh none 5 p s m args meth c (dC, dI) (TY cI cJ)) (hA : ∀ q, s.heap.size ≤ q → A q) {q0 : Nat → Nat} {post : Mem → Prop} : ∀ (x1 : Int32) (x2 : Int32) (x3 : Int32) (m0 : Mem) (H : Heap) (locs : List Loc) (ls : Array Slot), va_P (dC, dI) vwCl (ww_X3 cI cJ q0 m0) H → va_D A (ww_X3 cI cJ q0 m0) → va_S A s.heap H locs → lv_has ls 5 [(0, .ref (q0 0)), (1, .int x1), (2, .int x2), (3, .int x3)] → b_X3_weigh_44 post x1 x2 x3 m0 → W p l e ({ frames := 0, cells := 0, slots := 0, locals := 0 }) s m args below meth c H locs 0 0 (MQ below (va_Qv (S := Mem) (fun (u : Mem) => post u) (fun u t => AT (dC, dI) (TY cI cJ) A (ww_X3 cI cJ q0 u) t) A) args s 0 0 A) (F0 m 44 ls []) := by
  obtain ⟨hx, hb, hr, hml, hown, hts, hlocks, hK⟩ := id cx
  have cx' : CX RX3 cX3_weigh (meth.sig.returnType) 5 p s m args meth c (dC, dI) (TY cI cJ) := ⟨hx, hb, rfl, hml, hown, hts, hlocks, hK⟩
  intro x1 x2 x3 m0 H locs ls hP hD hS hl h
  unfold b_X3_weigh_44 at h
  refine lv_aload_n hx hb dX3_weigh_44 rfl (lv_at hl 0 rfl) ?_
  refine lv_iload_n hx hb dX3_weigh_45 rfl (lv_at hl 1 rfl) ?_
  obtain ⟨m0_1, em0_1⟩ : ∃ z : Mem, z = up2 m0 0 0 x1 := ⟨_, rfl⟩
  have h := h m0_1 em0_1
  refine pf_v (k := 0) (tf := .int) cx' hP hD hS 0 (ww_X3 cI cJ q0 m0_1) i_X3 tyX3 tyX3_ok nmX3 rfl rfl (by decide) kw_252 rfl rfl rfl rfl rfl (Nat.le_of_ble_eq_true rfl) dX3_weigh_46 (by subst em0_1; rfl) (fun H locs hP hD hS => ?_)
  refine lv_aload_n hx hb dX3_weigh_49 rfl (lv_at hl 0 rfl) ?_
  refine lv_iload_n hx hb dX3_weigh_50 rfl (lv_at hl 2 rfl) ?_
  obtain ⟨m0_2, em0_2⟩ : ∃ z : Mem, z = up2 m0_1 0 1 x2 := ⟨_, rfl⟩
  have h := h m0_2 em0_2
  refine pf_v (k := 1) (tf := .int) cx' hP hD hS 0 (ww_X3 cI cJ q0 m0_2) i_X3 tyX3 tyX3_ok nmX3 rfl rfl (by decide) kw_254 rfl rfl rfl rfl rfl (Nat.le_of_ble_eq_true rfl) dX3_weigh_51 (by subst em0_2; rfl) (fun H locs hP hD hS => ?_)
  refine lv_aload_n hx hb dX3_weigh_54 rfl (lv_at hl 0 rfl) ?_
  refine lv_iload_n hx hb dX3_weigh_55 rfl (lv_at hl 3 rfl) ?_
  obtain ⟨m0_3, em0_3⟩ : ∃ z : Mem, z = up2 m0_2 0 2 x3 := ⟨_, rfl⟩
  have h := h m0_3 em0_3
  refine pf_v (k := 2) (tf := .int) cx' hP hD hS 0 (ww_X3 cI cJ q0 m0_3) i_X3 tyX3 tyX3_ok nmX3 rfl rfl (by decide) kw_256 rfl rfl rfl rfl rfl (Nat.le_of_ble_eq_true rfl) dX3_weigh_56 (by subst em0_3; rfl) (fun H locs hP hD hS => ?_)
  exact rt_v (u := m0_3) cx hP hD hS h dX3_weigh_59
set_option maxHeartbeats 4000000 in
set_option maxRecDepth 100000 in
theorem w_X3_weigh_29 {p : Program} {l : Launch} {e : Env} {s : State} {m : MethodId} {args : Array Value} {below : List Frame} {meth : Method} {c : Code} {dC : Nat → ClassId} {dI : Nat → Nat → Nat} {cI cJ : ClassId} {A : Nat → Prop} (cx : CX RX3 cX3_weigh none 5 p s m args meth c (dC, dI) (TY cI cJ)) (hA : ∀ q, s.heap.size ≤ q → A q) {q0 : Nat → Nat} {post : Mem → Prop} : ∀ (x1 : Int32) (x2 : Int32) (x3 : Int32) (z0 : Int32) (m0 : Mem) (H : Heap) (locs : List Loc) (ls : Array Slot), va_P (dC, dI) vwCl (ww_X3 cI cJ q0 m0) H → va_D A (ww_X3 cI cJ q0 m0) → va_S A s.heap H locs → lv_has ls 5 [(0, .ref (q0 0)), (1, .int x1), (2, .int x2), (3, .int x3)] → b_X3_weigh_29 post x1 x2 x3 z0 m0 → W p l e ({ frames := 0, cells := 0, slots := 0, locals := 0 }) s m args below meth c H locs 0 0 (MQ below (va_Qv (S := Mem) (fun (u : Mem) => post u) (fun u t => AT (dC, dI) (TY cI cJ) A (ww_X3 cI cJ q0 u) t) A) args s 0 0 A) (F0 m 29 ls [.int z0]) := by
  obtain ⟨hx, hb, hr, hml, hown, hts, hlocks, hK⟩ := id cx
  have cx' : CX RX3 cX3_weigh (meth.sig.returnType) 5 p s m args meth c (dC, dI) (TY cI cJ) := ⟨hx, hb, rfl, hml, hown, hts, hlocks, hK⟩
  intro x1 x2 x3 z0 m0 H locs ls hP hD hS hl h
  unfold b_X3_weigh_29 at h
  refine lv_istore (lv' := [(4, .int z0), (0, .ref (q0 0)), (1, .int x1), (2, .int x2), (3, .int x3)]) hx hb dX3_weigh_29 hl (by decide) rfl (fun ls hl => ?_)
  refine lv_aload_n hx hb dX3_weigh_31 rfl (lv_at hl 1 rfl) ?_
  refine gf_v (k := 0) (v := .int (m0 0 0)) cx' hP 0 i_X3 rfl rfl (by decide) kw_252 rfl rfl dX3_weigh_32 ?_
  refine lv_iconst (v := (-1)) hx hb dX3_weigh_35 (by decide) ?_
  refine lv_icmp_eq (tgt := 44) hx hb dX3_weigh_36 (by decide) (fun c_1 => ?_) (fun c_1 => ?_)
  · have h := h.1 c_1
    exact w_X3_weigh_44 cx hA x1 x2 x3 m0 H locs ls hP hD hS (lv_sub hl [1, 2, 3, 4] rfl) h
  have h := h.2 c_1
  refine lv_iload hx hb dX3_weigh_39 (lv_at hl 0 rfl) ?_
  refine lv_if_eq (tgt := 59) hx hb dX3_weigh_41 (by decide) (fun c_2 => ?_) (fun c_2 => ?_)
  · have h := h.1 c_2
    exact rt_v (u := m0) cx hP hD hS h dX3_weigh_59
  have h := h.2 c_2
  exact w_X3_weigh_44 cx hA x1 x2 x3 m0 H locs ls hP hD hS (lv_sub hl [1, 2, 3, 4] rfl) h
set_option maxHeartbeats 4000000 in
set_option maxRecDepth 100000 in
theorem w_X3_weigh_28 {p : Program} {l : Launch} {e : Env} {s : State} {m : MethodId} {args : Array Value} {below : List Frame} {meth : Method} {c : Code} {dC : Nat → ClassId} {dI : Nat → Nat → Nat} {cI cJ : ClassId} {A : Nat → Prop} (cx : CX RX3 cX3_weigh none 5 p s m args meth c (dC, dI) (TY cI cJ)) (hA : ∀ q, s.heap.size ≤ q → A q) {q0 : Nat → Nat} {post : Mem → Prop} : ∀ (x1 : Int32) (x2 : Int32) (x3 : Int32) (m0 : Mem) (H : Heap) (locs : List Loc) (ls : Array Slot), va_P (dC, dI) vwCl (ww_X3 cI cJ q0 m0) H → va_D A (ww_X3 cI cJ q0 m0) → va_S A s.heap H locs → lv_has ls 5 [(0, .ref (q0 0)), (1, .int x1), (2, .int x2), (3, .int x3)] → b_X3_weigh_28 post x1 x2 x3 m0 → W p l e ({ frames := 0, cells := 0, slots := 0, locals := 0 }) s m args below meth c H locs 0 0 (MQ below (va_Qv (S := Mem) (fun (u : Mem) => post u) (fun u t => AT (dC, dI) (TY cI cJ) A (ww_X3 cI cJ q0 u) t) A) args s 0 0 A) (F0 m 28 ls []) := by
  obtain ⟨hx, hb, hr, hml, hown, hts, hlocks, hK⟩ := id cx
  have cx' : CX RX3 cX3_weigh (meth.sig.returnType) 5 p s m args meth c (dC, dI) (TY cI cJ) := ⟨hx, hb, rfl, hml, hown, hts, hlocks, hK⟩
  intro x1 x2 x3 m0 H locs ls hP hD hS hl h
  unfold b_X3_weigh_28 at h
  refine lv_iconst (v := 0) hx hb dX3_weigh_28 (by decide) ?_
  exact w_X3_weigh_29 cx hA x1 x2 x3 0 m0 H locs ls hP hD hS (lv_sub hl [0, 1, 2, 3] rfl) h
set_option maxHeartbeats 4000000 in
set_option maxRecDepth 100000 in
theorem w_X3_weigh_24 {p : Program} {l : Launch} {e : Env} {s : State} {m : MethodId} {args : Array Value} {below : List Frame} {meth : Method} {c : Code} {dC : Nat → ClassId} {dI : Nat → Nat → Nat} {cI cJ : ClassId} {A : Nat → Prop} (cx : CX RX3 cX3_weigh none 5 p s m args meth c (dC, dI) (TY cI cJ)) (hA : ∀ q, s.heap.size ≤ q → A q) {q0 : Nat → Nat} {post : Mem → Prop} : ∀ (x1 : Int32) (x2 : Int32) (x3 : Int32) (m0 : Mem) (H : Heap) (locs : List Loc) (ls : Array Slot), va_P (dC, dI) vwCl (ww_X3 cI cJ q0 m0) H → va_D A (ww_X3 cI cJ q0 m0) → va_S A s.heap H locs → lv_has ls 5 [(0, .ref (q0 0)), (1, .int x1), (2, .int x2), (3, .int x3)] → b_X3_weigh_24 post x1 x2 x3 m0 → W p l e ({ frames := 0, cells := 0, slots := 0, locals := 0 }) s m args below meth c H locs 0 0 (MQ below (va_Qv (S := Mem) (fun (u : Mem) => post u) (fun u t => AT (dC, dI) (TY cI cJ) A (ww_X3 cI cJ q0 u) t) A) args s 0 0 A) (F0 m 24 ls []) := by
  obtain ⟨hx, hb, hr, hml, hown, hts, hlocks, hK⟩ := id cx
  have cx' : CX RX3 cX3_weigh (meth.sig.returnType) 5 p s m args meth c (dC, dI) (TY cI cJ) := ⟨hx, hb, rfl, hml, hown, hts, hlocks, hK⟩
  intro x1 x2 x3 m0 H locs ls hP hD hS hl h
  unfold b_X3_weigh_24 at h
  refine lv_iconst (v := 1) hx hb dX3_weigh_24 (by decide) ?_
  refine lv_goto (tgt := 29) hx hb dX3_weigh_25 (by decide) ?_
  exact w_X3_weigh_29 cx hA x1 x2 x3 1 m0 H locs ls hP hD hS (lv_sub hl [0, 1, 2, 3] rfl) h
set_option maxHeartbeats 4000000 in
set_option maxRecDepth 100000 in
theorem w_X3_weigh_0 {p : Program} {l : Launch} {e : Env} {s : State} {m : MethodId} {args : Array Value} {below : List Frame} {meth : Method} {c : Code} {dC : Nat → ClassId} {dI : Nat → Nat → Nat} {cI cJ : ClassId} {A : Nat → Prop} (cx : CX RX3 cX3_weigh none 5 p s m args meth c (dC, dI) (TY cI cJ)) (hA : ∀ q, s.heap.size ≤ q → A q) {q0 : Nat → Nat} {post : Mem → Prop} : ∀ (x1 : Int32) (x2 : Int32) (x3 : Int32) (m0 : Mem) (H : Heap) (locs : List Loc) (ls : Array Slot), va_P (dC, dI) vwCl (ww_X3 cI cJ q0 m0) H → va_D A (ww_X3 cI cJ q0 m0) → va_S A s.heap H locs → lv_has ls 5 [(0, .ref (q0 0)), (1, .int x1), (2, .int x2), (3, .int x3)] → b_X3_weigh_0 post x1 x2 x3 m0 → W p l e ({ frames := 0, cells := 0, slots := 0, locals := 0 }) s m args below meth c H locs 0 0 (MQ below (va_Qv (S := Mem) (fun (u : Mem) => post u) (fun u t => AT (dC, dI) (TY cI cJ) A (ww_X3 cI cJ q0 u) t) A) args s 0 0 A) (F0 m 0 ls []) := by
  obtain ⟨hx, hb, hr, hml, hown, hts, hlocks, hK⟩ := id cx
  have cx' : CX RX3 cX3_weigh (meth.sig.returnType) 5 p s m args meth c (dC, dI) (TY cI cJ) := ⟨hx, hb, rfl, hml, hown, hts, hlocks, hK⟩
  intro x1 x2 x3 m0 H locs ls hP hD hS hl h
  unfold b_X3_weigh_0 at h
  refine lv_iload_n hx hb dX3_weigh_0 rfl (lv_at hl 2 rfl) ?_
  refine lv_aload_n hx hb dX3_weigh_1 rfl (lv_at hl 0 rfl) ?_
  refine gf_v (k := 1) (v := .int (m0 0 1)) cx' hP 0 i_X3 rfl rfl (by decide) kw_254 rfl rfl dX3_weigh_2 ?_
  refine lv_icmp_lt (tgt := 24) hx hb dX3_weigh_5 (by decide) (fun c_1 => ?_) (fun c_1 => ?_)
  · have h := h.1 c_1
    exact w_X3_weigh_24 cx hA x1 x2 x3 m0 H locs ls hP hD hS (lv_sub hl [0, 1, 2, 3] rfl) h
  have h := h.2 c_1
  refine lv_iload_n hx hb dX3_weigh_8 rfl (lv_at hl 2 rfl) ?_
  refine lv_aload_n hx hb dX3_weigh_9 rfl (lv_at hl 0 rfl) ?_
  refine gf_v (k := 1) (v := .int (m0 0 1)) cx' hP 0 i_X3 rfl rfl (by decide) kw_254 rfl rfl dX3_weigh_10 ?_
  refine lv_icmp_ne (tgt := 28) hx hb dX3_weigh_13 (by decide) (fun c_2 => ?_) (fun c_2 => ?_)
  · have h := h.1 c_2
    exact w_X3_weigh_28 cx hA x1 x2 x3 m0 H locs ls hP hD hS (lv_sub hl [0, 1, 2, 3] rfl) h
  have h := h.2 c_2
  refine lv_iload_n hx hb dX3_weigh_16 rfl (lv_at hl 3 rfl) ?_
  refine lv_aload_n hx hb dX3_weigh_17 rfl (lv_at hl 0 rfl) ?_
  refine gf_v (k := 2) (v := .int (m0 0 2)) cx' hP 0 i_X3 rfl rfl (by decide) kw_256 rfl rfl dX3_weigh_18 ?_
  refine lv_icmp_le (tgt := 28) hx hb dX3_weigh_21 (by decide) (fun c_3 => ?_) (fun c_3 => ?_)
  · have h := h.1 c_3
    exact w_X3_weigh_28 cx hA x1 x2 x3 m0 H locs ls hP hD hS (lv_sub hl [0, 1, 2, 3] rfl) h
  have h := h.2 c_3
  exact w_X3_weigh_24 cx hA x1 x2 x3 m0 H locs ls hP hD hS (lv_sub hl [0, 1, 2, 3] rfl) h
set_option maxRecDepth 100000 in
theorem c_X3_weigh (l : Launch) {dC : Nat → ClassId} {dI : Nat → Nat → Nat} {cI cJ : ClassId} (sz : Nat) (q0 : Nat → Nat) (m0 : Mem) (x1 : Int32) (x2 : Int32) (x3 : Int32) (post : Mem → Prop) (h : wp_X3_weigh m0 x1 x2 x3 post) : Met l yX3_weigh (Cond.code yX3_weigh cX3_weigh 5 none :: gt) ({ frames := 0, cells := 0, slots := 0, locals := 0 }) (va_Pc [.ref (q0 0), .int x1, .int x2, .int x3] (PRE (dC, dI) (TY cI cJ) (ww_X3 cI cJ q0 m0) sz)) (va_Qv (S := Mem) (fun (u : Mem) => post u) (fun u t => AT (dC, dI) (TY cI cJ) (va_A (ww_X3 cI cJ q0 m0) sz) (ww_X3 cI cJ q0 u) t) (va_A (ww_X3 cI cJ q0 m0) sz)) 0 0 (va_A (ww_X3 cI cJ q0 m0) sz) :=
  met_of (own := RX3) (Qf := fun A => va_Qv (S := Mem) (fun (u : Mem) => post u) (fun u t => AT (dC, dI) (TY cI cJ) A (ww_X3 cI cJ q0 u) t) A) (by decide) rfl (Nat.le_of_ble_eq_true rfl) rfl (fun p e s m below meth c A cx hA ls hP hD hS hl => w_X3_weigh_0 cx hA x1 x2 x3 m0 _ _ ls hP hD hS hl h)
theorem mv_X3_weigh : MV yX3_weigh cX3_weigh 5 none 3 := ⟨⟨kw_483, kw_10, by decide +kernel⟩, kw_481, kw_482⟩
set_option maxHeartbeats 4000000 in
set_option maxRecDepth 100000 in
theorem w_X4_parse_15 {p : Program} {l : Launch} {e : Env} {s : State} {m : MethodId} {args : Array Value} {below : List Frame} {meth : Method} {c : Code} {dC : Nat → ClassId} {dI : Nat → Nat → Nat} {cI cJ : ClassId} {A : Nat → Prop} (cx : CX RX4 cX4_parse none 3 p s m args meth c (dC, dI) (TY cI cJ)) (hA : ∀ q, s.heap.size ≤ q → A q) {q0 : Nat → Nat} {q1 : Nat → Nat} {n1 : Nat} {m1 : Mem} {post : Mem → Prop} : ∀ (n : Nat) (x2 : Int32) (m0 : Mem) (H : Heap) (locs : List Loc) (ls : Array Slot), va_P (dC, dI) vwCl (ww_X4_X7 cI cJ q0 m0 n1 q1 m1) H → va_D A (ww_X4_X7 cI cJ q0 m0 n1 q1 m1) → va_S A s.heap H locs → lv_has ls 3 [(0, .ref (q0 0)), (1, .ref (q1 0)), (2, .int x2)] → b_X4_parse_15 n1 m1 post n x2 m0 → W p l e ({ frames := 4, cells := 0, slots := 0, locals := 84 }) s m args below meth c H locs 0 0 (MQ below (va_Qv (S := Mem) (fun (u : Mem) => post u) (fun u t => AT (dC, dI) (TY cI cJ) A (ww_X4_X7 cI cJ q0 u n1 q1 m1) t) A) args s 0 0 A) (F0 m 15 ls []) := by
  obtain ⟨hx, hb, hr, hml, hown, hts, hlocks, hK⟩ := id cx
  have cx' : CX RX4 cX4_parse (meth.sig.returnType) 3 p s m args meth c (dC, dI) (TY cI cJ) := ⟨hx, hb, rfl, hml, hown, hts, hlocks, hK⟩
  intro n
  induction n with
  | zero =>
    intro x2 m0 H locs ls hP hD hS hl h
    exact False.elim h
  | succ n ih =>
    intro x2 m0 H locs ls hP hD hS hl h
    unfold b_X4_parse_15 at h
    refine lv_iload_n hx hb dX4_parse_15 rfl (lv_at hl 2 rfl) ?_
    refine lv_aload_n hx hb dX4_parse_16 rfl (lv_at hl 0 rfl) ?_
    refine gf_v (k := 4) (v := .int (m0 0 4)) cx' hP 0 i_X4 rfl rfl (by decide) kw_62 rfl rfl dX4_parse_17 ?_
    refine lv_icmp_ge (tgt := 94) hx hb dX4_parse_20 (by decide) (fun c_1 => ?_) (fun c_1 => ?_)
    · have h := h.1 c_1
      exact rt_v (u := m0) cx hP hD hS h dX4_parse_94
    have h := h.2 c_1
    refine lv_aload_n hx hb dX4_parse_23 rfl (lv_at hl 0 rfl) ?_
    refine gf_v (k := 0) (v := .ref (q0 1)) cx' hP 0 i_X4 rfl rfl (by decide) kw_51 rfl rfl dX4_parse_24 ?_
    refine lv_iload_n hx hb dX4_parse_27 rfl (lv_at hl 2 rfl) ?_
    refine lv_aload_n hx hb dX4_parse_28 rfl (lv_at hl 1 rfl) ?_
    refine lv_iload_n hx hb dX4_parse_29 rfl (lv_at hl 2 rfl) ?_
    refine lv_iconst (v := 0) hx hb dX4_parse_30 (by decide) ?_
    refine callP_i (wc := ww_X7 cI cJ n1 q1 m1) (wr_X4_X7_0_1_2_3_4 cI cJ q0 m0 n1 q1 m1) (fun (_u : Unit) => ww_X4_X7 cI cJ q0 m0 n1 q1 m1) [5, 6] [0, 1, 2, 3, 4] [0, 1, 2, 3, 4, 5, 6] rfl rfl rfl (by decide) (fun _ => rfl) rfl hP hD hS hA (fun hPc hDc => run_V (As := [.int x2, .int 0]) (rest := [.int x2, .ref (q0 1)]) cx' (c_X7_byteOf l H.size n1 q1 m1 x2 0 _ h) mv_X7_byteOf kw_340 rfl rfl ⟨Nat.le_of_ble_eq_true rfl, Nat.le_of_ble_eq_true rfl⟩ hPc hDc rfl rfl rfl hl.1 rfl (Nat.le_of_ble_eq_true rfl) dX4_parse_31 ⟨Nat.zero_le _, Nat.zero_le _⟩) rfl (fun r_2 u9 H locs hP hD hS h => ?_)
    have hP : va_P (dC, dI) vwCl (ww_X4_X7 cI cJ q0 m0 n1 q1 m1) H := hP
    have hD : va_D A (ww_X4_X7 cI cJ q0 m0 n1 q1 m1) := hD
    refine callN_i (run_S (As := [.int r_2]) (rest := [.int x2, .ref (q0 1)]) (wc := []) cx' (c_X7_kindOf l H.size r_2 _ h) ms_X7_kindOf kw_344 rfl rfl ⟨Nat.le_of_ble_eq_true rfl, Nat.le_of_ble_eq_true rfl⟩ nilP nilD (A := A) rfl hl.1 rfl (Nat.le_of_ble_eq_true rfl) dX4_parse_34 ⟨Nat.zero_le _, Nat.zero_le _⟩) hP hS hA (fun r_3 H locs hP hS h => ?_)
    obtain ⟨m0_4, em0_4⟩ : ∃ z : Mem, z = up2 m0 1 (Int32.toNatClampNeg x2) r_3 := ⟨_, rfl⟩
    have h1 := h.1
    have h := h.2 m0_4 em0_4
    refine st_i hx hb hK hP hD hS 1 0 (ww_X4_X7 cI cJ q0 m0_4 n1 q1 m1) rfl rfl h1 dX4_parse_37 (by subst em0_4; rfl) (fun H locs hP hD hS => ?_)
    refine lv_aload_n hx hb dX4_parse_38 rfl (lv_at hl 0 rfl) ?_
    refine gf_v (k := 1) (v := .ref (q0 2)) cx' hP 0 i_X4 rfl rfl (by decide) kw_54 rfl rfl dX4_parse_39 ?_
    refine lv_iload_n hx hb dX4_parse_42 rfl (lv_at hl 2 rfl) ?_
    refine lv_aload_n hx hb dX4_parse_43 rfl (lv_at hl 1 rfl) ?_
    refine lv_iload_n hx hb dX4_parse_44 rfl (lv_at hl 2 rfl) ?_
    refine lv_iconst (v := 1) hx hb dX4_parse_45 (by decide) ?_
    refine callP_i (wc := ww_X7 cI cJ n1 q1 m1) (wr_X4_X7_0_1_2_3_4 cI cJ q0 m0_4 n1 q1 m1) (fun (_u : Unit) => ww_X4_X7 cI cJ q0 m0_4 n1 q1 m1) [5, 6] [0, 1, 2, 3, 4] [0, 1, 2, 3, 4, 5, 6] rfl rfl rfl (by decide) (fun _ => rfl) rfl hP hD hS hA (fun hPc hDc => run_V (As := [.int x2, .int 1]) (rest := [.int x2, .ref (q0 2)]) cx' (c_X7_figureOf l H.size n1 q1 m1 x2 1 _ h) mv_X7_figureOf kw_345 rfl rfl ⟨Nat.le_of_ble_eq_true rfl, Nat.le_of_ble_eq_true rfl⟩ hPc hDc rfl rfl rfl hl.1 rfl (Nat.le_of_ble_eq_true rfl) dX4_parse_46 ⟨Nat.zero_le _, Nat.zero_le _⟩) rfl (fun r_5 u9 H locs hP hD hS h => ?_)
    have hP : va_P (dC, dI) vwCl (ww_X4_X7 cI cJ q0 m0_4 n1 q1 m1) H := hP
    have hD : va_D A (ww_X4_X7 cI cJ q0 m0_4 n1 q1 m1) := hD
    obtain ⟨m0_6, em0_6⟩ : ∃ z : Mem, z = up2 m0_4 2 (Int32.toNatClampNeg x2) r_5 := ⟨_, rfl⟩
    have h1 := h.1
    have h := h.2 m0_6 em0_6
    refine st_i hx hb hK hP hD hS 2 0 (ww_X4_X7 cI cJ q0 m0_6 n1 q1 m1) rfl rfl h1 dX4_parse_49 (by subst em0_6; rfl) (fun H locs hP hD hS => ?_)
    refine lv_aload_n hx hb dX4_parse_50 rfl (lv_at hl 0 rfl) ?_
    refine gf_v (k := 2) (v := .ref (q0 3)) cx' hP 0 i_X4 rfl rfl (by decide) kw_57 rfl rfl dX4_parse_51 ?_
    refine lv_iload_n hx hb dX4_parse_54 rfl (lv_at hl 2 rfl) ?_
    refine lv_aload_n hx hb dX4_parse_55 rfl (lv_at hl 1 rfl) ?_
    refine lv_iload_n hx hb dX4_parse_56 rfl (lv_at hl 2 rfl) ?_
    refine lv_iconst (v := 2) hx hb dX4_parse_57 (by decide) ?_
    refine callP_i (wc := ww_X7 cI cJ n1 q1 m1) (wr_X4_X7_0_1_2_3_4 cI cJ q0 m0_6 n1 q1 m1) (fun (_u : Unit) => ww_X4_X7 cI cJ q0 m0_6 n1 q1 m1) [5, 6] [0, 1, 2, 3, 4] [0, 1, 2, 3, 4, 5, 6] rfl rfl rfl (by decide) (fun _ => rfl) rfl hP hD hS hA (fun hPc hDc => run_V (As := [.int x2, .int 2]) (rest := [.int x2, .ref (q0 3)]) cx' (c_X7_figureOf l H.size n1 q1 m1 x2 2 _ h) mv_X7_figureOf kw_345 rfl rfl ⟨Nat.le_of_ble_eq_true rfl, Nat.le_of_ble_eq_true rfl⟩ hPc hDc rfl rfl rfl hl.1 rfl (Nat.le_of_ble_eq_true rfl) dX4_parse_58 ⟨Nat.zero_le _, Nat.zero_le _⟩) rfl (fun r_7 u9 H locs hP hD hS h => ?_)
    have hP : va_P (dC, dI) vwCl (ww_X4_X7 cI cJ q0 m0_6 n1 q1 m1) H := hP
    have hD : va_D A (ww_X4_X7 cI cJ q0 m0_6 n1 q1 m1) := hD
    obtain ⟨m0_8, em0_8⟩ : ∃ z : Mem, z = up2 m0_6 3 (Int32.toNatClampNeg x2) r_7 := ⟨_, rfl⟩
    have h1 := h.1
    have h := h.2 m0_8 em0_8
    refine st_i hx hb hK hP hD hS 3 0 (ww_X4_X7 cI cJ q0 m0_8 n1 q1 m1) rfl rfl h1 dX4_parse_61 (by subst em0_8; rfl) (fun H locs hP hD hS => ?_)
    refine lv_aload_n hx hb dX4_parse_62 rfl (lv_at hl 0 rfl) ?_
    refine gf_v (k := 3) (v := .ref (q0 4)) cx' hP 0 i_X4 rfl rfl (by decide) kw_59 rfl rfl dX4_parse_63 ?_
    refine lv_iload_n hx hb dX4_parse_66 rfl (lv_at hl 2 rfl) ?_
    refine lv_aload_n hx hb dX4_parse_67 rfl (lv_at hl 0 rfl) ?_
    refine gf_v (k := 5) (v := .int (m0_8 0 5)) cx' hP 0 i_X4 rfl rfl (by decide) kw_65 rfl rfl dX4_parse_68 ?_
    refine lv_iconst (v := 1) hx hb dX4_parse_71 (by decide) ?_
    refine dia_i (ls := ls) (c0 := (m0_8 0 5) = 1) (a := ((m0_8 0 4) - 1) - x2) (b := x2) (J := 87) (rest := [.int x2, .ref (q0 4)]) (fun K => ?_) (fun v_10 ev_10 => ?_)
    · refine lv_icmp_ne (tgt := 86) hx hb dX4_parse_72 (by decide) (fun c_9 => ?_) (fun c_9 => ?_)
      · refine lv_iload_n hx hb dX4_parse_86 rfl (lv_at hl 2 rfl) ?_
        exact K _ (Or.inr ⟨c_9, rfl⟩)
      · refine lv_aload_n hx hb dX4_parse_75 rfl (lv_at hl 0 rfl) ?_
        refine gf_v (k := 4) (v := .int (m0_8 0 4)) cx' hP 0 i_X4 rfl rfl (by decide) kw_62 rfl rfl dX4_parse_76 ?_
        refine lv_iconst (v := 1) hx hb dX4_parse_79 (by decide) ?_
        refine lv_isub hx hb dX4_parse_80 ?_
        refine lv_iload_n hx hb dX4_parse_81 rfl (lv_at hl 2 rfl) ?_
        refine lv_isub hx hb dX4_parse_82 ?_
        refine lv_goto (tgt := 87) hx hb dX4_parse_83 (by decide) ?_
        exact K _ (Or.inl ⟨c_9, rfl⟩)
    have h := h v_10 ev_10
    obtain ⟨m0_11, em0_11⟩ : ∃ z : Mem, z = up2 m0_8 4 (Int32.toNatClampNeg x2) v_10 := ⟨_, rfl⟩
    have h1 := h.1
    have h := h.2 m0_11 em0_11
    refine st_i hx hb hK hP hD hS 4 0 (ww_X4_X7 cI cJ q0 m0_11 n1 q1 m1) rfl rfl h1 dX4_parse_87 (by subst em0_11; rfl) (fun H locs hP hD hS => ?_)
    obtain ⟨x2_12, ex2_12⟩ : ∃ z : Int32, z = x2 + 1 := ⟨_, rfl⟩
    have h := h x2_12 ex2_12
    refine lv_iinc (v := x2_12) (lv' := [(2, .int x2_12), (0, .ref (q0 0)), (1, .ref (q1 0))]) hx hb dX4_parse_88 hl (k := 2) rfl (by rw [ex2_12]; rfl) (by decide) rfl (fun ls hl => ?_)
    refine lv_goto (tgt := 15) hx hb dX4_parse_91 (by decide) ?_
    exact ih x2_12 m0_11 H locs ls hP hD hS (lv_sub hl [1, 2, 0] rfl) h
set_option maxHeartbeats 4000000 in
set_option maxRecDepth 100000 in
theorem w_X4_parse_0 {p : Program} {l : Launch} {e : Env} {s : State} {m : MethodId} {args : Array Value} {below : List Frame} {meth : Method} {c : Code} {dC : Nat → ClassId} {dI : Nat → Nat → Nat} {cI cJ : ClassId} {A : Nat → Prop} (cx : CX RX4 cX4_parse none 3 p s m args meth c (dC, dI) (TY cI cJ)) (hA : ∀ q, s.heap.size ≤ q → A q) {q0 : Nat → Nat} {q1 : Nat → Nat} {n1 : Nat} {m1 : Mem} {post : Mem → Prop} : ∀ (m0 : Mem) (H : Heap) (locs : List Loc) (ls : Array Slot), va_P (dC, dI) vwCl (ww_X4_X7 cI cJ q0 m0 n1 q1 m1) H → va_D A (ww_X4_X7 cI cJ q0 m0 n1 q1 m1) → va_S A s.heap H locs → lv_has ls 3 [(0, .ref (q0 0)), (1, .ref (q1 0))] → b_X4_parse_0 n1 m1 post m0 → W p l e ({ frames := 4, cells := 0, slots := 0, locals := 84 }) s m args below meth c H locs 0 0 (MQ below (va_Qv (S := Mem) (fun (u : Mem) => post u) (fun u t => AT (dC, dI) (TY cI cJ) A (ww_X4_X7 cI cJ q0 u n1 q1 m1) t) A) args s 0 0 A) (F0 m 0 ls []) := by
  obtain ⟨hx, hb, hr, hml, hown, hts, hlocks, hK⟩ := id cx
  have cx' : CX RX4 cX4_parse (meth.sig.returnType) 3 p s m args meth c (dC, dI) (TY cI cJ) := ⟨hx, hb, rfl, hml, hown, hts, hlocks, hK⟩
  intro m0 H locs ls hP hD hS hl h
  unfold b_X4_parse_0 at h
  refine lv_aload_n hx hb dX4_parse_0 rfl (lv_at hl 0 rfl) ?_
  refine lv_aload_n hx hb dX4_parse_1 rfl (lv_at hl 1 rfl) ?_
  refine callP_i (wc := ww_X7 cI cJ n1 q1 m1) (wr_X4_X7_0_1_2_3_4 cI cJ q0 m0 n1 q1 m1) (fun (_u : Unit) => ww_X4_X7 cI cJ q0 m0 n1 q1 m1) [5, 6] [0, 1, 2, 3, 4] [0, 1, 2, 3, 4, 5, 6] rfl rfl rfl (by decide) (fun _ => rfl) rfl hP hD hS hA (fun hPc hDc => run_V (As := []) (rest := [.ref (q0 0)]) cx' (c_X7_things l H.size n1 q1 m1 _ h) mv_X7_things kw_320 rfl rfl ⟨Nat.le_of_ble_eq_true rfl, Nat.le_of_ble_eq_true rfl⟩ hPc hDc rfl rfl rfl hl.1 rfl (Nat.le_of_ble_eq_true rfl) dX4_parse_2 ⟨Nat.zero_le _, Nat.zero_le _⟩) rfl (fun r_1 u9 H locs hP hD hS h => ?_)
  have hP : va_P (dC, dI) vwCl (ww_X4_X7 cI cJ q0 m0 n1 q1 m1) H := hP
  have hD : va_D A (ww_X4_X7 cI cJ q0 m0 n1 q1 m1) := hD
  refine lv_bipush (v := 8) hx hb dX4_parse_5 (by decide) ?_
  refine va_mmin hx hb (hml.trans hl.1.symm) hown (hts _ kw_337) (hts _ kw_338) (hts _ kw_12) (hts _ kw_339) (Nat.le_of_ble_eq_true rfl) (Nat.le_of_ble_eq_true rfl) (Nat.le_refl _) (Nat.le_refl _) dX4_parse_7 ?_
  obtain ⟨m0_2, em0_2⟩ : ∃ z : Mem, z = up2 m0 0 4 (if 8 < r_1 then 8 else r_1) := ⟨_, rfl⟩
  have h := h m0_2 em0_2
  refine pf_v (k := 4) (tf := .int) cx' hP hD hS 0 (ww_X4_X7 cI cJ q0 m0_2 n1 q1 m1) i_X4 tyX4 tyX4_ok nmX4 rfl rfl (by decide) kw_62 rfl rfl rfl rfl rfl (Nat.le_of_ble_eq_true rfl) dX4_parse_10 (by subst em0_2; rfl) (fun H locs hP hD hS => ?_)
  refine lv_iconst (v := 0) hx hb dX4_parse_13 (by decide) ?_
  refine lv_istore_n (lv' := [(2, .int 0), (0, .ref (q0 0)), (1, .ref (q1 0))]) hx hb dX4_parse_14 rfl hl (by decide) rfl (fun ls hl => ?_)
  obtain ⟨n_3, h⟩ := h
  exact w_X4_parse_15 cx hA n_3 0 m0_2 H locs ls hP hD hS (lv_sub hl [1, 2, 0] rfl) h
set_option maxRecDepth 100000 in
theorem c_X4_parse (l : Launch) {dC : Nat → ClassId} {dI : Nat → Nat → Nat} {cI cJ : ClassId} (sz : Nat) (q0 : Nat → Nat) (m0 : Mem) (n1 : Nat) (q1 : Nat → Nat) (m1 : Mem) (post : Mem → Prop) (h : wp_X4_parse m0 n1 m1 post) : Met l yX4_parse (Cond.code yX4_parse cX4_parse 3 none :: gt) ({ frames := 4, cells := 0, slots := 0, locals := 84 }) (va_Pc [.ref (q0 0), .ref (q1 0)] (PRE (dC, dI) (TY cI cJ) (ww_X4_X7 cI cJ q0 m0 n1 q1 m1) sz)) (va_Qv (S := Mem) (fun (u : Mem) => post u) (fun u t => AT (dC, dI) (TY cI cJ) (va_A (ww_X4_X7 cI cJ q0 m0 n1 q1 m1) sz) (ww_X4_X7 cI cJ q0 u n1 q1 m1) t) (va_A (ww_X4_X7 cI cJ q0 m0 n1 q1 m1) sz)) 0 0 (va_A (ww_X4_X7 cI cJ q0 m0 n1 q1 m1) sz) :=
  met_of (own := RX4) (Qf := fun A => va_Qv (S := Mem) (fun (u : Mem) => post u) (fun u t => AT (dC, dI) (TY cI cJ) A (ww_X4_X7 cI cJ q0 u n1 q1 m1) t) A) (by decide) rfl (Nat.le_of_ble_eq_true rfl) rfl (fun p e s m below meth c A cx hA ls hP hD hS hl => w_X4_parse_0 cx hA m0 _ _ ls hP hD hS hl h)
theorem mv_X4_parse : MV yX4_parse cX4_parse 3 none 1 := ⟨⟨kw_319, kw_3, by decide +kernel⟩, kw_317, kw_318⟩
set_option maxHeartbeats 4000000 in
set_option maxRecDepth 100000 in
theorem w_X4_takeFrom_26 {p : Program} {l : Launch} {e : Env} {s : State} {m : MethodId} {args : Array Value} {below : List Frame} {meth : Method} {c : Code} {dC : Nat → ClassId} {dI : Nat → Nat → Nat} {cI cJ : ClassId} {A : Nat → Prop} (cx : CX RX4 cX4_takeFrom none 3 p s m args meth c (dC, dI) (TY cI cJ)) (hA : ∀ q, s.heap.size ≤ q → A q) {q0 : Nat → Nat} {q1 : Nat → Nat} {m1 : Mem} {post : Mem → Prop} : ∀ (n : Nat) (x2 : Int32) (m0 : Mem) (H : Heap) (locs : List Loc) (ls : Array Slot), va_P (dC, dI) vwCl (ww_X4_X4 cI cJ q0 m0 q1 m1) H → va_D A (ww_X4_X4 cI cJ q0 m0 q1 m1) → va_S A s.heap H locs → lv_has ls 3 [(0, .ref (q0 0)), (1, .ref (q1 0)), (2, .int x2)] → b_X4_takeFrom_26 m1 post n x2 m0 → W p l e ({ frames := 0, cells := 0, slots := 0, locals := 0 }) s m args below meth c H locs 0 0 (MQ below (va_Qv (S := Mem) (fun (u : Mem) => post u) (fun u t => AT (dC, dI) (TY cI cJ) A (ww_X4_X4 cI cJ q0 u q1 m1) t) A) args s 0 0 A) (F0 m 26 ls []) := by
  obtain ⟨hx, hb, hr, hml, hown, hts, hlocks, hK⟩ := id cx
  have cx' : CX RX4 cX4_takeFrom (meth.sig.returnType) 3 p s m args meth c (dC, dI) (TY cI cJ) := ⟨hx, hb, rfl, hml, hown, hts, hlocks, hK⟩
  intro n
  induction n with
  | zero =>
    intro x2 m0 H locs ls hP hD hS hl h
    exact False.elim h
  | succ n ih =>
    intro x2 m0 H locs ls hP hD hS hl h
    unfold b_X4_takeFrom_26 at h
    refine lv_iload_n hx hb dX4_takeFrom_26 rfl (lv_at hl 2 rfl) ?_
    refine lv_bipush (v := 8) hx hb dX4_takeFrom_27 (by decide) ?_
    refine lv_icmp_ge (tgt := 86) hx hb dX4_takeFrom_29 (by decide) (fun c_1 => ?_) (fun c_1 => ?_)
    · have h := h.1 c_1
      exact rt_v (u := m0) cx hP hD hS h dX4_takeFrom_86
    have h := h.2 c_1
    refine lv_aload_n hx hb dX4_takeFrom_32 rfl (lv_at hl 0 rfl) ?_
    refine gf_v (k := 0) (v := .ref (q0 1)) cx' hP 0 i_X4 rfl rfl (by decide) kw_51 rfl rfl dX4_takeFrom_33 ?_
    refine lv_iload_n hx hb dX4_takeFrom_36 rfl (lv_at hl 2 rfl) ?_
    refine lv_aload_n hx hb dX4_takeFrom_37 rfl (lv_at hl 1 rfl) ?_
    refine gf_v (k := 0) (v := .ref (q1 1)) cx' hP 5 i_X4 rfl rfl (by decide) kw_51 rfl rfl dX4_takeFrom_38 ?_
    refine lv_iload_n hx hb dX4_takeFrom_41 rfl (lv_at hl 2 rfl) ?_
    refine va_iald hx hb hK hP 6 0 rfl rfl h.1 dX4_takeFrom_42 ?_
    have h := h.2
    obtain ⟨m0_2, em0_2⟩ : ∃ z : Mem, z = up2 m0 1 (Int32.toNatClampNeg x2) (m1 1 (Int32.toNatClampNeg x2)) := ⟨_, rfl⟩
    have h1 := h.1
    have h := h.2 m0_2 em0_2
    refine st_i hx hb hK hP hD hS 1 0 (ww_X4_X4 cI cJ q0 m0_2 q1 m1) rfl rfl h1 dX4_takeFrom_43 (by subst em0_2; rfl) (fun H locs hP hD hS => ?_)
    refine lv_aload_n hx hb dX4_takeFrom_44 rfl (lv_at hl 0 rfl) ?_
    refine gf_v (k := 1) (v := .ref (q0 2)) cx' hP 0 i_X4 rfl rfl (by decide) kw_54 rfl rfl dX4_takeFrom_45 ?_
    refine lv_iload_n hx hb dX4_takeFrom_48 rfl (lv_at hl 2 rfl) ?_
    refine lv_aload_n hx hb dX4_takeFrom_49 rfl (lv_at hl 1 rfl) ?_
    refine gf_v (k := 1) (v := .ref (q1 2)) cx' hP 5 i_X4 rfl rfl (by decide) kw_54 rfl rfl dX4_takeFrom_50 ?_
    refine lv_iload_n hx hb dX4_takeFrom_53 rfl (lv_at hl 2 rfl) ?_
    refine va_iald hx hb hK hP 7 0 rfl rfl h.1 dX4_takeFrom_54 ?_
    have h := h.2
    obtain ⟨m0_3, em0_3⟩ : ∃ z : Mem, z = up2 m0_2 2 (Int32.toNatClampNeg x2) (m1 2 (Int32.toNatClampNeg x2)) := ⟨_, rfl⟩
    have h1 := h.1
    have h := h.2 m0_3 em0_3
    refine st_i hx hb hK hP hD hS 2 0 (ww_X4_X4 cI cJ q0 m0_3 q1 m1) rfl rfl h1 dX4_takeFrom_55 (by subst em0_3; rfl) (fun H locs hP hD hS => ?_)
    refine lv_aload_n hx hb dX4_takeFrom_56 rfl (lv_at hl 0 rfl) ?_
    refine gf_v (k := 2) (v := .ref (q0 3)) cx' hP 0 i_X4 rfl rfl (by decide) kw_57 rfl rfl dX4_takeFrom_57 ?_
    refine lv_iload_n hx hb dX4_takeFrom_60 rfl (lv_at hl 2 rfl) ?_
    refine lv_aload_n hx hb dX4_takeFrom_61 rfl (lv_at hl 1 rfl) ?_
    refine gf_v (k := 2) (v := .ref (q1 3)) cx' hP 5 i_X4 rfl rfl (by decide) kw_57 rfl rfl dX4_takeFrom_62 ?_
    refine lv_iload_n hx hb dX4_takeFrom_65 rfl (lv_at hl 2 rfl) ?_
    refine va_iald hx hb hK hP 8 0 rfl rfl h.1 dX4_takeFrom_66 ?_
    have h := h.2
    obtain ⟨m0_4, em0_4⟩ : ∃ z : Mem, z = up2 m0_3 3 (Int32.toNatClampNeg x2) (m1 3 (Int32.toNatClampNeg x2)) := ⟨_, rfl⟩
    have h1 := h.1
    have h := h.2 m0_4 em0_4
    refine st_i hx hb hK hP hD hS 3 0 (ww_X4_X4 cI cJ q0 m0_4 q1 m1) rfl rfl h1 dX4_takeFrom_67 (by subst em0_4; rfl) (fun H locs hP hD hS => ?_)
    refine lv_aload_n hx hb dX4_takeFrom_68 rfl (lv_at hl 0 rfl) ?_
    refine gf_v (k := 3) (v := .ref (q0 4)) cx' hP 0 i_X4 rfl rfl (by decide) kw_59 rfl rfl dX4_takeFrom_69 ?_
    refine lv_iload_n hx hb dX4_takeFrom_72 rfl (lv_at hl 2 rfl) ?_
    refine lv_aload_n hx hb dX4_takeFrom_73 rfl (lv_at hl 1 rfl) ?_
    refine gf_v (k := 3) (v := .ref (q1 4)) cx' hP 5 i_X4 rfl rfl (by decide) kw_59 rfl rfl dX4_takeFrom_74 ?_
    refine lv_iload_n hx hb dX4_takeFrom_77 rfl (lv_at hl 2 rfl) ?_
    refine va_iald hx hb hK hP 9 0 rfl rfl h.1 dX4_takeFrom_78 ?_
    have h := h.2
    obtain ⟨m0_5, em0_5⟩ : ∃ z : Mem, z = up2 m0_4 4 (Int32.toNatClampNeg x2) (m1 4 (Int32.toNatClampNeg x2)) := ⟨_, rfl⟩
    have h1 := h.1
    have h := h.2 m0_5 em0_5
    refine st_i hx hb hK hP hD hS 4 0 (ww_X4_X4 cI cJ q0 m0_5 q1 m1) rfl rfl h1 dX4_takeFrom_79 (by subst em0_5; rfl) (fun H locs hP hD hS => ?_)
    obtain ⟨x2_6, ex2_6⟩ : ∃ z : Int32, z = x2 + 1 := ⟨_, rfl⟩
    have h := h x2_6 ex2_6
    refine lv_iinc (v := x2_6) (lv' := [(2, .int x2_6), (0, .ref (q0 0)), (1, .ref (q1 0))]) hx hb dX4_takeFrom_80 hl (k := 2) rfl (by rw [ex2_6]; rfl) (by decide) rfl (fun ls hl => ?_)
    refine lv_goto (tgt := 26) hx hb dX4_takeFrom_83 (by decide) ?_
    exact ih x2_6 m0_5 H locs ls hP hD hS (lv_sub hl [1, 2, 0] rfl) h
set_option maxHeartbeats 4000000 in
set_option maxRecDepth 100000 in
theorem w_X4_takeFrom_0 {p : Program} {l : Launch} {e : Env} {s : State} {m : MethodId} {args : Array Value} {below : List Frame} {meth : Method} {c : Code} {dC : Nat → ClassId} {dI : Nat → Nat → Nat} {cI cJ : ClassId} {A : Nat → Prop} (cx : CX RX4 cX4_takeFrom none 3 p s m args meth c (dC, dI) (TY cI cJ)) (hA : ∀ q, s.heap.size ≤ q → A q) {q0 : Nat → Nat} {q1 : Nat → Nat} {m1 : Mem} {post : Mem → Prop} : ∀ (m0 : Mem) (H : Heap) (locs : List Loc) (ls : Array Slot), va_P (dC, dI) vwCl (ww_X4_X4 cI cJ q0 m0 q1 m1) H → va_D A (ww_X4_X4 cI cJ q0 m0 q1 m1) → va_S A s.heap H locs → lv_has ls 3 [(0, .ref (q0 0)), (1, .ref (q1 0))] → b_X4_takeFrom_0 m1 post m0 → W p l e ({ frames := 0, cells := 0, slots := 0, locals := 0 }) s m args below meth c H locs 0 0 (MQ below (va_Qv (S := Mem) (fun (u : Mem) => post u) (fun u t => AT (dC, dI) (TY cI cJ) A (ww_X4_X4 cI cJ q0 u q1 m1) t) A) args s 0 0 A) (F0 m 0 ls []) := by
  obtain ⟨hx, hb, hr, hml, hown, hts, hlocks, hK⟩ := id cx
  have cx' : CX RX4 cX4_takeFrom (meth.sig.returnType) 3 p s m args meth c (dC, dI) (TY cI cJ) := ⟨hx, hb, rfl, hml, hown, hts, hlocks, hK⟩
  intro m0 H locs ls hP hD hS hl h
  unfold b_X4_takeFrom_0 at h
  refine lv_aload_n hx hb dX4_takeFrom_0 rfl (lv_at hl 0 rfl) ?_
  refine lv_aload_n hx hb dX4_takeFrom_1 rfl (lv_at hl 1 rfl) ?_
  refine gf_v (k := 4) (v := .int (m1 0 4)) cx' hP 5 i_X4 rfl rfl (by decide) kw_62 rfl rfl dX4_takeFrom_2 ?_
  obtain ⟨m0_1, em0_1⟩ : ∃ z : Mem, z = up2 m0 0 4 (m1 0 4) := ⟨_, rfl⟩
  have h := h m0_1 em0_1
  refine pf_v (k := 4) (tf := .int) cx' hP hD hS 0 (ww_X4_X4 cI cJ q0 m0_1 q1 m1) i_X4 tyX4 tyX4_ok nmX4 rfl rfl (by decide) kw_62 rfl rfl rfl rfl rfl (Nat.le_of_ble_eq_true rfl) dX4_takeFrom_5 (by subst em0_1; rfl) (fun H locs hP hD hS => ?_)
  refine lv_aload_n hx hb dX4_takeFrom_8 rfl (lv_at hl 0 rfl) ?_
  refine lv_aload_n hx hb dX4_takeFrom_9 rfl (lv_at hl 1 rfl) ?_
  refine gf_v (k := 5) (v := .int (m1 0 5)) cx' hP 5 i_X4 rfl rfl (by decide) kw_65 rfl rfl dX4_takeFrom_10 ?_
  obtain ⟨m0_2, em0_2⟩ : ∃ z : Mem, z = up2 m0_1 0 5 (m1 0 5) := ⟨_, rfl⟩
  have h := h m0_2 em0_2
  refine pf_v (k := 5) (tf := .int) cx' hP hD hS 0 (ww_X4_X4 cI cJ q0 m0_2 q1 m1) i_X4 tyX4 tyX4_ok nmX4 rfl rfl (by decide) kw_65 rfl rfl rfl rfl rfl (Nat.le_of_ble_eq_true rfl) dX4_takeFrom_13 (by subst em0_2; rfl) (fun H locs hP hD hS => ?_)
  refine lv_aload_n hx hb dX4_takeFrom_16 rfl (lv_at hl 0 rfl) ?_
  refine lv_aload_n hx hb dX4_takeFrom_17 rfl (lv_at hl 1 rfl) ?_
  refine gf_v (k := 6) (v := .int (m1 0 6)) cx' hP 5 i_X4 rfl rfl (by decide) kw_67 rfl rfl dX4_takeFrom_18 ?_
  obtain ⟨m0_3, em0_3⟩ : ∃ z : Mem, z = up2 m0_2 0 6 (m1 0 6) := ⟨_, rfl⟩
  have h := h m0_3 em0_3
  refine pf_v (k := 6) (tf := .int) cx' hP hD hS 0 (ww_X4_X4 cI cJ q0 m0_3 q1 m1) i_X4 tyX4 tyX4_ok nmX4 rfl rfl (by decide) kw_67 rfl rfl rfl rfl rfl (Nat.le_of_ble_eq_true rfl) dX4_takeFrom_21 (by subst em0_3; rfl) (fun H locs hP hD hS => ?_)
  refine lv_iconst (v := 0) hx hb dX4_takeFrom_24 (by decide) ?_
  refine lv_istore_n (lv' := [(2, .int 0), (0, .ref (q0 0)), (1, .ref (q1 0))]) hx hb dX4_takeFrom_25 rfl hl (by decide) rfl (fun ls hl => ?_)
  obtain ⟨n_4, h⟩ := h
  exact w_X4_takeFrom_26 cx hA n_4 0 m0_3 H locs ls hP hD hS (lv_sub hl [1, 2, 0] rfl) h
set_option maxRecDepth 100000 in
theorem c_X4_takeFrom (l : Launch) {dC : Nat → ClassId} {dI : Nat → Nat → Nat} {cI cJ : ClassId} (sz : Nat) (q0 : Nat → Nat) (m0 : Mem) (q1 : Nat → Nat) (m1 : Mem) (post : Mem → Prop) (h : wp_X4_takeFrom m0 m1 post) : Met l yX4_takeFrom (Cond.code yX4_takeFrom cX4_takeFrom 3 none :: gt) ({ frames := 0, cells := 0, slots := 0, locals := 0 }) (va_Pc [.ref (q0 0), .ref (q1 0)] (PRE (dC, dI) (TY cI cJ) (ww_X4_X4 cI cJ q0 m0 q1 m1) sz)) (va_Qv (S := Mem) (fun (u : Mem) => post u) (fun u t => AT (dC, dI) (TY cI cJ) (va_A (ww_X4_X4 cI cJ q0 m0 q1 m1) sz) (ww_X4_X4 cI cJ q0 u q1 m1) t) (va_A (ww_X4_X4 cI cJ q0 m0 q1 m1) sz)) 0 0 (va_A (ww_X4_X4 cI cJ q0 m0 q1 m1) sz) :=
  met_of (own := RX4) (Qf := fun A => va_Qv (S := Mem) (fun (u : Mem) => post u) (fun u t => AT (dC, dI) (TY cI cJ) A (ww_X4_X4 cI cJ q0 u q1 m1) t) A) (by decide) rfl (Nat.le_of_ble_eq_true rfl) rfl (fun p e s m below meth c A cx hA ls hP hD hS hl => w_X4_takeFrom_0 cx hA m0 _ _ ls hP hD hS hl h)
theorem mv_X4_takeFrom : MV yX4_takeFrom cX4_takeFrom 3 none 1 := ⟨⟨kw_462, kw_3, by decide +kernel⟩, kw_460, kw_461⟩
set_option maxHeartbeats 4000000 in
set_option maxRecDepth 100000 in
theorem w_X4_placeOf_2 {p : Program} {l : Launch} {e : Env} {s : State} {m : MethodId} {args : Array Value} {below : List Frame} {meth : Method} {c : Code} {dC : Nat → ClassId} {dI : Nat → Nat → Nat} {cI cJ : ClassId} {A : Nat → Prop} (cx : CX RX4 cX4_placeOf (some .int) 3 p s m args meth c (dC, dI) (TY cI cJ)) (hA : ∀ q, s.heap.size ≤ q → A q) {q0 : Nat → Nat} {m0 : Mem} {post : Int32 → Prop} : ∀ (n : Nat) (x1 : Int32) (x2 : Int32) (H : Heap) (locs : List Loc) (ls : Array Slot), va_P (dC, dI) vwCl (ww_X4 cI cJ q0 m0) H → va_D A (ww_X4 cI cJ q0 m0) → va_S A s.heap H locs → lv_has ls 3 [(0, .ref (q0 0)), (1, .int x1), (2, .int x2)] → b_X4_placeOf_2 m0 post n x1 x2 → W p l e ({ frames := 0, cells := 0, slots := 0, locals := 0 }) s m args below meth c H locs 0 0 (MQ below (va_Qi (S := Unit) (fun (r : Int32) (_u : Unit) => post r) (fun _u t => AT (dC, dI) (TY cI cJ) A (ww_X4 cI cJ q0 m0) t) A) args s 0 0 A) (F0 m 2 ls []) := by
  obtain ⟨hx, hb, hr, hml, hown, hts, hlocks, hK⟩ := id cx
  have cx' : CX RX4 cX4_placeOf (meth.sig.returnType) 3 p s m args meth c (dC, dI) (TY cI cJ) := ⟨hx, hb, rfl, hml, hown, hts, hlocks, hK⟩
  intro n
  induction n with
  | zero =>
    intro x1 x2 H locs ls hP hD hS hl h
    exact False.elim h
  | succ n ih =>
    intro x1 x2 H locs ls hP hD hS hl h
    unfold b_X4_placeOf_2 at h
    refine lv_iload_n hx hb dX4_placeOf_2 rfl (lv_at hl 2 rfl) ?_
    refine lv_aload_n hx hb dX4_placeOf_3 rfl (lv_at hl 0 rfl) ?_
    refine gf_v (k := 4) (v := .int (m0 0 4)) cx' hP 0 i_X4 rfl rfl (by decide) kw_62 rfl rfl dX4_placeOf_4 ?_
    refine lv_icmp_ge (tgt := 28) hx hb dX4_placeOf_7 (by decide) (fun c_1 => ?_) (fun c_1 => ?_)
    · have h := h.1 c_1
      refine lv_iconst (v := 0) hx hb dX4_placeOf_28 (by decide) ?_
      exact rt_i (v := 0) (u := ()) cx hP hD hS h dX4_placeOf_29
    have h := h.2 c_1
    refine lv_aload_n hx hb dX4_placeOf_10 rfl (lv_at hl 0 rfl) ?_
    refine gf_v (k := 3) (v := .ref (q0 4)) cx' hP 0 i_X4 rfl rfl (by decide) kw_59 rfl rfl dX4_placeOf_11 ?_
    refine lv_iload_n hx hb dX4_placeOf_14 rfl (lv_at hl 2 rfl) ?_
    refine va_iald hx hb hK hP 4 0 rfl rfl h.1 dX4_placeOf_15 ?_
    have h := h.2
    refine lv_iload_n hx hb dX4_placeOf_16 rfl (lv_at hl 1 rfl) ?_
    refine lv_icmp_ne (tgt := 22) hx hb dX4_placeOf_17 (by decide) (fun c_2 => ?_) (fun c_2 => ?_)
    · have h := h.1 c_2
      obtain ⟨x2_3, ex2_3⟩ : ∃ z : Int32, z = x2 + 1 := ⟨_, rfl⟩
      have h := h x2_3 ex2_3
      refine lv_iinc (v := x2_3) (lv' := [(2, .int x2_3), (0, .ref (q0 0)), (1, .int x1)]) hx hb dX4_placeOf_22 hl (k := 2) rfl (by rw [ex2_3]; rfl) (by decide) rfl (fun ls hl => ?_)
      refine lv_goto (tgt := 2) hx hb dX4_placeOf_25 (by decide) ?_
      exact ih x1 x2_3 H locs ls hP hD hS (lv_sub hl [1, 2, 0] rfl) h
    have h := h.2 c_2
    refine lv_iload_n hx hb dX4_placeOf_20 rfl (lv_at hl 2 rfl) ?_
    exact rt_i (v := x2) (u := ()) cx hP hD hS h dX4_placeOf_21
set_option maxHeartbeats 4000000 in
set_option maxRecDepth 100000 in
theorem w_X4_placeOf_0 {p : Program} {l : Launch} {e : Env} {s : State} {m : MethodId} {args : Array Value} {below : List Frame} {meth : Method} {c : Code} {dC : Nat → ClassId} {dI : Nat → Nat → Nat} {cI cJ : ClassId} {A : Nat → Prop} (cx : CX RX4 cX4_placeOf (some .int) 3 p s m args meth c (dC, dI) (TY cI cJ)) (hA : ∀ q, s.heap.size ≤ q → A q) {q0 : Nat → Nat} {m0 : Mem} {post : Int32 → Prop} : ∀ (x1 : Int32) (H : Heap) (locs : List Loc) (ls : Array Slot), va_P (dC, dI) vwCl (ww_X4 cI cJ q0 m0) H → va_D A (ww_X4 cI cJ q0 m0) → va_S A s.heap H locs → lv_has ls 3 [(0, .ref (q0 0)), (1, .int x1)] → b_X4_placeOf_0 m0 post x1 → W p l e ({ frames := 0, cells := 0, slots := 0, locals := 0 }) s m args below meth c H locs 0 0 (MQ below (va_Qi (S := Unit) (fun (r : Int32) (_u : Unit) => post r) (fun _u t => AT (dC, dI) (TY cI cJ) A (ww_X4 cI cJ q0 m0) t) A) args s 0 0 A) (F0 m 0 ls []) := by
  obtain ⟨hx, hb, hr, hml, hown, hts, hlocks, hK⟩ := id cx
  have cx' : CX RX4 cX4_placeOf (meth.sig.returnType) 3 p s m args meth c (dC, dI) (TY cI cJ) := ⟨hx, hb, rfl, hml, hown, hts, hlocks, hK⟩
  intro x1 H locs ls hP hD hS hl h
  unfold b_X4_placeOf_0 at h
  refine lv_iconst (v := 0) hx hb dX4_placeOf_0 (by decide) ?_
  refine lv_istore_n (lv' := [(2, .int 0), (0, .ref (q0 0)), (1, .int x1)]) hx hb dX4_placeOf_1 rfl hl (by decide) rfl (fun ls hl => ?_)
  obtain ⟨n_1, h⟩ := h
  exact w_X4_placeOf_2 cx hA n_1 x1 0 H locs ls hP hD hS (lv_sub hl [1, 2, 0] rfl) h
set_option maxRecDepth 100000 in
theorem c_X4_placeOf (l : Launch) {dC : Nat → ClassId} {dI : Nat → Nat → Nat} {cI cJ : ClassId} (sz : Nat) (q0 : Nat → Nat) (m0 : Mem) (x1 : Int32) (post : Int32 → Prop) (h : wp_X4_placeOf m0 x1 post) : Met l yX4_placeOf (Cond.code yX4_placeOf cX4_placeOf 3 (some .int) :: gt) ({ frames := 0, cells := 0, slots := 0, locals := 0 }) (va_Pc [.ref (q0 0), .int x1] (PRE (dC, dI) (TY cI cJ) (ww_X4 cI cJ q0 m0) sz)) (va_Qi (S := Unit) (fun (r : Int32) (_u : Unit) => post r) (fun _u t => AT (dC, dI) (TY cI cJ) (va_A (ww_X4 cI cJ q0 m0) sz) (ww_X4 cI cJ q0 m0) t) (va_A (ww_X4 cI cJ q0 m0) sz)) 0 0 (va_A (ww_X4 cI cJ q0 m0) sz) :=
  met_of (own := RX4) (Qf := fun A => va_Qi (S := Unit) (fun (r : Int32) (_u : Unit) => post r) (fun _u t => AT (dC, dI) (TY cI cJ) A (ww_X4 cI cJ q0 m0) t) A) (by decide) rfl (Nat.le_of_ble_eq_true rfl) rfl (fun p e s m below meth c A cx hA ls hP hD hS hl => w_X4_placeOf_0 cx hA x1 _ _ ls hP hD hS hl h)
theorem mv_X4_placeOf : MV yX4_placeOf cX4_placeOf 3 (some .int) 1 := ⟨⟨kw_474, kw_3, by decide +kernel⟩, kw_472, kw_473⟩
set_option maxHeartbeats 4000000 in
set_option maxRecDepth 100000 in
theorem w_X4_moveFrom_81 {p : Program} {l : Launch} {e : Env} {s : State} {m : MethodId} {args : Array Value} {below : List Frame} {meth : Method} {c : Code} {dC : Nat → ClassId} {dI : Nat → Nat → Nat} {cI cJ : ClassId} {A : Nat → Prop} (cx : CX RX4 cX4_moveFrom none 7 p s m args meth c (dC, dI) (TY cI cJ)) (hA : ∀ q, s.heap.size ≤ q → A q) {q0 : Nat → Nat} {q1 : Nat → Nat} {m1 : Mem} {post : Mem → Prop} {k10 : Int32 → Int32 → Int32 → Int32 → Mem → Prop} (hk10 : ∀ (x2 : Int32) (x3 : Int32) (x4 : Int32) (x5 : Int32) (m0 : Mem) (H : Heap) (locs : List Loc) (ls : Array Slot), va_P (dC, dI) vwCl (ww_X4_X4 cI cJ q0 m0 q1 m1) H → va_D A (ww_X4_X4 cI cJ q0 m0 q1 m1) → va_S A s.heap H locs → lv_has ls 7 [(0, .ref (q0 0)), (1, .ref (q1 0)), (2, .int x2), (3, .int x3), (4, .int x4), (5, .int x5)] → k10 x2 x3 x4 x5 m0 → W p l e ({ frames := 1, cells := 0, slots := 0, locals := 22 }) s m args below meth c H locs 0 0 (MQ below (va_Qv (S := Mem) (fun (u : Mem) => post u) (fun u t => AT (dC, dI) (TY cI cJ) A (ww_X4_X4 cI cJ q0 u q1 m1) t) A) args s 0 0 A) (F0 m 10 ls [])) : ∀ (x2 : Int32) (x3 : Int32) (x4 : Int32) (x5 : Int32) (m0 : Mem) (H : Heap) (locs : List Loc) (ls : Array Slot), va_P (dC, dI) vwCl (ww_X4_X4 cI cJ q0 m0 q1 m1) H → va_D A (ww_X4_X4 cI cJ q0 m0 q1 m1) → va_S A s.heap H locs → lv_has ls 7 [(0, .ref (q0 0)), (1, .ref (q1 0)), (2, .int x2), (3, .int x3), (4, .int x4), (5, .int x5)] → b_X4_moveFrom_81 m1 post k10 x2 x3 x4 x5 m0 → W p l e ({ frames := 1, cells := 0, slots := 0, locals := 22 }) s m args below meth c H locs 0 0 (MQ below (va_Qv (S := Mem) (fun (u : Mem) => post u) (fun u t => AT (dC, dI) (TY cI cJ) A (ww_X4_X4 cI cJ q0 u q1 m1) t) A) args s 0 0 A) (F0 m 81 ls []) := by
  obtain ⟨hx, hb, hr, hml, hown, hts, hlocks, hK⟩ := id cx
  have cx' : CX RX4 cX4_moveFrom (meth.sig.returnType) 7 p s m args meth c (dC, dI) (TY cI cJ) := ⟨hx, hb, rfl, hml, hown, hts, hlocks, hK⟩
  intro x2 x3 x4 x5 m0 H locs ls hP hD hS hl h
  unfold b_X4_moveFrom_81 at h
  obtain ⟨x5_1, ex5_1⟩ : ∃ z : Int32, z = x5 + 1 := ⟨_, rfl⟩
  have h := h x5_1 ex5_1
  refine lv_iinc (v := x5_1) (lv' := [(5, .int x5_1), (0, .ref (q0 0)), (1, .ref (q1 0)), (2, .int x2), (3, .int x3), (4, .int x4)]) hx hb dX4_moveFrom_81 hl (k := 5) rfl (by rw [ex5_1]; rfl) (by decide) rfl (fun ls hl => ?_)
  refine lv_goto (tgt := 10) hx hb dX4_moveFrom_84 (by decide) ?_
  exact hk10 x2 x3 x4 x5_1 m0 H locs ls hP hD hS (lv_sub hl [1, 2, 3, 4, 5, 0] rfl) h
set_option maxHeartbeats 4000000 in
set_option maxRecDepth 100000 in
theorem w_X4_moveFrom_10 {p : Program} {l : Launch} {e : Env} {s : State} {m : MethodId} {args : Array Value} {below : List Frame} {meth : Method} {c : Code} {dC : Nat → ClassId} {dI : Nat → Nat → Nat} {cI cJ : ClassId} {A : Nat → Prop} (cx : CX RX4 cX4_moveFrom none 7 p s m args meth c (dC, dI) (TY cI cJ)) (hA : ∀ q, s.heap.size ≤ q → A q) {q0 : Nat → Nat} {q1 : Nat → Nat} {m1 : Mem} {post : Mem → Prop} : ∀ (n : Nat) (x2 : Int32) (x3 : Int32) (x4 : Int32) (x5 : Int32) (m0 : Mem) (H : Heap) (locs : List Loc) (ls : Array Slot), va_P (dC, dI) vwCl (ww_X4_X4 cI cJ q0 m0 q1 m1) H → va_D A (ww_X4_X4 cI cJ q0 m0 q1 m1) → va_S A s.heap H locs → lv_has ls 7 [(0, .ref (q0 0)), (1, .ref (q1 0)), (2, .int x2), (3, .int x3), (4, .int x4), (5, .int x5)] → b_X4_moveFrom_10 m1 post n x2 x3 x4 x5 m0 → W p l e ({ frames := 1, cells := 0, slots := 0, locals := 22 }) s m args below meth c H locs 0 0 (MQ below (va_Qv (S := Mem) (fun (u : Mem) => post u) (fun u t => AT (dC, dI) (TY cI cJ) A (ww_X4_X4 cI cJ q0 u q1 m1) t) A) args s 0 0 A) (F0 m 10 ls []) := by
  obtain ⟨hx, hb, hr, hml, hown, hts, hlocks, hK⟩ := id cx
  have cx' : CX RX4 cX4_moveFrom (meth.sig.returnType) 7 p s m args meth c (dC, dI) (TY cI cJ) := ⟨hx, hb, rfl, hml, hown, hts, hlocks, hK⟩
  intro n
  induction n with
  | zero =>
    intro x2 x3 x4 x5 m0 H locs ls hP hD hS hl h
    exact False.elim h
  | succ n ih =>
    intro x2 x3 x4 x5 m0 H locs ls hP hD hS hl h
    unfold b_X4_moveFrom_10 at h
    refine lv_iload hx hb dX4_moveFrom_10 (lv_at hl 5 rfl) ?_
    refine lv_aload_n hx hb dX4_moveFrom_12 rfl (lv_at hl 0 rfl) ?_
    refine gf_v (k := 4) (v := .int (m0 0 4)) cx' hP 0 i_X4 rfl rfl (by decide) kw_62 rfl rfl dX4_moveFrom_13 ?_
    refine lv_icmp_ge (tgt := 87) hx hb dX4_moveFrom_16 (by decide) (fun c_1 => ?_) (fun c_1 => ?_)
    · have h := h.1 c_1
      exact rt_v (u := m0) cx hP hD hS h dX4_moveFrom_87
    have h := h.2 c_1
    refine lv_iload hx hb dX4_moveFrom_19 (lv_at hl 5 rfl) ?_
    refine lv_iload_n hx hb dX4_moveFrom_21 rfl (lv_at hl 3 rfl) ?_
    refine lv_icmp_ne (tgt := 36) hx hb dX4_moveFrom_22 (by decide) (fun c_2 => ?_) (fun c_2 => ?_)
    · have h := h.1 c_2
      refine lv_iload hx hb dX4_moveFrom_36 (lv_at hl 5 rfl) ?_
      refine lv_iload_n hx hb dX4_moveFrom_38 rfl (lv_at hl 3 rfl) ?_
      refine dia_i (ls := ls) (c0 := x3 ≤ x5) (a := x5 - 1) (b := x5) (J := 51) (rest := []) (fun K => ?_) (fun v_4 ev_4 => ?_)
      · refine lv_icmp_ge (tgt := 47) hx hb dX4_moveFrom_39 (by decide) (fun c_3 => ?_) (fun c_3 => ?_)
        · refine lv_iload hx hb dX4_moveFrom_47 (lv_at hl 5 rfl) ?_
          refine lv_iconst (v := 1) hx hb dX4_moveFrom_49 (by decide) ?_
          refine lv_isub hx hb dX4_moveFrom_50 ?_
          exact K _ (Or.inl ⟨c_3, rfl⟩)
        · refine lv_iload hx hb dX4_moveFrom_42 (lv_at hl 5 rfl) ?_
          refine lv_goto (tgt := 51) hx hb dX4_moveFrom_44 (by decide) ?_
          exact K _ (Or.inr ⟨c_3, rfl⟩)
      have h := h v_4 ev_4
      refine lv_istore (lv' := [(6, .int v_4), (0, .ref (q0 0)), (1, .ref (q1 0)), (2, .int x2), (3, .int x3), (4, .int x4), (5, .int x5)]) hx hb dX4_moveFrom_51 hl (by decide) rfl (fun ls hl => ?_)
      refine lv_aload_n hx hb dX4_moveFrom_53 rfl (lv_at hl 1 rfl) ?_
      refine gf_v (k := 3) (v := .ref (q0 4)) cx' hP 0 i_X4 rfl rfl (by decide) kw_59 rfl rfl dX4_moveFrom_54 ?_
      refine lv_iload hx hb dX4_moveFrom_57 (lv_at hl 6 rfl) ?_
      refine lv_aload_n hx hb dX4_moveFrom_59 rfl (lv_at hl 2 rfl) ?_
      refine gf_v (k := 3) (v := .ref (q1 4)) cx' hP 5 i_X4 rfl rfl (by decide) kw_59 rfl rfl dX4_moveFrom_60 ?_
      refine lv_iload hx hb dX4_moveFrom_63 (lv_at hl 0 rfl) ?_
      refine lv_iload hx hb dX4_moveFrom_65 (lv_at hl 5 rfl) ?_
      refine dia_i (ls := ls) (c0 := x4 ≤ v_4) (a := v_4 + 1) (b := v_4) (J := 79) (rest := [.ref (q1 4), .int x5, .ref (q0 4)]) (fun K => ?_) (fun v_6 ev_6 => ?_)
      · refine lv_icmp_ge (tgt := 75) hx hb dX4_moveFrom_67 (by decide) (fun c_5 => ?_) (fun c_5 => ?_)
        · refine lv_iload hx hb dX4_moveFrom_75 (lv_at hl 0 rfl) ?_
          refine lv_iconst (v := 1) hx hb dX4_moveFrom_77 (by decide) ?_
          refine lv_iadd hx hb dX4_moveFrom_78 ?_
          exact K _ (Or.inl ⟨c_5, rfl⟩)
        · refine lv_iload hx hb dX4_moveFrom_70 (lv_at hl 0 rfl) ?_
          refine lv_goto (tgt := 79) hx hb dX4_moveFrom_72 (by decide) ?_
          exact K _ (Or.inr ⟨c_5, rfl⟩)
      have h := h v_6 ev_6
      refine va_iald hx hb hK hP 9 0 rfl rfl h.1 dX4_moveFrom_79 ?_
      have h := h.2
      obtain ⟨m0_7, em0_7⟩ : ∃ z : Mem, z = up2 m0 4 (Int32.toNatClampNeg x5) (m1 4 (Int32.toNatClampNeg v_6)) := ⟨_, rfl⟩
      have h1 := h.1
      have h := h.2 m0_7 em0_7
      refine st_i hx hb hK hP hD hS 4 0 (ww_X4_X4 cI cJ q0 m0_7 q1 m1) rfl rfl h1 dX4_moveFrom_80 (by subst em0_7; rfl) (fun H locs hP hD hS => ?_)
      exact w_X4_moveFrom_81 cx hA ih x2 x3 x4 x5 m0_7 H locs ls hP hD hS (lv_sub hl [1, 2, 3, 4, 5, 6] rfl) h
    have h := h.2 c_2
    refine lv_aload_n hx hb dX4_moveFrom_25 rfl (lv_at hl 0 rfl) ?_
    refine gf_v (k := 3) (v := .ref (q0 4)) cx' hP 0 i_X4 rfl rfl (by decide) kw_59 rfl rfl dX4_moveFrom_26 ?_
    refine lv_iload hx hb dX4_moveFrom_29 (lv_at hl 5 rfl) ?_
    refine lv_iload_n hx hb dX4_moveFrom_31 rfl (lv_at hl 2 rfl) ?_
    obtain ⟨m0_8, em0_8⟩ : ∃ z : Mem, z = up2 m0 4 (Int32.toNatClampNeg x5) x2 := ⟨_, rfl⟩
    have h1 := h.1
    have h := h.2 m0_8 em0_8
    refine st_i hx hb hK hP hD hS 4 0 (ww_X4_X4 cI cJ q0 m0_8 q1 m1) rfl rfl h1 dX4_moveFrom_32 (by subst em0_8; rfl) (fun H locs hP hD hS => ?_)
    refine lv_goto (tgt := 81) hx hb dX4_moveFrom_33 (by decide) ?_
    exact w_X4_moveFrom_81 cx hA ih x2 x3 x4 x5 m0_8 H locs ls hP hD hS (lv_sub hl [0, 1, 2, 3, 4, 5] rfl) h
set_option maxHeartbeats 4000000 in
set_option maxRecDepth 100000 in
theorem w_X4_moveFrom_0 {p : Program} {l : Launch} {e : Env} {s : State} {m : MethodId} {args : Array Value} {below : List Frame} {meth : Method} {c : Code} {dC : Nat → ClassId} {dI : Nat → Nat → Nat} {cI cJ : ClassId} {A : Nat → Prop} (cx : CX RX4 cX4_moveFrom none 7 p s m args meth c (dC, dI) (TY cI cJ)) (hA : ∀ q, s.heap.size ≤ q → A q) {q0 : Nat → Nat} {q1 : Nat → Nat} {m1 : Mem} {post : Mem → Prop} : ∀ (x2 : Int32) (x3 : Int32) (m0 : Mem) (H : Heap) (locs : List Loc) (ls : Array Slot), va_P (dC, dI) vwCl (ww_X4_X4 cI cJ q0 m0 q1 m1) H → va_D A (ww_X4_X4 cI cJ q0 m0 q1 m1) → va_S A s.heap H locs → lv_has ls 7 [(0, .ref (q0 0)), (1, .ref (q1 0)), (2, .int x2), (3, .int x3)] → b_X4_moveFrom_0 m1 post x2 x3 m0 → W p l e ({ frames := 1, cells := 0, slots := 0, locals := 22 }) s m args below meth c H locs 0 0 (MQ below (va_Qv (S := Mem) (fun (u : Mem) => post u) (fun u t => AT (dC, dI) (TY cI cJ) A (ww_X4_X4 cI cJ q0 u q1 m1) t) A) args s 0 0 A) (F0 m 0 ls []) := by
  obtain ⟨hx, hb, hr, hml, hown, hts, hlocks, hK⟩ := id cx
  have cx' : CX RX4 cX4_moveFrom (meth.sig.returnType) 7 p s m args meth c (dC, dI) (TY cI cJ) := ⟨hx, hb, rfl, hml, hown, hts, hlocks, hK⟩
  intro x2 x3 m0 H locs ls hP hD hS hl h
  unfold b_X4_moveFrom_0 at h
  refine lv_aload_n hx hb dX4_moveFrom_0 rfl (lv_at hl 1 rfl) ?_
  refine lv_iload_n hx hb dX4_moveFrom_1 rfl (lv_at hl 2 rfl) ?_
  refine callP_i (wc := ww_X4 cI cJ q1 m1) (wr_X4_X4_0_1_2_3_4 cI cJ q0 m0 q1 m1) (fun (_u : Unit) => ww_X4_X4 cI cJ q0 m0 q1 m1) [5, 6, 7, 8, 9] [0, 1, 2, 3, 4] [0, 1, 2, 3, 4, 5, 6, 7, 8, 9] rfl rfl rfl (by decide) (fun _ => rfl) rfl hP hD hS hA (fun hPc hDc => run_V (As := [.int x2]) (rest := []) cx' (c_X4_placeOf l H.size q1 m1 x2 _ h) mv_X4_placeOf kw_471 rfl rfl ⟨Nat.le_of_ble_eq_true rfl, Nat.le_of_ble_eq_true rfl⟩ hPc hDc rfl rfl rfl hl.1 rfl (Nat.le_of_ble_eq_true rfl) dX4_moveFrom_2 ⟨Nat.zero_le _, Nat.zero_le _⟩) rfl (fun r_1 u9 H locs hP hD hS h => ?_)
  have hP : va_P (dC, dI) vwCl (ww_X4_X4 cI cJ q0 m0 q1 m1) H := hP
  have hD : va_D A (ww_X4_X4 cI cJ q0 m0 q1 m1) := hD
  refine lv_istore (lv' := [(4, .int r_1), (0, .ref (q0 0)), (1, .ref (q1 0)), (2, .int x2), (3, .int x3)]) hx hb dX4_moveFrom_5 hl (by decide) rfl (fun ls hl => ?_)
  refine lv_iconst (v := 0) hx hb dX4_moveFrom_7 (by decide) ?_
  refine lv_istore (lv' := [(5, .int 0), (4, .int r_1), (0, .ref (q0 0)), (1, .ref (q1 0)), (2, .int x2), (3, .int x3)]) hx hb dX4_moveFrom_8 hl (by decide) rfl (fun ls hl => ?_)
  obtain ⟨n_2, h⟩ := h
  exact w_X4_moveFrom_10 cx hA n_2 x2 x3 r_1 0 m0 H locs ls hP hD hS (lv_sub hl [2, 3, 4, 5, 1, 0] rfl) h
set_option maxRecDepth 100000 in
theorem c_X4_moveFrom (l : Launch) {dC : Nat → ClassId} {dI : Nat → Nat → Nat} {cI cJ : ClassId} (sz : Nat) (q0 : Nat → Nat) (m0 : Mem) (q1 : Nat → Nat) (m1 : Mem) (x2 : Int32) (x3 : Int32) (post : Mem → Prop) (h : wp_X4_moveFrom m0 m1 x2 x3 post) : Met l yX4_moveFrom (Cond.code yX4_moveFrom cX4_moveFrom 7 none :: gt) ({ frames := 1, cells := 0, slots := 0, locals := 22 }) (va_Pc [.ref (q0 0), .ref (q1 0), .int x2, .int x3] (PRE (dC, dI) (TY cI cJ) (ww_X4_X4 cI cJ q0 m0 q1 m1) sz)) (va_Qv (S := Mem) (fun (u : Mem) => post u) (fun u t => AT (dC, dI) (TY cI cJ) (va_A (ww_X4_X4 cI cJ q0 m0 q1 m1) sz) (ww_X4_X4 cI cJ q0 u q1 m1) t) (va_A (ww_X4_X4 cI cJ q0 m0 q1 m1) sz)) 0 0 (va_A (ww_X4_X4 cI cJ q0 m0 q1 m1) sz) :=
  met_of (own := RX4) (Qf := fun A => va_Qv (S := Mem) (fun (u : Mem) => post u) (fun u t => AT (dC, dI) (TY cI cJ) A (ww_X4_X4 cI cJ q0 u q1 m1) t) A) (by decide) rfl (Nat.le_of_ble_eq_true rfl) rfl (fun p e s m below meth c A cx hA ls hP hD hS hl => w_X4_moveFrom_0 cx hA x2 x3 m0 _ _ ls hP hD hS hl h)
theorem mv_X4_moveFrom : MV yX4_moveFrom cX4_moveFrom 7 none 3 := ⟨⟨kw_470, kw_3, by decide +kernel⟩, kw_468, kw_469⟩
set_option maxHeartbeats 4000000 in
set_option maxRecDepth 100000 in
theorem w_X5_isLost_0 {p : Program} {l : Launch} {e : Env} {s : State} {m : MethodId} {args : Array Value} {below : List Frame} {meth : Method} {c : Code} {dC : Nat → ClassId} {dI : Nat → Nat → Nat} {cI cJ : ClassId} {A : Nat → Prop} (cx : CX RX5 cX5_isLost (some .boolean) 2 p s m args meth c (dC, dI) (TY cI cJ)) (hA : ∀ q, s.heap.size ≤ q → A q) {q0 : Nat → Nat} {m0 : Mem} {post : Int32 → Prop} : ∀ (x1 : Int32) (H : Heap) (locs : List Loc) (ls : Array Slot), va_P (dC, dI) vwCl (ww_X5 cI cJ q0 m0) H → va_D A (ww_X5 cI cJ q0 m0) → va_S A s.heap H locs → lv_has ls 2 [(0, .ref (q0 0)), (1, .int x1)] → b_X5_isLost_0 m0 post x1 → W p l e ({ frames := 0, cells := 0, slots := 0, locals := 0 }) s m args below meth c H locs 0 0 (MQ below (va_Qi (S := Unit) (fun (r : Int32) (_u : Unit) => post r) (fun _u t => AT (dC, dI) (TY cI cJ) A (ww_X5 cI cJ q0 m0) t) A) args s 0 0 A) (F0 m 0 ls []) := by
  obtain ⟨hx, hb, hr, hml, hown, hts, hlocks, hK⟩ := id cx
  have cx' : CX RX5 cX5_isLost (meth.sig.returnType) 2 p s m args meth c (dC, dI) (TY cI cJ) := ⟨hx, hb, rfl, hml, hown, hts, hlocks, hK⟩
  intro x1 H locs ls hP hD hS hl h
  unfold b_X5_isLost_0 at h
  refine lv_aload_n hx hb dX5_isLost_0 rfl (lv_at hl 0 rfl) ?_
  refine gf_v (k := 2) (v := .ref (q0 3)) cx' hP 0 i_X5 rfl rfl (by decide) kw_182 rfl rfl dX5_isLost_1 ?_
  refine lv_iload_n hx hb dX5_isLost_4 rfl (lv_at hl 1 rfl) ?_
  refine va_iald hx hb hK hP 3 0 rfl rfl h.1 dX5_isLost_5 ?_
  have h := h.2
  refine lv_iconst (v := (-1)) hx hb dX5_isLost_6 (by decide) ?_
  refine dia_i (ls := ls) (c0 := (m0 3 (Int32.toNatClampNeg x1)) = (-1)) (a := 1) (b := 0) (J := 15) (rest := []) (fun K => ?_) (fun v_2 ev_2 => ?_)
  · refine lv_icmp_ne (tgt := 14) hx hb dX5_isLost_7 (by decide) (fun c_1 => ?_) (fun c_1 => ?_)
    · refine lv_iconst (v := 0) hx hb dX5_isLost_14 (by decide) ?_
      exact K _ (Or.inr ⟨c_1, rfl⟩)
    · refine lv_iconst (v := 1) hx hb dX5_isLost_10 (by decide) ?_
      refine lv_goto (tgt := 15) hx hb dX5_isLost_11 (by decide) ?_
      exact K _ (Or.inl ⟨c_1, rfl⟩)
  have h := h v_2 ev_2
  exact rt_z (v := v_2) (u := ()) cx h.1 hP hD hS h.2 dX5_isLost_15
set_option maxRecDepth 100000 in
theorem c_X5_isLost (l : Launch) {dC : Nat → ClassId} {dI : Nat → Nat → Nat} {cI cJ : ClassId} (sz : Nat) (q0 : Nat → Nat) (m0 : Mem) (x1 : Int32) (post : Int32 → Prop) (h : wp_X5_isLost m0 x1 post) : Met l yX5_isLost (Cond.code yX5_isLost cX5_isLost 2 (some .boolean) :: gt) ({ frames := 0, cells := 0, slots := 0, locals := 0 }) (va_Pc [.ref (q0 0), .int x1] (PRE (dC, dI) (TY cI cJ) (ww_X5 cI cJ q0 m0) sz)) (va_Qi (S := Unit) (fun (r : Int32) (_u : Unit) => post r) (fun _u t => AT (dC, dI) (TY cI cJ) (va_A (ww_X5 cI cJ q0 m0) sz) (ww_X5 cI cJ q0 m0) t) (va_A (ww_X5 cI cJ q0 m0) sz)) 0 0 (va_A (ww_X5 cI cJ q0 m0) sz) :=
  met_of (own := RX5) (Qf := fun A => va_Qi (S := Unit) (fun (r : Int32) (_u : Unit) => post r) (fun _u t => AT (dC, dI) (TY cI cJ) A (ww_X5 cI cJ q0 m0) t) A) (by decide) rfl (Nat.le_of_ble_eq_true rfl) rfl (fun p e s m below meth c A cx hA ls hP hD hS hl => w_X5_isLost_0 cx hA x1 _ _ ls hP hD hS hl h)
theorem mv_X5_isLost : MV yX5_isLost cX5_isLost 2 (some .boolean) 1 := ⟨⟨kw_539, kw_7, by decide +kernel⟩, kw_537, kw_538⟩
set_option maxHeartbeats 4000000 in
set_option maxRecDepth 100000 in
theorem w_X5_start_17 {p : Program} {l : Launch} {e : Env} {s : State} {m : MethodId} {args : Array Value} {below : List Frame} {meth : Method} {c : Code} {dC : Nat → ClassId} {dI : Nat → Nat → Nat} {cI cJ : ClassId} {A : Nat → Prop} (cx : CX RX5 cX5_start none 5 p s m args meth c (dC, dI) (TY cI cJ)) (hA : ∀ q, s.heap.size ≤ q → A q) {q0 : Nat → Nat} {post : Mem → Prop} : ∀ (n : Nat) (x1 : Int32) (x4 : Int32) (m0 : Mem) (H : Heap) (locs : List Loc) (ls : Array Slot), va_P (dC, dI) vwCl (ww_X5 cI cJ q0 m0) H → va_D A (ww_X5 cI cJ q0 m0) → va_S A s.heap H locs → lv_has ls 5 [(0, .ref (q0 0)), (1, .int x1), (4, .int x4)] → b_X5_start_17 post n x1 x4 m0 → W p l e ({ frames := 0, cells := 0, slots := 0, locals := 0 }) s m args below meth c H locs 0 0 (MQ below (va_Qv (S := Mem) (fun (u : Mem) => post u) (fun u t => AT (dC, dI) (TY cI cJ) A (ww_X5 cI cJ q0 u) t) A) args s 0 0 A) (F0 m 17 ls []) := by
  obtain ⟨hx, hb, hr, hml, hown, hts, hlocks, hK⟩ := id cx
  have cx' : CX RX5 cX5_start (meth.sig.returnType) 5 p s m args meth c (dC, dI) (TY cI cJ) := ⟨hx, hb, rfl, hml, hown, hts, hlocks, hK⟩
  intro n
  induction n with
  | zero =>
    intro x1 x4 m0 H locs ls hP hD hS hl h
    exact False.elim h
  | succ n ih =>
    intro x1 x4 m0 H locs ls hP hD hS hl h
    unfold b_X5_start_17 at h
    refine lv_iload hx hb dX5_start_17 (lv_at hl 2 rfl) ?_
    refine lv_bipush (v := 60) hx hb dX5_start_19 (by decide) ?_
    refine lv_icmp_ge (tgt := 43) hx hb dX5_start_21 (by decide) (fun c_1 => ?_) (fun c_1 => ?_)
    · have h := h.1 c_1
      exact rt_v (u := m0) cx hP hD hS h dX5_start_43
    have h := h.2 c_1
    refine lv_aload_n hx hb dX5_start_24 rfl (lv_at hl 0 rfl) ?_
    refine gf_v (k := 0) (v := .ref (q0 1)) cx' hP 0 i_X5 rfl rfl (by decide) kw_179 rfl rfl dX5_start_25 ?_
    refine lv_iload_n hx hb dX5_start_28 rfl (lv_at hl 1 rfl) ?_
    refine lv_bipush (v := 60) hx hb dX5_start_29 (by decide) ?_
    refine lv_imul hx hb dX5_start_31 ?_
    refine lv_iload hx hb dX5_start_32 (lv_at hl 2 rfl) ?_
    refine lv_iadd hx hb dX5_start_34 ?_
    refine lv_iconst (v := 0) hx hb dX5_start_35 (by decide) ?_
    obtain ⟨m0_2, em0_2⟩ : ∃ z : Mem, z = up2 m0 1 (Int32.toNatClampNeg ((x1 * 60) + x4)) 0 := ⟨_, rfl⟩
    have h1 := h.1
    have h := h.2 m0_2 em0_2
    refine st_i hx hb hK hP hD hS 1 0 (ww_X5 cI cJ q0 m0_2) rfl rfl h1 dX5_start_36 (by subst em0_2; rfl) (fun H locs hP hD hS => ?_)
    obtain ⟨x4_3, ex4_3⟩ : ∃ z : Int32, z = x4 + 1 := ⟨_, rfl⟩
    have h := h x4_3 ex4_3
    refine lv_iinc (v := x4_3) (lv' := [(4, .int x4_3), (0, .ref (q0 0)), (1, .int x1)]) hx hb dX5_start_37 hl (k := 2) rfl (by rw [ex4_3]; rfl) (by decide) rfl (fun ls hl => ?_)
    refine lv_goto (tgt := 17) hx hb dX5_start_40 (by decide) ?_
    exact ih x1 x4_3 m0_2 H locs ls hP hD hS (lv_sub hl [1, 2, 0] rfl) h
set_option maxHeartbeats 4000000 in
set_option maxRecDepth 100000 in
theorem w_X5_start_0 {p : Program} {l : Launch} {e : Env} {s : State} {m : MethodId} {args : Array Value} {below : List Frame} {meth : Method} {c : Code} {dC : Nat → ClassId} {dI : Nat → Nat → Nat} {cI cJ : ClassId} {A : Nat → Prop} (cx : CX RX5 cX5_start none 5 p s m args meth c (dC, dI) (TY cI cJ)) (hA : ∀ q, s.heap.size ≤ q → A q) {q0 : Nat → Nat} {post : Mem → Prop} : ∀ (x1 : Int32) (x2 : Int32) (x3 : Int32) (m0 : Mem) (H : Heap) (locs : List Loc) (ls : Array Slot), va_P (dC, dI) vwCl (ww_X5 cI cJ q0 m0) H → va_D A (ww_X5 cI cJ q0 m0) → va_S A s.heap H locs → lv_has ls 5 [(0, .ref (q0 0)), (1, .int x1), (2, .int x2), (3, .int x3)] → b_X5_start_0 post x1 x2 x3 m0 → W p l e ({ frames := 0, cells := 0, slots := 0, locals := 0 }) s m args below meth c H locs 0 0 (MQ below (va_Qv (S := Mem) (fun (u : Mem) => post u) (fun u t => AT (dC, dI) (TY cI cJ) A (ww_X5 cI cJ q0 u) t) A) args s 0 0 A) (F0 m 0 ls []) := by
  obtain ⟨hx, hb, hr, hml, hown, hts, hlocks, hK⟩ := id cx
  have cx' : CX RX5 cX5_start (meth.sig.returnType) 5 p s m args meth c (dC, dI) (TY cI cJ) := ⟨hx, hb, rfl, hml, hown, hts, hlocks, hK⟩
  intro x1 x2 x3 m0 H locs ls hP hD hS hl h
  unfold b_X5_start_0 at h
  refine lv_aload_n hx hb dX5_start_0 rfl (lv_at hl 0 rfl) ?_
  refine gf_v (k := 1) (v := .ref (q0 2)) cx' hP 0 i_X5 rfl rfl (by decide) kw_180 rfl rfl dX5_start_1 ?_
  refine lv_iload_n hx hb dX5_start_4 rfl (lv_at hl 1 rfl) ?_
  refine lv_iload_n hx hb dX5_start_5 rfl (lv_at hl 2 rfl) ?_
  obtain ⟨m0_1, em0_1⟩ : ∃ z : Mem, z = up2 m0 2 (Int32.toNatClampNeg x1) x2 := ⟨_, rfl⟩
  have h1 := h.1
  have h := h.2 m0_1 em0_1
  refine st_i hx hb hK hP hD hS 2 0 (ww_X5 cI cJ q0 m0_1) rfl rfl h1 dX5_start_6 (by subst em0_1; rfl) (fun H locs hP hD hS => ?_)
  refine lv_aload_n hx hb dX5_start_7 rfl (lv_at hl 0 rfl) ?_
  refine gf_v (k := 2) (v := .ref (q0 3)) cx' hP 0 i_X5 rfl rfl (by decide) kw_182 rfl rfl dX5_start_8 ?_
  refine lv_iload_n hx hb dX5_start_11 rfl (lv_at hl 1 rfl) ?_
  refine lv_iload_n hx hb dX5_start_12 rfl (lv_at hl 3 rfl) ?_
  obtain ⟨m0_2, em0_2⟩ : ∃ z : Mem, z = up2 m0_1 3 (Int32.toNatClampNeg x1) x3 := ⟨_, rfl⟩
  have h1 := h.1
  have h := h.2 m0_2 em0_2
  refine st_i hx hb hK hP hD hS 3 0 (ww_X5 cI cJ q0 m0_2) rfl rfl h1 dX5_start_13 (by subst em0_2; rfl) (fun H locs hP hD hS => ?_)
  refine lv_iconst (v := 0) hx hb dX5_start_14 (by decide) ?_
  refine lv_istore (lv' := [(4, .int 0), (0, .ref (q0 0)), (1, .int x1), (2, .int x2), (3, .int x3)]) hx hb dX5_start_15 hl (by decide) rfl (fun ls hl => ?_)
  obtain ⟨n_3, h⟩ := h
  exact w_X5_start_17 cx hA n_3 x1 0 m0_2 H locs ls hP hD hS (lv_sub hl [1, 2, 0] rfl) h
set_option maxRecDepth 100000 in
theorem c_X5_start (l : Launch) {dC : Nat → ClassId} {dI : Nat → Nat → Nat} {cI cJ : ClassId} (sz : Nat) (q0 : Nat → Nat) (m0 : Mem) (x1 : Int32) (x2 : Int32) (x3 : Int32) (post : Mem → Prop) (h : wp_X5_start m0 x1 x2 x3 post) : Met l yX5_start (Cond.code yX5_start cX5_start 5 none :: gt) ({ frames := 0, cells := 0, slots := 0, locals := 0 }) (va_Pc [.ref (q0 0), .int x1, .int x2, .int x3] (PRE (dC, dI) (TY cI cJ) (ww_X5 cI cJ q0 m0) sz)) (va_Qv (S := Mem) (fun (u : Mem) => post u) (fun u t => AT (dC, dI) (TY cI cJ) (va_A (ww_X5 cI cJ q0 m0) sz) (ww_X5 cI cJ q0 u) t) (va_A (ww_X5 cI cJ q0 m0) sz)) 0 0 (va_A (ww_X5 cI cJ q0 m0) sz) :=
  met_of (own := RX5) (Qf := fun A => va_Qv (S := Mem) (fun (u : Mem) => post u) (fun u t => AT (dC, dI) (TY cI cJ) A (ww_X5 cI cJ q0 u) t) A) (by decide) rfl (Nat.le_of_ble_eq_true rfl) rfl (fun p e s m below meth c A cx hA ls hP hD hS hl => w_X5_start_0 cx hA x1 x2 x3 m0 _ _ ls hP hD hS hl h)
theorem mv_X5_start : MV yX5_start cX5_start 5 none 3 := ⟨⟨kw_616, kw_7, by decide +kernel⟩, kw_614, kw_615⟩
set_option maxHeartbeats 4000000 in
set_option maxRecDepth 100000 in
theorem w_X5_item_0 {p : Program} {l : Launch} {e : Env} {s : State} {m : MethodId} {args : Array Value} {below : List Frame} {meth : Method} {c : Code} {dC : Nat → ClassId} {dI : Nat → Nat → Nat} {cI cJ : ClassId} {A : Nat → Prop} (cx : CX RX5 cX5_item (some .int) 3 p s m args meth c (dC, dI) (TY cI cJ)) (hA : ∀ q, s.heap.size ≤ q → A q) {q0 : Nat → Nat} {m0 : Mem} {post : Int32 → Prop} : ∀ (x1 : Int32) (x2 : Int32) (H : Heap) (locs : List Loc) (ls : Array Slot), va_P (dC, dI) vwCl (ww_X5 cI cJ q0 m0) H → va_D A (ww_X5 cI cJ q0 m0) → va_S A s.heap H locs → lv_has ls 3 [(0, .ref (q0 0)), (1, .int x1), (2, .int x2)] → b_X5_item_0 m0 post x1 x2 → W p l e ({ frames := 0, cells := 0, slots := 0, locals := 0 }) s m args below meth c H locs 0 0 (MQ below (va_Qi (S := Unit) (fun (r : Int32) (_u : Unit) => post r) (fun _u t => AT (dC, dI) (TY cI cJ) A (ww_X5 cI cJ q0 m0) t) A) args s 0 0 A) (F0 m 0 ls []) := by
  obtain ⟨hx, hb, hr, hml, hown, hts, hlocks, hK⟩ := id cx
  have cx' : CX RX5 cX5_item (meth.sig.returnType) 3 p s m args meth c (dC, dI) (TY cI cJ) := ⟨hx, hb, rfl, hml, hown, hts, hlocks, hK⟩
  intro x1 x2 H locs ls hP hD hS hl h
  unfold b_X5_item_0 at h
  refine lv_aload_n hx hb dX5_item_0 rfl (lv_at hl 0 rfl) ?_
  refine gf_v (k := 0) (v := .ref (q0 1)) cx' hP 0 i_X5 rfl rfl (by decide) kw_179 rfl rfl dX5_item_1 ?_
  refine lv_iload_n hx hb dX5_item_4 rfl (lv_at hl 1 rfl) ?_
  refine lv_bipush (v := 60) hx hb dX5_item_5 (by decide) ?_
  refine lv_imul hx hb dX5_item_7 ?_
  refine lv_iload_n hx hb dX5_item_8 rfl (lv_at hl 2 rfl) ?_
  refine lv_iadd hx hb dX5_item_9 ?_
  refine va_iald hx hb hK hP 1 0 rfl rfl h.1 dX5_item_10 ?_
  have h := h.2
  exact rt_i (v := m0 1 (Int32.toNatClampNeg ((x1 * 60) + x2))) (u := ()) cx hP hD hS h dX5_item_11
set_option maxRecDepth 100000 in
theorem c_X5_item (l : Launch) {dC : Nat → ClassId} {dI : Nat → Nat → Nat} {cI cJ : ClassId} (sz : Nat) (q0 : Nat → Nat) (m0 : Mem) (x1 : Int32) (x2 : Int32) (post : Int32 → Prop) (h : wp_X5_item m0 x1 x2 post) : Met l yX5_item (Cond.code yX5_item cX5_item 3 (some .int) :: gt) ({ frames := 0, cells := 0, slots := 0, locals := 0 }) (va_Pc [.ref (q0 0), .int x1, .int x2] (PRE (dC, dI) (TY cI cJ) (ww_X5 cI cJ q0 m0) sz)) (va_Qi (S := Unit) (fun (r : Int32) (_u : Unit) => post r) (fun _u t => AT (dC, dI) (TY cI cJ) (va_A (ww_X5 cI cJ q0 m0) sz) (ww_X5 cI cJ q0 m0) t) (va_A (ww_X5 cI cJ q0 m0) sz)) 0 0 (va_A (ww_X5 cI cJ q0 m0) sz) :=
  met_of (own := RX5) (Qf := fun A => va_Qi (S := Unit) (fun (r : Int32) (_u : Unit) => post r) (fun _u t => AT (dC, dI) (TY cI cJ) A (ww_X5 cI cJ q0 m0) t) A) (by decide) rfl (Nat.le_of_ble_eq_true rfl) rfl (fun p e s m below meth c A cx hA ls hP hD hS hl => w_X5_item_0 cx hA x1 x2 _ _ ls hP hD hS hl h)
theorem mv_X5_item : MV yX5_item cX5_item 3 (some .int) 2 := ⟨⟨kw_547, kw_7, by decide +kernel⟩, kw_545, kw_546⟩
set_option maxHeartbeats 4000000 in
set_option maxRecDepth 100000 in
theorem w_X5_put_33 {p : Program} {l : Launch} {e : Env} {s : State} {m : MethodId} {args : Array Value} {below : List Frame} {meth : Method} {c : Code} {dC : Nat → ClassId} {dI : Nat → Nat → Nat} {cI cJ : ClassId} {A : Nat → Prop} (cx : CX RX5 cX5_put none 5 p s m args meth c (dC, dI) (TY cI cJ)) (hA : ∀ q, s.heap.size ≤ q → A q) {q0 : Nat → Nat} {post : Mem → Prop} : ∀ (x1 : Int32) (x2 : Int32) (x4 : Int32) (m0 : Mem) (H : Heap) (locs : List Loc) (ls : Array Slot), va_P (dC, dI) vwCl (ww_X5 cI cJ q0 m0) H → va_D A (ww_X5 cI cJ q0 m0) → va_S A s.heap H locs → lv_has ls 5 [(0, .ref (q0 0)), (1, .int x1), (2, .int x2), (4, .int x4)] → b_X5_put_33 post x1 x2 x4 m0 → W p l e ({ frames := 0, cells := 0, slots := 0, locals := 0 }) s m args below meth c H locs 0 0 (MQ below (va_Qv (S := Mem) (fun (u : Mem) => post u) (fun u t => AT (dC, dI) (TY cI cJ) A (ww_X5 cI cJ q0 u) t) A) args s 0 0 A) (F0 m 33 ls []) := by
  obtain ⟨hx, hb, hr, hml, hown, hts, hlocks, hK⟩ := id cx
  have cx' : CX RX5 cX5_put (meth.sig.returnType) 5 p s m args meth c (dC, dI) (TY cI cJ) := ⟨hx, hb, rfl, hml, hown, hts, hlocks, hK⟩
  intro x1 x2 x4 m0 H locs ls hP hD hS hl h
  unfold b_X5_put_33 at h
  refine lv_aload_n hx hb dX5_put_33 rfl (lv_at hl 0 rfl) ?_
  refine gf_v (k := 0) (v := .ref (q0 1)) cx' hP 0 i_X5 rfl rfl (by decide) kw_179 rfl rfl dX5_put_34 ?_
  refine lv_iload_n hx hb dX5_put_37 rfl (lv_at hl 1 rfl) ?_
  refine lv_bipush (v := 60) hx hb dX5_put_38 (by decide) ?_
  refine lv_imul hx hb dX5_put_40 ?_
  refine lv_iload_n hx hb dX5_put_41 rfl (lv_at hl 2 rfl) ?_
  refine lv_iadd hx hb dX5_put_42 ?_
  refine lv_iload hx hb dX5_put_43 (lv_at hl 3 rfl) ?_
  obtain ⟨m0_1, em0_1⟩ : ∃ z : Mem, z = up2 m0 1 (Int32.toNatClampNeg ((x1 * 60) + x2)) x4 := ⟨_, rfl⟩
  have h1 := h.1
  have h := h.2 m0_1 em0_1
  refine st_i hx hb hK hP hD hS 1 0 (ww_X5 cI cJ q0 m0_1) rfl rfl h1 dX5_put_45 (by subst em0_1; rfl) (fun H locs hP hD hS => ?_)
  exact rt_v (u := m0_1) cx hP hD hS h dX5_put_46
set_option maxHeartbeats 4000000 in
set_option maxRecDepth 100000 in
theorem w_X5_put_0 {p : Program} {l : Launch} {e : Env} {s : State} {m : MethodId} {args : Array Value} {below : List Frame} {meth : Method} {c : Code} {dC : Nat → ClassId} {dI : Nat → Nat → Nat} {cI cJ : ClassId} {A : Nat → Prop} (cx : CX RX5 cX5_put none 5 p s m args meth c (dC, dI) (TY cI cJ)) (hA : ∀ q, s.heap.size ≤ q → A q) {q0 : Nat → Nat} {post : Mem → Prop} : ∀ (x1 : Int32) (x2 : Int32) (x3 : Int32) (m0 : Mem) (H : Heap) (locs : List Loc) (ls : Array Slot), va_P (dC, dI) vwCl (ww_X5 cI cJ q0 m0) H → va_D A (ww_X5 cI cJ q0 m0) → va_S A s.heap H locs → lv_has ls 5 [(0, .ref (q0 0)), (1, .int x1), (2, .int x2), (3, .int x3)] → b_X5_put_0 post x1 x2 x3 m0 → W p l e ({ frames := 0, cells := 0, slots := 0, locals := 0 }) s m args below meth c H locs 0 0 (MQ below (va_Qv (S := Mem) (fun (u : Mem) => post u) (fun u t => AT (dC, dI) (TY cI cJ) A (ww_X5 cI cJ q0 u) t) A) args s 0 0 A) (F0 m 0 ls []) := by
  obtain ⟨hx, hb, hr, hml, hown, hts, hlocks, hK⟩ := id cx
  have cx' : CX RX5 cX5_put (meth.sig.returnType) 5 p s m args meth c (dC, dI) (TY cI cJ) := ⟨hx, hb, rfl, hml, hown, hts, hlocks, hK⟩
  intro x1 x2 x3 m0 H locs ls hP hD hS hl h
  unfold b_X5_put_0 at h
  refine lv_iload_n hx hb dX5_put_0 rfl (lv_at hl 3 rfl) ?_
  refine lv_istore (lv' := [(4, .int x3), (0, .ref (q0 0)), (1, .int x1), (2, .int x2), (3, .int x3)]) hx hb dX5_put_1 hl (by decide) rfl (fun ls hl => ?_)
  refine lv_aload_n hx hb dX5_put_3 rfl (lv_at hl 1 rfl) ?_
  refine gf_v (k := 1) (v := .ref (q0 2)) cx' hP 0 i_X5 rfl rfl (by decide) kw_180 rfl rfl dX5_put_4 ?_
  refine lv_iload_n hx hb dX5_put_7 rfl (lv_at hl 2 rfl) ?_
  refine va_iald hx hb hK hP 2 0 rfl rfl h.1 dX5_put_8 ?_
  have h := h.2
  refine lv_if_ne (tgt := 19) hx hb dX5_put_9 (by decide) (fun c_1 => ?_) (fun c_1 => ?_)
  · have h := h.1 c_1
    refine lv_aload_n hx hb dX5_put_19 rfl (lv_at hl 1 rfl) ?_
    refine gf_v (k := 1) (v := .ref (q0 2)) cx' hP 0 i_X5 rfl rfl (by decide) kw_180 rfl rfl dX5_put_20 ?_
    refine lv_iload_n hx hb dX5_put_23 rfl (lv_at hl 2 rfl) ?_
    refine va_iald hx hb hK hP 2 0 rfl rfl h.1 dX5_put_24 ?_
    have h := h.2
    refine lv_iconst (v := 1) hx hb dX5_put_25 (by decide) ?_
    refine lv_icmp_ne (tgt := 33) hx hb dX5_put_26 (by decide) (fun c_2 => ?_) (fun c_2 => ?_)
    · have h := h.1 c_2
      exact w_X5_put_33 cx hA x1 x2 x3 m0 H locs ls hP hD hS (lv_sub hl [1, 2, 3, 0] rfl) h
    have h := h.2 c_2
    refine lv_iload_n hx hb dX5_put_29 rfl (lv_at hl 4 rfl) ?_
    refine lv_i2s (v := i2sv x3) hx hb dX5_put_30 rfl ?_
    refine lv_topi (fun x4_3 ex4_3 => ?_)
    have h := h x4_3 ex4_3
    refine lv_istore (lv' := [(4, .int x4_3), (0, .ref (q0 0)), (1, .int x1), (2, .int x2), (3, .int x3)]) hx hb dX5_put_31 hl (by decide) rfl (fun ls hl => ?_)
    exact w_X5_put_33 cx hA x1 x2 x4_3 m0 H locs ls hP hD hS (lv_sub hl [1, 2, 3, 0] rfl) h
  have h := h.2 c_1
  refine lv_iload_n hx hb dX5_put_12 rfl (lv_at hl 4 rfl) ?_
  refine lv_i2b (v := i2bv x3) hx hb dX5_put_13 rfl ?_
  refine lv_topi (fun x4_4 ex4_4 => ?_)
  have h := h x4_4 ex4_4
  refine lv_istore (lv' := [(4, .int x4_4), (0, .ref (q0 0)), (1, .int x1), (2, .int x2), (3, .int x3)]) hx hb dX5_put_14 hl (by decide) rfl (fun ls hl => ?_)
  refine lv_goto (tgt := 33) hx hb dX5_put_16 (by decide) ?_
  exact w_X5_put_33 cx hA x1 x2 x4_4 m0 H locs ls hP hD hS (lv_sub hl [1, 2, 3, 0] rfl) h
set_option maxRecDepth 100000 in
theorem c_X5_put (l : Launch) {dC : Nat → ClassId} {dI : Nat → Nat → Nat} {cI cJ : ClassId} (sz : Nat) (q0 : Nat → Nat) (m0 : Mem) (x1 : Int32) (x2 : Int32) (x3 : Int32) (post : Mem → Prop) (h : wp_X5_put m0 x1 x2 x3 post) : Met l yX5_put (Cond.code yX5_put cX5_put 5 none :: gt) ({ frames := 0, cells := 0, slots := 0, locals := 0 }) (va_Pc [.ref (q0 0), .int x1, .int x2, .int x3] (PRE (dC, dI) (TY cI cJ) (ww_X5 cI cJ q0 m0) sz)) (va_Qv (S := Mem) (fun (u : Mem) => post u) (fun u t => AT (dC, dI) (TY cI cJ) (va_A (ww_X5 cI cJ q0 m0) sz) (ww_X5 cI cJ q0 u) t) (va_A (ww_X5 cI cJ q0 m0) sz)) 0 0 (va_A (ww_X5 cI cJ q0 m0) sz) :=
  met_of (own := RX5) (Qf := fun A => va_Qv (S := Mem) (fun (u : Mem) => post u) (fun u t => AT (dC, dI) (TY cI cJ) A (ww_X5 cI cJ q0 u) t) A) (by decide) rfl (Nat.le_of_ble_eq_true rfl) rfl (fun p e s m below meth c A cx hA ls hP hD hS hl => w_X5_put_0 cx hA x1 x2 x3 m0 _ _ ls hP hD hS hl h)
theorem mv_X5_put : MV yX5_put cX5_put 5 none 3 := ⟨⟨kw_632, kw_7, by decide +kernel⟩, kw_630, kw_631⟩
set_option maxHeartbeats 4000000 in
set_option maxRecDepth 100000 in
theorem w_X5_has_0 {p : Program} {l : Launch} {e : Env} {s : State} {m : MethodId} {args : Array Value} {below : List Frame} {meth : Method} {c : Code} {dC : Nat → ClassId} {dI : Nat → Nat → Nat} {cI cJ : ClassId} {A : Nat → Prop} (cx : CX RX5 cX5_has (some .boolean) 4 p s m args meth c (dC, dI) (TY cI cJ)) (hA : ∀ q, s.heap.size ≤ q → A q) {q0 : Nat → Nat} {m0 : Mem} {post : Int32 → Prop} : ∀ (x1 : Int32) (x2 : Int32) (x3 : Int32) (H : Heap) (locs : List Loc) (ls : Array Slot), va_P (dC, dI) vwCl (ww_X5 cI cJ q0 m0) H → va_D A (ww_X5 cI cJ q0 m0) → va_S A s.heap H locs → lv_has ls 4 [(0, .ref (q0 0)), (1, .int x1), (2, .int x2), (3, .int x3)] → b_X5_has_0 m0 post x1 x2 x3 → W p l e ({ frames := 0, cells := 0, slots := 0, locals := 0 }) s m args below meth c H locs 0 0 (MQ below (va_Qi (S := Unit) (fun (r : Int32) (_u : Unit) => post r) (fun _u t => AT (dC, dI) (TY cI cJ) A (ww_X5 cI cJ q0 m0) t) A) args s 0 0 A) (F0 m 0 ls []) := by
  obtain ⟨hx, hb, hr, hml, hown, hts, hlocks, hK⟩ := id cx
  have cx' : CX RX5 cX5_has (meth.sig.returnType) 4 p s m args meth c (dC, dI) (TY cI cJ) := ⟨hx, hb, rfl, hml, hown, hts, hlocks, hK⟩
  intro x1 x2 x3 H locs ls hP hD hS hl h
  unfold b_X5_has_0 at h
  refine lv_iload_n hx hb dX5_has_0 rfl (lv_at hl 2 rfl) ?_
  refine lv_if_lt (tgt := 34) hx hb dX5_has_1 (by decide) (fun c_1 => ?_) (fun c_1 => ?_)
  · have h := h.1 c_1
    refine lv_iconst (v := 0) hx hb dX5_has_34 (by decide) ?_
    exact rt_z (v := 0) (u := ()) cx (Or.inl rfl) hP hD hS h dX5_has_35
  have h := h.2 c_1
  refine lv_iload_n hx hb dX5_has_4 rfl (lv_at hl 3 rfl) ?_
  refine lv_if_lt (tgt := 34) hx hb dX5_has_5 (by decide) (fun c_2 => ?_) (fun c_2 => ?_)
  · have h := h.1 c_2
    refine lv_iconst (v := 0) hx hb dX5_has_34 (by decide) ?_
    exact rt_z (v := 0) (u := ()) cx (Or.inl rfl) hP hD hS h dX5_has_35
  have h := h.2 c_2
  refine lv_iload_n hx hb dX5_has_8 rfl (lv_at hl 2 rfl) ?_
  refine lv_aload_n hx hb dX5_has_9 rfl (lv_at hl 0 rfl) ?_
  refine gf_v (k := 2) (v := .ref (q0 3)) cx' hP 0 i_X5 rfl rfl (by decide) kw_182 rfl rfl dX5_has_10 ?_
  refine lv_iload_n hx hb dX5_has_13 rfl (lv_at hl 1 rfl) ?_
  refine va_iald hx hb hK hP 3 0 rfl rfl h.1 dX5_has_14 ?_
  have h := h.2
  refine lv_icmp_gt (tgt := 34) hx hb dX5_has_15 (by decide) (fun c_3 => ?_) (fun c_3 => ?_)
  · have h := h.1 c_3
    refine lv_iconst (v := 0) hx hb dX5_has_34 (by decide) ?_
    exact rt_z (v := 0) (u := ()) cx (Or.inl rfl) hP hD hS h dX5_has_35
  have h := h.2 c_3
  refine lv_iload_n hx hb dX5_has_18 rfl (lv_at hl 3 rfl) ?_
  refine lv_aload_n hx hb dX5_has_19 rfl (lv_at hl 0 rfl) ?_
  refine gf_v (k := 2) (v := .ref (q0 3)) cx' hP 0 i_X5 rfl rfl (by decide) kw_182 rfl rfl dX5_has_20 ?_
  refine lv_iload_n hx hb dX5_has_23 rfl (lv_at hl 1 rfl) ?_
  refine va_iald hx hb hK hP 3 0 rfl rfl h.1 dX5_has_24 ?_
  have h := h.2
  refine lv_iload_n hx hb dX5_has_25 rfl (lv_at hl 2 rfl) ?_
  refine lv_isub hx hb dX5_has_26 ?_
  refine lv_icmp_gt (tgt := 34) hx hb dX5_has_27 (by decide) (fun c_4 => ?_) (fun c_4 => ?_)
  · have h := h.1 c_4
    refine lv_iconst (v := 0) hx hb dX5_has_34 (by decide) ?_
    exact rt_z (v := 0) (u := ()) cx (Or.inl rfl) hP hD hS h dX5_has_35
  have h := h.2 c_4
  refine lv_iconst (v := 1) hx hb dX5_has_30 (by decide) ?_
  refine lv_goto (tgt := 35) hx hb dX5_has_31 (by decide) ?_
  exact rt_z (v := 1) (u := ()) cx (Or.inr rfl) hP hD hS h dX5_has_35
set_option maxRecDepth 100000 in
theorem c_X5_has (l : Launch) {dC : Nat → ClassId} {dI : Nat → Nat → Nat} {cI cJ : ClassId} (sz : Nat) (q0 : Nat → Nat) (m0 : Mem) (x1 : Int32) (x2 : Int32) (x3 : Int32) (post : Int32 → Prop) (h : wp_X5_has m0 x1 x2 x3 post) : Met l yX5_has (Cond.code yX5_has cX5_has 4 (some .boolean) :: gt) ({ frames := 0, cells := 0, slots := 0, locals := 0 }) (va_Pc [.ref (q0 0), .int x1, .int x2, .int x3] (PRE (dC, dI) (TY cI cJ) (ww_X5 cI cJ q0 m0) sz)) (va_Qi (S := Unit) (fun (r : Int32) (_u : Unit) => post r) (fun _u t => AT (dC, dI) (TY cI cJ) (va_A (ww_X5 cI cJ q0 m0) sz) (ww_X5 cI cJ q0 m0) t) (va_A (ww_X5 cI cJ q0 m0) sz)) 0 0 (va_A (ww_X5 cI cJ q0 m0) sz) :=
  met_of (own := RX5) (Qf := fun A => va_Qi (S := Unit) (fun (r : Int32) (_u : Unit) => post r) (fun _u t => AT (dC, dI) (TY cI cJ) A (ww_X5 cI cJ q0 m0) t) A) (by decide) rfl (Nat.le_of_ble_eq_true rfl) rfl (fun p e s m below meth c A cx hA ls hP hD hS hl => w_X5_has_0 cx hA x1 x2 x3 _ _ ls hP hD hS hl h)
theorem mv_X5_has : MV yX5_has cX5_has 4 (some .boolean) 3 := ⟨⟨kw_645, kw_7, by decide +kernel⟩, kw_643, kw_644⟩
set_option maxHeartbeats 4000000 in
set_option maxRecDepth 100000 in
theorem w_X5_move_0 {p : Program} {l : Launch} {e : Env} {s : State} {m : MethodId} {args : Array Value} {below : List Frame} {meth : Method} {c : Code} {dC : Nat → ClassId} {dI : Nat → Nat → Nat} {cI cJ : ClassId} {A : Nat → Prop} (cx : CX RX5 cX5_move none 6 p s m args meth c (dC, dI) (TY cI cJ)) (hA : ∀ q, s.heap.size ≤ q → A q) {q0 : Nat → Nat} {post : Mem → Prop} : ∀ (x1 : Int32) (x2 : Int32) (x3 : Int32) (x4 : Int32) (x5 : Int32) (m0 : Mem) (H : Heap) (locs : List Loc) (ls : Array Slot), va_P (dC, dI) vwCl (ww_X5 cI cJ q0 m0) H → va_D A (ww_X5 cI cJ q0 m0) → va_S A s.heap H locs → lv_has ls 6 [(0, .ref (q0 0)), (1, .int x1), (2, .int x2), (3, .int x3), (4, .int x4), (5, .int x5)] → b_X5_move_0 post x1 x2 x3 x4 x5 m0 → W p l e ({ frames := 1, cells := 0, slots := 0, locals := 40 }) s m args below meth c H locs 0 0 (MQ below (va_Qv (S := Mem) (fun (u : Mem) => post u) (fun u t => AT (dC, dI) (TY cI cJ) A (ww_X5 cI cJ q0 u) t) A) args s 0 0 A) (F0 m 0 ls []) := by
  obtain ⟨hx, hb, hr, hml, hown, hts, hlocks, hK⟩ := id cx
  have cx' : CX RX5 cX5_move (meth.sig.returnType) 6 p s m args meth c (dC, dI) (TY cI cJ) := ⟨hx, hb, rfl, hml, hown, hts, hlocks, hK⟩
  intro x1 x2 x3 x4 x5 m0 H locs ls hP hD hS hl h
  unfold b_X5_move_0 at h
  refine lv_aload_n hx hb dX5_move_0 rfl (lv_at hl 0 rfl) ?_
  refine gf_v (k := 0) (v := .ref (q0 1)) cx' hP 0 i_X5 rfl rfl (by decide) kw_179 rfl rfl dX5_move_1 ?_
  refine lv_iload_n hx hb dX5_move_4 rfl (lv_at hl 1 rfl) ?_
  refine lv_bipush (v := 60) hx hb dX5_move_5 (by decide) ?_
  refine lv_imul hx hb dX5_move_7 ?_
  refine lv_iload_n hx hb dX5_move_8 rfl (lv_at hl 2 rfl) ?_
  refine lv_iadd hx hb dX5_move_9 ?_
  refine lv_aload_n hx hb dX5_move_10 rfl (lv_at hl 0 rfl) ?_
  refine gf_v (k := 0) (v := .ref (q0 1)) cx' hP 0 i_X5 rfl rfl (by decide) kw_179 rfl rfl dX5_move_11 ?_
  refine lv_iload_n hx hb dX5_move_14 rfl (lv_at hl 3 rfl) ?_
  refine lv_bipush (v := 60) hx hb dX5_move_15 (by decide) ?_
  refine lv_imul hx hb dX5_move_17 ?_
  refine lv_iload hx hb dX5_move_18 (lv_at hl 4 rfl) ?_
  refine lv_iadd hx hb dX5_move_20 ?_
  refine lv_iload hx hb dX5_move_21 (lv_at hl 5 rfl) ?_
  obtain ⟨m0_1, em0_1⟩ : ∃ z : Mem, z = cpy2 m0 1 (Int32.toNatClampNeg ((x1 * 60) + x2)) (Int32.toNatClampNeg ((x3 * 60) + x4)) (Int32.toNatClampNeg x5) := ⟨_, rfl⟩
  have h1 := h.1
  have h := h.2 m0_1 em0_1
  refine cp_i cx' hl.1 hP hD hS 1 0 (ww_X5 cI cJ q0 m0_1) rfl rfl kw_650 kw_652 kw_651 kw_14 h1 (Nat.le_of_ble_eq_true rfl) (Nat.le_of_ble_eq_true rfl) dX5_move_23 (by subst em0_1; rfl) (fun H locs hP hD hS => ?_)
  exact rt_v (u := m0_1) cx hP hD hS h dX5_move_26
set_option maxRecDepth 100000 in
theorem c_X5_move (l : Launch) {dC : Nat → ClassId} {dI : Nat → Nat → Nat} {cI cJ : ClassId} (sz : Nat) (q0 : Nat → Nat) (m0 : Mem) (x1 : Int32) (x2 : Int32) (x3 : Int32) (x4 : Int32) (x5 : Int32) (post : Mem → Prop) (h : wp_X5_move m0 x1 x2 x3 x4 x5 post) : Met l yX5_move (Cond.code yX5_move cX5_move 6 none :: gt) ({ frames := 1, cells := 0, slots := 0, locals := 40 }) (va_Pc [.ref (q0 0), .int x1, .int x2, .int x3, .int x4, .int x5] (PRE (dC, dI) (TY cI cJ) (ww_X5 cI cJ q0 m0) sz)) (va_Qv (S := Mem) (fun (u : Mem) => post u) (fun u t => AT (dC, dI) (TY cI cJ) (va_A (ww_X5 cI cJ q0 m0) sz) (ww_X5 cI cJ q0 u) t) (va_A (ww_X5 cI cJ q0 m0) sz)) 0 0 (va_A (ww_X5 cI cJ q0 m0) sz) :=
  met_of (own := RX5) (Qf := fun A => va_Qv (S := Mem) (fun (u : Mem) => post u) (fun u t => AT (dC, dI) (TY cI cJ) A (ww_X5 cI cJ q0 u) t) A) (by decide) rfl (Nat.le_of_ble_eq_true rfl) rfl (fun p e s m below meth c A cx hA ls hP hD hS hl => w_X5_move_0 cx hA x1 x2 x3 x4 x5 m0 _ _ ls hP hD hS hl h)
theorem mv_X5_move : MV yX5_move cX5_move 6 none 5 := ⟨⟨kw_649, kw_7, by decide +kernel⟩, kw_647, kw_648⟩
set_option maxHeartbeats 4000000 in
set_option maxRecDepth 100000 in
theorem w_X6_allows_0 {p : Program} {l : Launch} {e : Env} {s : State} {m : MethodId} {args : Array Value} {below : List Frame} {meth : Method} {c : Code} {dC : Nat → ClassId} {dI : Nat → Nat → Nat} {cI cJ : ClassId} {A : Nat → Prop} (cx : CX RX6 cX6_allows (some .boolean) 3 p s m args meth c (dC, dI) (TY cI cJ)) (hA : ∀ q, s.heap.size ≤ q → A q) {q0 : Nat → Nat} {m0 : Mem} {post : Int32 → Prop} : ∀ (x1 : Int32) (x2 : Int32) (H : Heap) (locs : List Loc) (ls : Array Slot), va_P (dC, dI) vwCl (ww_X6 cI cJ q0 m0) H → va_D A (ww_X6 cI cJ q0 m0) → va_S A s.heap H locs → lv_has ls 3 [(0, .ref (q0 0)), (1, .int x1), (2, .int x2)] → b_X6_allows_0 m0 post x1 x2 → W p l e ({ frames := 0, cells := 0, slots := 0, locals := 0 }) s m args below meth c H locs 0 0 (MQ below (va_Qi (S := Unit) (fun (r : Int32) (_u : Unit) => post r) (fun _u t => AT (dC, dI) (TY cI cJ) A (ww_X6 cI cJ q0 m0) t) A) args s 0 0 A) (F0 m 0 ls []) := by
  obtain ⟨hx, hb, hr, hml, hown, hts, hlocks, hK⟩ := id cx
  have cx' : CX RX6 cX6_allows (meth.sig.returnType) 3 p s m args meth c (dC, dI) (TY cI cJ) := ⟨hx, hb, rfl, hml, hown, hts, hlocks, hK⟩
  intro x1 x2 H locs ls hP hD hS hl h
  unfold b_X6_allows_0 at h
  refine lv_iload_n hx hb dX6_allows_0 rfl (lv_at hl 1 rfl) ?_
  refine lv_if_lt (tgt := 25) hx hb dX6_allows_1 (by decide) (fun c_1 => ?_) (fun c_1 => ?_)
  · have h := h.1 c_1
    refine lv_iconst (v := 0) hx hb dX6_allows_25 (by decide) ?_
    exact rt_z (v := 0) (u := ()) cx (Or.inl rfl) hP hD hS h dX6_allows_26
  have h := h.2 c_1
  refine lv_iload_n hx hb dX6_allows_4 rfl (lv_at hl 1 rfl) ?_
  refine lv_bipush (v := 8) hx hb dX6_allows_5 (by decide) ?_
  refine lv_icmp_ge (tgt := 25) hx hb dX6_allows_7 (by decide) (fun c_2 => ?_) (fun c_2 => ?_)
  · have h := h.1 c_2
    refine lv_iconst (v := 0) hx hb dX6_allows_25 (by decide) ?_
    exact rt_z (v := 0) (u := ()) cx (Or.inl rfl) hP hD hS h dX6_allows_26
  have h := h.2 c_2
  refine lv_iload_n hx hb dX6_allows_10 rfl (lv_at hl 2 rfl) ?_
  refine lv_if_lt (tgt := 25) hx hb dX6_allows_11 (by decide) (fun c_3 => ?_) (fun c_3 => ?_)
  · have h := h.1 c_3
    refine lv_iconst (v := 0) hx hb dX6_allows_25 (by decide) ?_
    exact rt_z (v := 0) (u := ()) cx (Or.inl rfl) hP hD hS h dX6_allows_26
  have h := h.2 c_3
  refine lv_iload_n hx hb dX6_allows_14 rfl (lv_at hl 2 rfl) ?_
  refine lv_sipush (v := 999) hx hb dX6_allows_15 (by decide) ?_
  refine lv_icmp_gt (tgt := 25) hx hb dX6_allows_18 (by decide) (fun c_4 => ?_) (fun c_4 => ?_)
  · have h := h.1 c_4
    refine lv_iconst (v := 0) hx hb dX6_allows_25 (by decide) ?_
    exact rt_z (v := 0) (u := ()) cx (Or.inl rfl) hP hD hS h dX6_allows_26
  have h := h.2 c_4
  refine lv_iconst (v := 1) hx hb dX6_allows_21 (by decide) ?_
  refine lv_goto (tgt := 26) hx hb dX6_allows_22 (by decide) ?_
  exact rt_z (v := 1) (u := ()) cx (Or.inr rfl) hP hD hS h dX6_allows_26
set_option maxRecDepth 100000 in
theorem c_X6_allows (l : Launch) {dC : Nat → ClassId} {dI : Nat → Nat → Nat} {cI cJ : ClassId} (sz : Nat) (q0 : Nat → Nat) (m0 : Mem) (x1 : Int32) (x2 : Int32) (post : Int32 → Prop) (h : wp_X6_allows m0 x1 x2 post) : Met l yX6_allows (Cond.code yX6_allows cX6_allows 3 (some .boolean) :: gt) ({ frames := 0, cells := 0, slots := 0, locals := 0 }) (va_Pc [.ref (q0 0), .int x1, .int x2] (PRE (dC, dI) (TY cI cJ) (ww_X6 cI cJ q0 m0) sz)) (va_Qi (S := Unit) (fun (r : Int32) (_u : Unit) => post r) (fun _u t => AT (dC, dI) (TY cI cJ) (va_A (ww_X6 cI cJ q0 m0) sz) (ww_X6 cI cJ q0 m0) t) (va_A (ww_X6 cI cJ q0 m0) sz)) 0 0 (va_A (ww_X6 cI cJ q0 m0) sz) :=
  met_of (own := RX6) (Qf := fun A => va_Qi (S := Unit) (fun (r : Int32) (_u : Unit) => post r) (fun _u t => AT (dC, dI) (TY cI cJ) A (ww_X6 cI cJ q0 m0) t) A) (by decide) rfl (Nat.le_of_ble_eq_true rfl) rfl (fun p e s m below meth c A cx hA ls hP hD hS hl => w_X6_allows_0 cx hA x1 x2 _ _ ls hP hD hS hl h)
theorem mv_X6_allows : MV yX6_allows cX6_allows 3 (some .boolean) 2 := ⟨⟨kw_520, kw_6, by decide +kernel⟩, kw_518, kw_519⟩
set_option maxHeartbeats 4000000 in
set_option maxRecDepth 100000 in
theorem w_X6_add_0 {p : Program} {l : Launch} {e : Env} {s : State} {m : MethodId} {args : Array Value} {below : List Frame} {meth : Method} {c : Code} {dC : Nat → ClassId} {dI : Nat → Nat → Nat} {cI cJ : ClassId} {A : Nat → Prop} (cx : CX RX6 cX6_add none 3 p s m args meth c (dC, dI) (TY cI cJ)) (hA : ∀ q, s.heap.size ≤ q → A q) {q0 : Nat → Nat} {post : Mem → Prop} : ∀ (x1 : Int32) (x2 : Int32) (m0 : Mem) (H : Heap) (locs : List Loc) (ls : Array Slot), va_P (dC, dI) vwCl (ww_X6 cI cJ q0 m0) H → va_D A (ww_X6 cI cJ q0 m0) → va_S A s.heap H locs → lv_has ls 3 [(0, .ref (q0 0)), (1, .int x1), (2, .int x2)] → b_X6_add_0 post x1 x2 m0 → W p l e ({ frames := 0, cells := 0, slots := 0, locals := 0 }) s m args below meth c H locs 0 0 (MQ below (va_Qv (S := Mem) (fun (u : Mem) => post u) (fun u t => AT (dC, dI) (TY cI cJ) A (ww_X6 cI cJ q0 u) t) A) args s 0 0 A) (F0 m 0 ls []) := by
  obtain ⟨hx, hb, hr, hml, hown, hts, hlocks, hK⟩ := id cx
  have cx' : CX RX6 cX6_add (meth.sig.returnType) 3 p s m args meth c (dC, dI) (TY cI cJ) := ⟨hx, hb, rfl, hml, hown, hts, hlocks, hK⟩
  intro x1 x2 m0 H locs ls hP hD hS hl h
  unfold b_X6_add_0 at h
  refine lv_aload_n hx hb dX6_add_0 rfl (lv_at hl 0 rfl) ?_
  refine gf_v (k := 2) (v := .int (m0 0 2)) cx' hP 0 i_X6 rfl rfl (by decide) kw_164 rfl rfl dX6_add_1 ?_
  refine lv_bipush (v := 8) hx hb dX6_add_4 (by decide) ?_
  refine lv_icmp_ge (tgt := 39) hx hb dX6_add_6 (by decide) (fun c_1 => ?_) (fun c_1 => ?_)
  · have h := h.1 c_1
    exact rt_v (u := m0) cx hP hD hS h dX6_add_39
  have h := h.2 c_1
  refine lv_aload_n hx hb dX6_add_9 rfl (lv_at hl 0 rfl) ?_
  refine gf_v (k := 0) (v := .ref (q0 1)) cx' hP 0 i_X6 rfl rfl (by decide) kw_160 rfl rfl dX6_add_10 ?_
  refine lv_aload_n hx hb dX6_add_13 rfl (lv_at hl 0 rfl) ?_
  refine gf_v (k := 2) (v := .int (m0 0 2)) cx' hP 0 i_X6 rfl rfl (by decide) kw_164 rfl rfl dX6_add_14 ?_
  refine lv_iload_n hx hb dX6_add_17 rfl (lv_at hl 1 rfl) ?_
  obtain ⟨m0_2, em0_2⟩ : ∃ z : Mem, z = up2 m0 1 (Int32.toNatClampNeg (m0 0 2)) x1 := ⟨_, rfl⟩
  have h1 := h.1
  have h := h.2 m0_2 em0_2
  refine st_i hx hb hK hP hD hS 1 0 (ww_X6 cI cJ q0 m0_2) rfl rfl h1 dX6_add_18 (by subst em0_2; rfl) (fun H locs hP hD hS => ?_)
  refine lv_aload_n hx hb dX6_add_19 rfl (lv_at hl 0 rfl) ?_
  refine gf_v (k := 1) (v := .ref (q0 2)) cx' hP 0 i_X6 rfl rfl (by decide) kw_162 rfl rfl dX6_add_20 ?_
  refine lv_aload_n hx hb dX6_add_23 rfl (lv_at hl 0 rfl) ?_
  refine gf_v (k := 2) (v := .int (m0_2 0 2)) cx' hP 0 i_X6 rfl rfl (by decide) kw_164 rfl rfl dX6_add_24 ?_
  refine lv_iload_n hx hb dX6_add_27 rfl (lv_at hl 2 rfl) ?_
  obtain ⟨m0_3, em0_3⟩ : ∃ z : Mem, z = up2 m0_2 2 (Int32.toNatClampNeg (m0_2 0 2)) x2 := ⟨_, rfl⟩
  have h1 := h.1
  have h := h.2 m0_3 em0_3
  refine st_i hx hb hK hP hD hS 2 0 (ww_X6 cI cJ q0 m0_3) rfl rfl h1 dX6_add_28 (by subst em0_3; rfl) (fun H locs hP hD hS => ?_)
  refine lv_aload_n hx hb dX6_add_29 rfl (lv_at hl 0 rfl) ?_
  refine lv_dup hx hb dX6_add_30 rfl ?_
  refine gf_v (k := 2) (v := .int (m0_3 0 2)) cx' hP 0 i_X6 rfl rfl (by decide) kw_164 rfl rfl dX6_add_31 ?_
  refine lv_iconst (v := 1) hx hb dX6_add_34 (by decide) ?_
  refine lv_iadd hx hb dX6_add_35 ?_
  obtain ⟨m0_4, em0_4⟩ : ∃ z : Mem, z = up2 m0_3 0 2 ((m0_3 0 2) + 1) := ⟨_, rfl⟩
  have h := h m0_4 em0_4
  refine pf_v (k := 2) (tf := .int) cx' hP hD hS 0 (ww_X6 cI cJ q0 m0_4) i_X6 tyX6 tyX6_ok nmX6 rfl rfl (by decide) kw_164 rfl rfl rfl rfl rfl (Nat.le_of_ble_eq_true rfl) dX6_add_36 (by subst em0_4; rfl) (fun H locs hP hD hS => ?_)
  exact rt_v (u := m0_4) cx hP hD hS h dX6_add_39
set_option maxRecDepth 100000 in
theorem c_X6_add (l : Launch) {dC : Nat → ClassId} {dI : Nat → Nat → Nat} {cI cJ : ClassId} (sz : Nat) (q0 : Nat → Nat) (m0 : Mem) (x1 : Int32) (x2 : Int32) (post : Mem → Prop) (h : wp_X6_add m0 x1 x2 post) : Met l yX6_add (Cond.code yX6_add cX6_add 3 none :: gt) ({ frames := 0, cells := 0, slots := 0, locals := 0 }) (va_Pc [.ref (q0 0), .int x1, .int x2] (PRE (dC, dI) (TY cI cJ) (ww_X6 cI cJ q0 m0) sz)) (va_Qv (S := Mem) (fun (u : Mem) => post u) (fun u t => AT (dC, dI) (TY cI cJ) (va_A (ww_X6 cI cJ q0 m0) sz) (ww_X6 cI cJ q0 u) t) (va_A (ww_X6 cI cJ q0 m0) sz)) 0 0 (va_A (ww_X6 cI cJ q0 m0) sz) :=
  met_of (own := RX6) (Qf := fun A => va_Qv (S := Mem) (fun (u : Mem) => post u) (fun u t => AT (dC, dI) (TY cI cJ) A (ww_X6 cI cJ q0 u) t) A) (by decide) rfl (Nat.le_of_ble_eq_true rfl) rfl (fun p e s m below meth c A cx hA ls hP hD hS hl => w_X6_add_0 cx hA x1 x2 m0 _ _ ls hP hD hS hl h)
theorem mv_X6_add : MV yX6_add cX6_add 3 none 2 := ⟨⟨kw_524, kw_6, by decide +kernel⟩, kw_522, kw_523⟩
set_option maxHeartbeats 4000000 in
set_option maxRecDepth 100000 in
theorem w_J6_bitCount_0f7a4_0 {p : Program} {l : Launch} {e : Env} {s : State} {m : MethodId} {args : Array Value} {below : List Frame} {meth : Method} {c : Code} {dC : Nat → ClassId} {dI : Nat → Nat → Nat} {cI cJ : ClassId} {A : Nat → Prop} (cx : CX RJ6 cJ6_bitCount_0f7a4 (some .int) 1 p s m args meth c (dC, dI) (TY cI cJ)) (hA : ∀ q, s.heap.size ≤ q → A q) {post : Int32 → Prop} : ∀ (x0 : Int32) (H : Heap) (locs : List Loc) (ls : Array Slot), va_P (dC, dI) vwCl ([]) H → va_D A ([]) → va_S A s.heap H locs → lv_has ls 1 [(0, .int x0)] → b_J6_bitCount_0f7a4_0 post x0 → W p l e ({ frames := 0, cells := 0, slots := 0, locals := 0 }) s m args below meth c H locs 0 0 (MQ below (va_Qi (S := Unit) (fun (r : Int32) (_u : Unit) => post r) (fun _u t => AT (dC, dI) (TY cI cJ) A ([]) t) A) args s 0 0 A) (F0 m 0 ls []) := by
  obtain ⟨hx, hb, hr, hml, hown, hts, hlocks, hK⟩ := id cx
  have cx' : CX RJ6 cJ6_bitCount_0f7a4 (meth.sig.returnType) 1 p s m args meth c (dC, dI) (TY cI cJ) := ⟨hx, hb, rfl, hml, hown, hts, hlocks, hK⟩
  intro x0 H locs ls hP hD hS hl h
  unfold b_J6_bitCount_0f7a4_0 at h
  refine lv_iload_n hx hb dJ6_bitCount_0f7a4_0 rfl (lv_at hl 0 rfl) ?_
  refine lv_iload_n hx hb dJ6_bitCount_0f7a4_1 rfl (lv_at hl 0 rfl) ?_
  refine lv_iconst (v := 1) hx hb dJ6_bitCount_0f7a4_2 (by decide) ?_
  refine lv_iushr (v := ushr x0 1) hx hb dJ6_bitCount_0f7a4_3 rfl ?_
  refine lv_ldcw hx hb hown (hts _ kw_503) dJ6_bitCount_0f7a4_4 ?_
  refine lv_iand hx hb dJ6_bitCount_0f7a4_7 ?_
  refine lv_isub hx hb dJ6_bitCount_0f7a4_8 ?_
  refine lv_topi (fun x0_1 ex0_1 => ?_)
  have h := h x0_1 ex0_1
  refine lv_istore_n (lv' := [(0, .int x0_1)]) hx hb dJ6_bitCount_0f7a4_9 rfl hl (by decide) rfl (fun ls hl => ?_)
  refine lv_iload_n hx hb dJ6_bitCount_0f7a4_10 rfl (lv_at hl 0 rfl) ?_
  refine lv_ldcw hx hb hown (hts _ kw_504) dJ6_bitCount_0f7a4_11 ?_
  refine lv_iand hx hb dJ6_bitCount_0f7a4_14 ?_
  refine lv_iload_n hx hb dJ6_bitCount_0f7a4_15 rfl (lv_at hl 0 rfl) ?_
  refine lv_iconst (v := 2) hx hb dJ6_bitCount_0f7a4_16 (by decide) ?_
  refine lv_iushr (v := ushr x0_1 2) hx hb dJ6_bitCount_0f7a4_17 rfl ?_
  refine lv_ldcw hx hb hown (hts _ kw_504) dJ6_bitCount_0f7a4_18 ?_
  refine lv_iand hx hb dJ6_bitCount_0f7a4_21 ?_
  refine lv_iadd hx hb dJ6_bitCount_0f7a4_22 ?_
  refine lv_topi (fun x0_2 ex0_2 => ?_)
  have h := h x0_2 ex0_2
  refine lv_istore_n (lv' := [(0, .int x0_2)]) hx hb dJ6_bitCount_0f7a4_23 rfl hl (by decide) rfl (fun ls hl => ?_)
  refine lv_iload_n hx hb dJ6_bitCount_0f7a4_24 rfl (lv_at hl 0 rfl) ?_
  refine lv_iload_n hx hb dJ6_bitCount_0f7a4_25 rfl (lv_at hl 0 rfl) ?_
  refine lv_iconst (v := 4) hx hb dJ6_bitCount_0f7a4_26 (by decide) ?_
  refine lv_iushr (v := ushr x0_2 4) hx hb dJ6_bitCount_0f7a4_27 rfl ?_
  refine lv_iadd hx hb dJ6_bitCount_0f7a4_28 ?_
  refine lv_ldcw hx hb hown (hts _ kw_505) dJ6_bitCount_0f7a4_29 ?_
  refine lv_iand hx hb dJ6_bitCount_0f7a4_32 ?_
  refine lv_topi (fun x0_3 ex0_3 => ?_)
  have h := h x0_3 ex0_3
  refine lv_istore_n (lv' := [(0, .int x0_3)]) hx hb dJ6_bitCount_0f7a4_33 rfl hl (by decide) rfl (fun ls hl => ?_)
  refine lv_iload_n hx hb dJ6_bitCount_0f7a4_34 rfl (lv_at hl 0 rfl) ?_
  refine lv_iload_n hx hb dJ6_bitCount_0f7a4_35 rfl (lv_at hl 0 rfl) ?_
  refine lv_bipush (v := 8) hx hb dJ6_bitCount_0f7a4_36 (by decide) ?_
  refine lv_iushr (v := ushr x0_3 8) hx hb dJ6_bitCount_0f7a4_38 rfl ?_
  refine lv_iadd hx hb dJ6_bitCount_0f7a4_39 ?_
  refine lv_topi (fun x0_4 ex0_4 => ?_)
  have h := h x0_4 ex0_4
  refine lv_istore_n (lv' := [(0, .int x0_4)]) hx hb dJ6_bitCount_0f7a4_40 rfl hl (by decide) rfl (fun ls hl => ?_)
  refine lv_iload_n hx hb dJ6_bitCount_0f7a4_41 rfl (lv_at hl 0 rfl) ?_
  refine lv_iload_n hx hb dJ6_bitCount_0f7a4_42 rfl (lv_at hl 0 rfl) ?_
  refine lv_bipush (v := 16) hx hb dJ6_bitCount_0f7a4_43 (by decide) ?_
  refine lv_iushr (v := ushr x0_4 16) hx hb dJ6_bitCount_0f7a4_45 rfl ?_
  refine lv_iadd hx hb dJ6_bitCount_0f7a4_46 ?_
  refine lv_topi (fun x0_5 ex0_5 => ?_)
  have h := h x0_5 ex0_5
  refine lv_istore_n (lv' := [(0, .int x0_5)]) hx hb dJ6_bitCount_0f7a4_47 rfl hl (by decide) rfl (fun ls hl => ?_)
  refine lv_iload_n hx hb dJ6_bitCount_0f7a4_48 rfl (lv_at hl 0 rfl) ?_
  refine lv_bipush (v := 63) hx hb dJ6_bitCount_0f7a4_49 (by decide) ?_
  refine lv_iand hx hb dJ6_bitCount_0f7a4_51 ?_
  exact rt_i (v := x0_5 &&& 63) (u := ()) cx hP hD hS h dJ6_bitCount_0f7a4_52
set_option maxRecDepth 100000 in
theorem c_J6_bitCount_0f7a4 (l : Launch) {dC : Nat → ClassId} {dI : Nat → Nat → Nat} {cI cJ : ClassId} (sz : Nat) (x0 : Int32) (post : Int32 → Prop) (h : wp_J6_bitCount_0f7a4 x0 post) : Met l yJ6_bitCount_0f7a4 (Cond.code yJ6_bitCount_0f7a4 cJ6_bitCount_0f7a4 1 (some .int) :: gt) ({ frames := 0, cells := 0, slots := 0, locals := 0 }) (va_Pc [.int x0] (PRE (dC, dI) (TY cI cJ) ([]) sz)) (va_Qi (S := Unit) (fun (r : Int32) (_u : Unit) => post r) (fun _u t => AT (dC, dI) (TY cI cJ) (va_A ([]) sz) ([]) t) (va_A ([]) sz)) 0 0 (va_A ([]) sz) :=
  met_of (own := RJ6) (Qf := fun A => va_Qi (S := Unit) (fun (r : Int32) (_u : Unit) => post r) (fun _u t => AT (dC, dI) (TY cI cJ) A ([]) t) A) (by decide) rfl (Nat.le_of_ble_eq_true rfl) rfl (fun p e s m below meth c A cx hA ls hP hD hS hl => w_J6_bitCount_0f7a4_0 cx hA x0 _ _ ls hP hD hS hl h)
theorem ms_J6_bitCount_0f7a4 : MS yJ6_bitCount_0f7a4 cJ6_bitCount_0f7a4 1 (some .int) 1 := ⟨⟨kw_502, kw_13, by decide +kernel⟩, kw_501⟩

